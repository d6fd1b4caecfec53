theorem dX10_in_0 : decode cX10_in 0 = .ok (.lload_n 0, 1) := by decide +kernel
theorem dX10_in_1 : decode cX10_in 1 = .ok (.lload_n 2, 1) := by decide +kernel
theorem dX10_in_2 : decode cX10_in 2 = .ok (.lcmp, 1) := by decide +kernel
theorem dX10_in_3 : decode cX10_in 3 = .ok (.ifCond .lt 14, 3) := by decide +kernel
theorem dX10_in_6 : decode cX10_in 6 = .ok (.lload_n 0, 1) := by decide +kernel
theorem dX10_in_7 : decode cX10_in 7 = .ok (.lload 4, 2) := by decide +kernel
theorem dX10_in_9 : decode cX10_in 9 = .ok (.lcmp, 1) := by decide +kernel
theorem dX10_in_10 : decode cX10_in 10 = .ok (.ifCond .gt 7, 3) := by decide +kernel
theorem dX10_in_13 : decode cX10_in 13 = .ok (.iconst 1, 1) := by decide +kernel
theorem dX10_in_14 : decode cX10_in 14 = .ok (.goto 4, 3) := by decide +kernel
theorem dX10_in_17 : decode cX10_in 17 = .ok (.iconst 0, 1) := by decide +kernel
theorem dX10_in_18 : decode cX10_in 18 = .ok (.ireturn, 1) := by decide +kernel
theorem dX10_init_0 : decode cX10_init 0 = .ok (.aload_n 0, 1) := by decide +kernel
theorem dX10_init_1 : decode cX10_init 1 = .ok (.invokespecial 1, 3) := by decide +kernel
theorem dX10_init_4 : decode cX10_init 4 = .ok (.aload_n 0, 1) := by decide +kernel
theorem dX10_init_5 : decode cX10_init 5 = .ok (.bipush 37, 2) := by decide +kernel
theorem dX10_init_7 : decode cX10_init 7 = .ok (.newarray .int, 2) := by decide +kernel
theorem dX10_init_9 : decode cX10_init 9 = .ok (.putfield 7, 3) := by decide +kernel
theorem dX10_init_12 : decode cX10_init 12 = .ok (.aload_n 0, 1) := by decide +kernel
theorem dX10_init_13 : decode cX10_init 13 = .ok (.iconst (-1), 1) := by decide +kernel
theorem dX10_init_14 : decode cX10_init 14 = .ok (.putfield 13, 3) := by decide +kernel
theorem dX10_init_17 : decode cX10_init 17 = .ok (.aload_n 0, 1) := by decide +kernel
theorem dX10_init_18 : decode cX10_init 18 = .ok (.bipush 60, 2) := by decide +kernel
theorem dX10_init_20 : decode cX10_init 20 = .ok (.newarray .int, 2) := by decide +kernel
theorem dX10_init_22 : decode cX10_init 22 = .ok (.putfield 17, 3) := by decide +kernel
theorem dX10_init_25 : decode cX10_init 25 = .ok (.aload_n 0, 1) := by decide +kernel
theorem dX10_init_26 : decode cX10_init 26 = .ok (.bipush 24, 2) := by decide +kernel
theorem dX10_init_28 : decode cX10_init 28 = .ok (.newarray .int, 2) := by decide +kernel
theorem dX10_init_30 : decode cX10_init 30 = .ok (.putfield 20, 3) := by decide +kernel
theorem dX10_init_33 : decode cX10_init 33 = .ok (.aload_n 0, 1) := by decide +kernel
theorem dX10_init_34 : decode cX10_init 34 = .ok (.bipush 48, 2) := by decide +kernel
theorem dX10_init_36 : decode cX10_init 36 = .ok (.newarray .int, 2) := by decide +kernel
theorem dX10_init_38 : decode cX10_init 38 = .ok (.putfield 23, 3) := by decide +kernel
theorem dX10_init_41 : decode cX10_init 41 = .ok (.aload_n 0, 1) := by decide +kernel
theorem dX10_init_42 : decode cX10_init 42 = .ok (.sipush 8241, 3) := by decide +kernel
theorem dX10_init_45 : decode cX10_init 45 = .ok (.newarray .int, 2) := by decide +kernel
theorem dX10_init_47 : decode cX10_init 47 = .ok (.putfield 26, 3) := by decide +kernel
theorem dX10_init_50 : decode cX10_init 50 = .ok (.aload_n 0, 1) := by decide +kernel
theorem dX10_init_51 : decode cX10_init 51 = .ok (.sipush 201, 3) := by decide +kernel
theorem dX10_init_54 : decode cX10_init 54 = .ok (.newarray .int, 2) := by decide +kernel
theorem dX10_init_56 : decode cX10_init 56 = .ok (.putfield 29, 3) := by decide +kernel
theorem dX10_init_59 : decode cX10_init 59 = .ok (.aload_n 0, 1) := by decide +kernel
theorem dX10_init_60 : decode cX10_init 60 = .ok (.sipush 201, 3) := by decide +kernel
theorem dX10_init_63 : decode cX10_init 63 = .ok (.newarray .int, 2) := by decide +kernel
theorem dX10_init_65 : decode cX10_init 65 = .ok (.putfield 32, 3) := by decide +kernel
theorem dX10_init_68 : decode cX10_init 68 = .ok (.aload_n 0, 1) := by decide +kernel
theorem dX10_init_69 : decode cX10_init 69 = .ok (.bipush 85, 2) := by decide +kernel
theorem dX10_init_71 : decode cX10_init 71 = .ok (.newarray .int, 2) := by decide +kernel
theorem dX10_init_73 : decode cX10_init 73 = .ok (.putfield 35, 3) := by decide +kernel
theorem dX10_init_76 : decode cX10_init 76 = .ok (.aload_n 0, 1) := by decide +kernel
theorem dX10_init_77 : decode cX10_init 77 = .ok (.iconst 4, 1) := by decide +kernel
theorem dX10_init_78 : decode cX10_init 78 = .ok (.newarray .int, 2) := by decide +kernel
theorem dX10_init_80 : decode cX10_init 80 = .ok (.putfield 38, 3) := by decide +kernel
theorem dX10_init_83 : decode cX10_init 83 = .ok (.aload_n 0, 1) := by decide +kernel
theorem dX10_init_84 : decode cX10_init 84 = .ok (.iconst 4, 1) := by decide +kernel
theorem dX10_init_85 : decode cX10_init 85 = .ok (.newarray .int, 2) := by decide +kernel
theorem dX10_init_87 : decode cX10_init 87 = .ok (.putfield 41, 3) := by decide +kernel
theorem dX10_init_90 : decode cX10_init 90 = .ok (.aload_n 0, 1) := by decide +kernel
theorem dX10_init_91 : decode cX10_init 91 = .ok (.bipush 96, 2) := by decide +kernel
theorem dX10_init_93 : decode cX10_init 93 = .ok (.newarray .long, 2) := by decide +kernel
theorem dX10_init_95 : decode cX10_init 95 = .ok (.putfield 44, 3) := by decide +kernel
theorem dX10_init_98 : decode cX10_init 98 = .ok (.aload_n 0, 1) := by decide +kernel
theorem dX10_init_99 : decode cX10_init 99 = .ok (.bipush 24, 2) := by decide +kernel
theorem dX10_init_101 : decode cX10_init 101 = .ok (.newarray .long, 2) := by decide +kernel
theorem dX10_init_103 : decode cX10_init 103 = .ok (.putfield 48, 3) := by decide +kernel
theorem dX10_init_106 : decode cX10_init 106 = .ok (.aload_n 0, 1) := by decide +kernel
theorem dX10_init_107 : decode cX10_init 107 = .ok (.getfield 7, 3) := by decide +kernel
theorem dX10_init_110 : decode cX10_init 110 = .ok (.iconst 2, 1) := by decide +kernel
theorem dX10_init_111 : decode cX10_init 111 = .ok (.bipush 60, 2) := by decide +kernel
theorem dX10_init_113 : decode cX10_init 113 = .ok (.iastore, 1) := by decide +kernel
theorem dX10_init_114 : decode cX10_init 114 = .ok (.aload_n 0, 1) := by decide +kernel
theorem dX10_init_115 : decode cX10_init 115 = .ok (.getfield 7, 3) := by decide +kernel
theorem dX10_init_118 : decode cX10_init 118 = .ok (.iconst 3, 1) := by decide +kernel
theorem dX10_init_119 : decode cX10_init 119 = .ok (.bipush 20, 2) := by decide +kernel
theorem dX10_init_121 : decode cX10_init 121 = .ok (.iastore, 1) := by decide +kernel
theorem dX10_init_122 : decode cX10_init 122 = .ok (.aload_n 0, 1) := by decide +kernel
theorem dX10_init_123 : decode cX10_init 123 = .ok (.getfield 7, 3) := by decide +kernel
theorem dX10_init_126 : decode cX10_init 126 = .ok (.iconst 4, 1) := by decide +kernel
theorem dX10_init_127 : decode cX10_init 127 = .ok (.iconst 2, 1) := by decide +kernel
theorem dX10_init_128 : decode cX10_init 128 = .ok (.iastore, 1) := by decide +kernel
theorem dX10_init_129 : decode cX10_init 129 = .ok (.aload_n 0, 1) := by decide +kernel
theorem dX10_init_130 : decode cX10_init 130 = .ok (.getfield 7, 3) := by decide +kernel
theorem dX10_init_133 : decode cX10_init 133 = .ok (.iconst 5, 1) := by decide +kernel
theorem dX10_init_134 : decode cX10_init 134 = .ok (.iconst 1, 1) := by decide +kernel
theorem dX10_init_135 : decode cX10_init 135 = .ok (.iastore, 1) := by decide +kernel
theorem dX10_init_136 : decode cX10_init 136 = .ok (.aload_n 0, 1) := by decide +kernel
theorem dX10_init_137 : decode cX10_init 137 = .ok (.getfield 7, 3) := by decide +kernel
theorem dX10_init_140 : decode cX10_init 140 = .ok (.bipush 11, 2) := by decide +kernel
theorem dX10_init_142 : decode cX10_init 142 = .ok (.bipush 15, 2) := by decide +kernel
theorem dX10_init_144 : decode cX10_init 144 = .ok (.iastore, 1) := by decide +kernel
theorem dX10_init_145 : decode cX10_init 145 = .ok (.aload_n 0, 1) := by decide +kernel
theorem dX10_init_146 : decode cX10_init 146 = .ok (.getfield 7, 3) := by decide +kernel
theorem dX10_init_149 : decode cX10_init 149 = .ok (.bipush 12, 2) := by decide +kernel
theorem dX10_init_151 : decode cX10_init 151 = .ok (.iconst 1, 1) := by decide +kernel
theorem dX10_init_152 : decode cX10_init 152 = .ok (.iastore, 1) := by decide +kernel
theorem dX10_init_153 : decode cX10_init 153 = .ok (.iconst 0, 1) := by decide +kernel
theorem dX10_init_154 : decode cX10_init 154 = .ok (.istore_n 1, 1) := by decide +kernel
theorem dX10_init_155 : decode cX10_init 155 = .ok (.iload_n 1, 1) := by decide +kernel
theorem dX10_init_156 : decode cX10_init 156 = .ok (.iconst 4, 1) := by decide +kernel
theorem dX10_init_157 : decode cX10_init 157 = .ok (.if_icmp .ge 16, 3) := by decide +kernel
theorem dX10_init_160 : decode cX10_init 160 = .ok (.aload_n 0, 1) := by decide +kernel
theorem dX10_init_161 : decode cX10_init 161 = .ok (.getfield 38, 3) := by decide +kernel
theorem dX10_init_164 : decode cX10_init 164 = .ok (.iload_n 1, 1) := by decide +kernel
theorem dX10_init_165 : decode cX10_init 165 = .ok (.iconst (-1), 1) := by decide +kernel
theorem dX10_init_166 : decode cX10_init 166 = .ok (.iastore, 1) := by decide +kernel
theorem dX10_init_167 : decode cX10_init 167 = .ok (.iinc 1 1, 3) := by decide +kernel
theorem dX10_init_170 : decode cX10_init 170 = .ok (.goto (-15), 3) := by decide +kernel
theorem dX10_init_173 : decode cX10_init 173 = .ok (.return_, 1) := by decide +kernel
theorem dX10_isBuilder_0 : decode cX10_isBuilder 0 = .ok (.iload_n 1, 1) := by decide +kernel
theorem dX10_isBuilder_1 : decode cX10_isBuilder 1 = .ok (.i2l, 1) := by decide +kernel
theorem dX10_isBuilder_2 : decode cX10_isBuilder 2 = .ok (.lconst 0, 1) := by decide +kernel
theorem dX10_isBuilder_3 : decode cX10_isBuilder 3 = .ok (.aload_n 0, 1) := by decide +kernel
theorem dX10_isBuilder_4 : decode cX10_isBuilder 4 = .ok (.getfield 7, 3) := by decide +kernel
theorem dX10_isBuilder_7 : decode cX10_isBuilder 7 = .ok (.iconst 0, 1) := by decide +kernel
theorem dX10_isBuilder_8 : decode cX10_isBuilder 8 = .ok (.iaload, 1) := by decide +kernel
theorem dX10_isBuilder_9 : decode cX10_isBuilder 9 = .ok (.iconst 1, 1) := by decide +kernel
theorem dX10_isBuilder_10 : decode cX10_isBuilder 10 = .ok (.isub, 1) := by decide +kernel
theorem dX10_isBuilder_11 : decode cX10_isBuilder 11 = .ok (.i2l, 1) := by decide +kernel
theorem dX10_isBuilder_12 : decode cX10_isBuilder 12 = .ok (.invokestatic 51, 3) := by decide +kernel
theorem dX10_isBuilder_15 : decode cX10_isBuilder 15 = .ok (.ireturn, 1) := by decide +kernel
theorem dX10_isHindrance_0 : decode cX10_isHindrance 0 = .ok (.iload_n 1, 1) := by decide +kernel
theorem dX10_isHindrance_1 : decode cX10_isHindrance 1 = .ok (.i2l, 1) := by decide +kernel
theorem dX10_isHindrance_2 : decode cX10_isHindrance 2 = .ok (.lconst 0, 1) := by decide +kernel
theorem dX10_isHindrance_3 : decode cX10_isHindrance 3 = .ok (.aload_n 0, 1) := by decide +kernel
theorem dX10_isHindrance_4 : decode cX10_isHindrance 4 = .ok (.getfield 7, 3) := by decide +kernel
theorem dX10_isHindrance_7 : decode cX10_isHindrance 7 = .ok (.iconst 1, 1) := by decide +kernel
theorem dX10_isHindrance_8 : decode cX10_isHindrance 8 = .ok (.iaload, 1) := by decide +kernel
theorem dX10_isHindrance_9 : decode cX10_isHindrance 9 = .ok (.iconst 1, 1) := by decide +kernel
theorem dX10_isHindrance_10 : decode cX10_isHindrance 10 = .ok (.isub, 1) := by decide +kernel
theorem dX10_isHindrance_11 : decode cX10_isHindrance 11 = .ok (.i2l, 1) := by decide +kernel
theorem dX10_isHindrance_12 : decode cX10_isHindrance 12 = .ok (.invokestatic 51, 3) := by decide +kernel
theorem dX10_isHindrance_15 : decode cX10_isHindrance 15 = .ok (.ireturn, 1) := by decide +kernel
theorem dX10_isWeather_0 : decode cX10_isWeather 0 = .ok (.iload_n 0, 1) := by decide +kernel
theorem dX10_isWeather_1 : decode cX10_isWeather 1 = .ok (.i2l, 1) := by decide +kernel
theorem dX10_isWeather_2 : decode cX10_isWeather 2 = .ok (.lconst 0, 1) := by decide +kernel
theorem dX10_isWeather_3 : decode cX10_isWeather 3 = .ok (.ldc2_w 55, 3) := by decide +kernel
theorem dX10_isWeather_6 : decode cX10_isWeather 6 = .ok (.invokestatic 51, 3) := by decide +kernel
theorem dX10_isWeather_9 : decode cX10_isWeather 9 = .ok (.ireturn, 1) := by decide +kernel
theorem dX10_haulsOf_0 : decode cX10_haulsOf 0 = .ok (.bipush 13, 2) := by decide +kernel
theorem dX10_haulsOf_2 : decode cX10_haulsOf 2 = .ok (.iconst 3, 1) := by decide +kernel
theorem dX10_haulsOf_3 : decode cX10_haulsOf 3 = .ok (.iload_n 1, 1) := by decide +kernel
theorem dX10_haulsOf_4 : decode cX10_haulsOf 4 = .ok (.imul, 1) := by decide +kernel
theorem dX10_haulsOf_5 : decode cX10_haulsOf 5 = .ok (.iadd, 1) := by decide +kernel
theorem dX10_haulsOf_6 : decode cX10_haulsOf 6 = .ok (.istore_n 3, 1) := by decide +kernel
theorem dX10_haulsOf_7 : decode cX10_haulsOf 7 = .ok (.aload_n 0, 1) := by decide +kernel
theorem dX10_haulsOf_8 : decode cX10_haulsOf 8 = .ok (.getfield 7, 3) := by decide +kernel
theorem dX10_haulsOf_11 : decode cX10_haulsOf 11 = .ok (.iload_n 3, 1) := by decide +kernel
theorem dX10_haulsOf_12 : decode cX10_haulsOf 12 = .ok (.iconst 1, 1) := by decide +kernel
theorem dX10_haulsOf_13 : decode cX10_haulsOf 13 = .ok (.iadd, 1) := by decide +kernel
theorem dX10_haulsOf_14 : decode cX10_haulsOf 14 = .ok (.iaload, 1) := by decide +kernel
theorem dX10_haulsOf_15 : decode cX10_haulsOf 15 = .ok (.iload_n 1, 1) := by decide +kernel
theorem dX10_haulsOf_16 : decode cX10_haulsOf 16 = .ok (.aload_n 0, 1) := by decide +kernel
theorem dX10_haulsOf_17 : decode cX10_haulsOf 17 = .ok (.getfield 13, 3) := by decide +kernel
theorem dX10_haulsOf_20 : decode cX10_haulsOf 20 = .ok (.if_icmp .ne 10, 3) := by decide +kernel
theorem dX10_haulsOf_23 : decode cX10_haulsOf 23 = .ok (.aload_n 0, 1) := by decide +kernel
theorem dX10_haulsOf_24 : decode cX10_haulsOf 24 = .ok (.getfield 57, 3) := by decide +kernel
theorem dX10_haulsOf_27 : decode cX10_haulsOf 27 = .ok (.goto 4, 3) := by decide +kernel
theorem dX10_haulsOf_30 : decode cX10_haulsOf 30 = .ok (.iconst 0, 1) := by decide +kernel
theorem dX10_haulsOf_31 : decode cX10_haulsOf 31 = .ok (.iadd, 1) := by decide +kernel
theorem dX10_haulsOf_32 : decode cX10_haulsOf 32 = .ok (.istore 4, 2) := by decide +kernel
theorem dX10_haulsOf_34 : decode cX10_haulsOf 34 = .ok (.aload_n 0, 1) := by decide +kernel
theorem dX10_haulsOf_35 : decode cX10_haulsOf 35 = .ok (.getfield 7, 3) := by decide +kernel
theorem dX10_haulsOf_38 : decode cX10_haulsOf 38 = .ok (.iload_n 3, 1) := by decide +kernel
theorem dX10_haulsOf_39 : decode cX10_haulsOf 39 = .ok (.iaload, 1) := by decide +kernel
theorem dX10_haulsOf_40 : decode cX10_haulsOf 40 = .ok (.tableswitch 66 1 4 #[32, 66, 44, 58], 32) := by decide +kernel
theorem dX10_haulsOf_72 : decode cX10_haulsOf 72 = .ok (.iload 4, 2) := by decide +kernel
theorem dX10_haulsOf_74 : decode cX10_haulsOf 74 = .ok (.aload_n 0, 1) := by decide +kernel
theorem dX10_haulsOf_75 : decode cX10_haulsOf 75 = .ok (.getfield 7, 3) := by decide +kernel
theorem dX10_haulsOf_78 : decode cX10_haulsOf 78 = .ok (.iload_n 3, 1) := by decide +kernel
theorem dX10_haulsOf_79 : decode cX10_haulsOf 79 = .ok (.iconst 2, 1) := by decide +kernel
theorem dX10_haulsOf_80 : decode cX10_haulsOf 80 = .ok (.iadd, 1) := by decide +kernel
theorem dX10_haulsOf_81 : decode cX10_haulsOf 81 = .ok (.iaload, 1) := by decide +kernel
theorem dX10_haulsOf_82 : decode cX10_haulsOf 82 = .ok (.iadd, 1) := by decide +kernel
theorem dX10_haulsOf_83 : decode cX10_haulsOf 83 = .ok (.ireturn, 1) := by decide +kernel
theorem dX10_haulsOf_84 : decode cX10_haulsOf 84 = .ok (.iconst 2, 1) := by decide +kernel
theorem dX10_haulsOf_85 : decode cX10_haulsOf 85 = .ok (.iload 4, 2) := by decide +kernel
theorem dX10_haulsOf_87 : decode cX10_haulsOf 87 = .ok (.aload_n 0, 1) := by decide +kernel
theorem dX10_haulsOf_88 : decode cX10_haulsOf 88 = .ok (.getfield 7, 3) := by decide +kernel
theorem dX10_haulsOf_91 : decode cX10_haulsOf 91 = .ok (.iload_n 3, 1) := by decide +kernel
theorem dX10_haulsOf_92 : decode cX10_haulsOf 92 = .ok (.iconst 2, 1) := by decide +kernel
theorem dX10_haulsOf_93 : decode cX10_haulsOf 93 = .ok (.iadd, 1) := by decide +kernel
theorem dX10_haulsOf_94 : decode cX10_haulsOf 94 = .ok (.iaload, 1) := by decide +kernel
theorem dX10_haulsOf_95 : decode cX10_haulsOf 95 = .ok (.iadd, 1) := by decide +kernel
theorem dX10_haulsOf_96 : decode cX10_haulsOf 96 = .ok (.imul, 1) := by decide +kernel
theorem dX10_haulsOf_97 : decode cX10_haulsOf 97 = .ok (.ireturn, 1) := by decide +kernel
theorem dX10_haulsOf_98 : decode cX10_haulsOf 98 = .ok (.iload 4, 2) := by decide +kernel
theorem dX10_haulsOf_100 : decode cX10_haulsOf 100 = .ok (.iload_n 2, 1) := by decide +kernel
theorem dX10_haulsOf_101 : decode cX10_haulsOf 101 = .ok (.bipush 10, 2) := by decide +kernel
theorem dX10_haulsOf_103 : decode cX10_haulsOf 103 = .ok (.idiv, 1) := by decide +kernel
theorem dX10_haulsOf_104 : decode cX10_haulsOf 104 = .ok (.iadd, 1) := by decide +kernel
theorem dX10_haulsOf_105 : decode cX10_haulsOf 105 = .ok (.ireturn, 1) := by decide +kernel
theorem dX10_haulsOf_106 : decode cX10_haulsOf 106 = .ok (.iload 4, 2) := by decide +kernel
theorem dX10_haulsOf_108 : decode cX10_haulsOf 108 = .ok (.ireturn, 1) := by decide +kernel
theorem dX10_laysOf_0 : decode cX10_laysOf 0 = .ok (.aload_n 0, 1) := by decide +kernel
theorem dX10_laysOf_1 : decode cX10_laysOf 1 = .ok (.iload_n 1, 1) := by decide +kernel
theorem dX10_laysOf_2 : decode cX10_laysOf 2 = .ok (.iload_n 3, 1) := by decide +kernel
theorem dX10_laysOf_3 : decode cX10_laysOf 3 = .ok (.invokevirtual 60, 3) := by decide +kernel
theorem dX10_laysOf_6 : decode cX10_laysOf 6 = .ok (.istore 4, 2) := by decide +kernel
theorem dX10_laysOf_8 : decode cX10_laysOf 8 = .ok (.aload_n 0, 1) := by decide +kernel
theorem dX10_laysOf_9 : decode cX10_laysOf 9 = .ok (.getfield 7, 3) := by decide +kernel
theorem dX10_laysOf_12 : decode cX10_laysOf 12 = .ok (.bipush 13, 2) := by decide +kernel
theorem dX10_laysOf_14 : decode cX10_laysOf 14 = .ok (.iconst 3, 1) := by decide +kernel
theorem dX10_laysOf_15 : decode cX10_laysOf 15 = .ok (.iload_n 1, 1) := by decide +kernel
theorem dX10_laysOf_16 : decode cX10_laysOf 16 = .ok (.imul, 1) := by decide +kernel
theorem dX10_laysOf_17 : decode cX10_laysOf 17 = .ok (.iadd, 1) := by decide +kernel
theorem dX10_laysOf_18 : decode cX10_laysOf 18 = .ok (.iaload, 1) := by decide +kernel
theorem dX10_laysOf_19 : decode cX10_laysOf 19 = .ok (.istore 5, 2) := by decide +kernel
theorem dX10_laysOf_21 : decode cX10_laysOf 21 = .ok (.iload_n 2, 1) := by decide +kernel
theorem dX10_laysOf_22 : decode cX10_laysOf 22 = .ok (.ifCond .eq 14, 3) := by decide +kernel
theorem dX10_laysOf_25 : decode cX10_laysOf 25 = .ok (.iload_n 2, 1) := by decide +kernel
theorem dX10_laysOf_26 : decode cX10_laysOf 26 = .ok (.iconst 1, 1) := by decide +kernel
theorem dX10_laysOf_27 : decode cX10_laysOf 27 = .ok (.if_icmp .ne 12, 3) := by decide +kernel
theorem dX10_laysOf_30 : decode cX10_laysOf 30 = .ok (.iload 5, 2) := by decide +kernel
theorem dX10_laysOf_32 : decode cX10_laysOf 32 = .ok (.iconst 2, 1) := by decide +kernel
theorem dX10_laysOf_33 : decode cX10_laysOf 33 = .ok (.if_icmp .ne 6, 3) := by decide +kernel
theorem dX10_laysOf_36 : decode cX10_laysOf 36 = .ok (.iload 4, 2) := by decide +kernel
theorem dX10_laysOf_38 : decode cX10_laysOf 38 = .ok (.ireturn, 1) := by decide +kernel
theorem dX10_laysOf_39 : decode cX10_laysOf 39 = .ok (.iload_n 2, 1) := by decide +kernel
theorem dX10_laysOf_40 : decode cX10_laysOf 40 = .ok (.iconst 1, 1) := by decide +kernel
theorem dX10_laysOf_41 : decode cX10_laysOf 41 = .ok (.if_icmp .ne 10, 3) := by decide +kernel
theorem dX10_laysOf_44 : decode cX10_laysOf 44 = .ok (.iload 4, 2) := by decide +kernel
theorem dX10_laysOf_46 : decode cX10_laysOf 46 = .ok (.iconst 2, 1) := by decide +kernel
theorem dX10_laysOf_47 : decode cX10_laysOf 47 = .ok (.idiv, 1) := by decide +kernel
theorem dX10_laysOf_48 : decode cX10_laysOf 48 = .ok (.goto 20, 3) := by decide +kernel
theorem dX10_laysOf_51 : decode cX10_laysOf 51 = .ok (.iload 5, 2) := by decide +kernel
theorem dX10_laysOf_53 : decode cX10_laysOf 53 = .ok (.iconst 3, 1) := by decide +kernel
theorem dX10_laysOf_54 : decode cX10_laysOf 54 = .ok (.if_icmp .ne 10, 3) := by decide +kernel
theorem dX10_laysOf_57 : decode cX10_laysOf 57 = .ok (.iload 4, 2) := by decide +kernel
theorem dX10_laysOf_59 : decode cX10_laysOf 59 = .ok (.iconst 3, 1) := by decide +kernel
theorem dX10_laysOf_60 : decode cX10_laysOf 60 = .ok (.isub, 1) := by decide +kernel
theorem dX10_laysOf_61 : decode cX10_laysOf 61 = .ok (.goto 7, 3) := by decide +kernel
theorem dX10_laysOf_64 : decode cX10_laysOf 64 = .ok (.iload 4, 2) := by decide +kernel
theorem dX10_laysOf_66 : decode cX10_laysOf 66 = .ok (.iconst 1, 1) := by decide +kernel
theorem dX10_laysOf_67 : decode cX10_laysOf 67 = .ok (.isub, 1) := by decide +kernel
theorem dX10_laysOf_68 : decode cX10_laysOf 68 = .ok (.istore 6, 2) := by decide +kernel
theorem dX10_laysOf_70 : decode cX10_laysOf 70 = .ok (.iload 6, 2) := by decide +kernel
theorem dX10_laysOf_72 : decode cX10_laysOf 72 = .ok (.ifCond .ge 7, 3) := by decide +kernel
theorem dX10_laysOf_75 : decode cX10_laysOf 75 = .ok (.iconst 0, 1) := by decide +kernel
theorem dX10_laysOf_76 : decode cX10_laysOf 76 = .ok (.goto 5, 3) := by decide +kernel
theorem dX10_laysOf_79 : decode cX10_laysOf 79 = .ok (.iload 6, 2) := by decide +kernel
theorem dX10_laysOf_81 : decode cX10_laysOf 81 = .ok (.ireturn, 1) := by decide +kernel
theorem dX10_behind_0 : decode cX10_behind 0 = .ok (.iconst 0, 1) := by decide +kernel
theorem dX10_behind_1 : decode cX10_behind 1 = .ok (.istore 4, 2) := by decide +kernel
theorem dX10_behind_3 : decode cX10_behind 3 = .ok (.iconst 0, 1) := by decide +kernel
theorem dX10_behind_4 : decode cX10_behind 4 = .ok (.istore 5, 2) := by decide +kernel
theorem dX10_behind_6 : decode cX10_behind 6 = .ok (.iload 5, 2) := by decide +kernel
theorem dX10_behind_8 : decode cX10_behind 8 = .ok (.aload_n 0, 1) := by decide +kernel
theorem dX10_behind_9 : decode cX10_behind 9 = .ok (.getfield 7, 3) := by decide +kernel
theorem dX10_behind_12 : decode cX10_behind 12 = .ok (.iconst 0, 1) := by decide +kernel
theorem dX10_behind_13 : decode cX10_behind 13 = .ok (.iaload, 1) := by decide +kernel
theorem dX10_behind_14 : decode cX10_behind 14 = .ok (.if_icmp .ge 22, 3) := by decide +kernel
theorem dX10_behind_17 : decode cX10_behind 17 = .ok (.iload 4, 2) := by decide +kernel
theorem dX10_behind_19 : decode cX10_behind 19 = .ok (.aload_n 0, 1) := by decide +kernel
theorem dX10_behind_20 : decode cX10_behind 20 = .ok (.iload 5, 2) := by decide +kernel
theorem dX10_behind_22 : decode cX10_behind 22 = .ok (.iload_n 1, 1) := by decide +kernel
theorem dX10_behind_23 : decode cX10_behind 23 = .ok (.iload_n 2, 1) := by decide +kernel
theorem dX10_behind_24 : decode cX10_behind 24 = .ok (.invokevirtual 64, 3) := by decide +kernel
theorem dX10_behind_27 : decode cX10_behind 27 = .ok (.iadd, 1) := by decide +kernel
theorem dX10_behind_28 : decode cX10_behind 28 = .ok (.istore 4, 2) := by decide +kernel
theorem dX10_behind_30 : decode cX10_behind 30 = .ok (.iinc 5 1, 3) := by decide +kernel
theorem dX10_behind_33 : decode cX10_behind 33 = .ok (.goto (-27), 3) := by decide +kernel
theorem dX10_behind_36 : decode cX10_behind 36 = .ok (.iload_n 2, 1) := by decide +kernel
theorem dX10_behind_37 : decode cX10_behind 37 = .ok (.iload 4, 2) := by decide +kernel
theorem dX10_behind_39 : decode cX10_behind 39 = .ok (.iload_n 3, 1) := by decide +kernel
theorem dX10_behind_40 : decode cX10_behind 40 = .ok (.if_icmp .ge 7, 3) := by decide +kernel
theorem dX10_behind_43 : decode cX10_behind 43 = .ok (.iconst 0, 1) := by decide +kernel
theorem dX10_behind_44 : decode cX10_behind 44 = .ok (.goto 7, 3) := by decide +kernel
theorem dX10_behind_47 : decode cX10_behind 47 = .ok (.iload 4, 2) := by decide +kernel
theorem dX10_behind_49 : decode cX10_behind 49 = .ok (.iload_n 3, 1) := by decide +kernel
theorem dX10_behind_50 : decode cX10_behind 50 = .ok (.isub, 1) := by decide +kernel
theorem dX10_behind_51 : decode cX10_behind 51 = .ok (.iadd, 1) := by decide +kernel
theorem dX10_behind_52 : decode cX10_behind 52 = .ok (.istore 5, 2) := by decide +kernel
theorem dX10_behind_54 : decode cX10_behind 54 = .ok (.iload 5, 2) := by decide +kernel
theorem dX10_behind_56 : decode cX10_behind 56 = .ok (.aload_n 0, 1) := by decide +kernel
theorem dX10_behind_57 : decode cX10_behind 57 = .ok (.getfield 7, 3) := by decide +kernel
theorem dX10_behind_60 : decode cX10_behind 60 = .ok (.iconst 2, 1) := by decide +kernel
theorem dX10_behind_61 : decode cX10_behind 61 = .ok (.iaload, 1) := by decide +kernel
theorem dX10_behind_62 : decode cX10_behind 62 = .ok (.if_icmp .le 12, 3) := by decide +kernel
theorem dX10_behind_65 : decode cX10_behind 65 = .ok (.aload_n 0, 1) := by decide +kernel
theorem dX10_behind_66 : decode cX10_behind 66 = .ok (.getfield 7, 3) := by decide +kernel
theorem dX10_behind_69 : decode cX10_behind 69 = .ok (.iconst 2, 1) := by decide +kernel
theorem dX10_behind_70 : decode cX10_behind 70 = .ok (.iaload, 1) := by decide +kernel
theorem dX10_behind_71 : decode cX10_behind 71 = .ok (.goto 5, 3) := by decide +kernel
theorem dX10_behind_74 : decode cX10_behind 74 = .ok (.iload 5, 2) := by decide +kernel
theorem dX10_behind_76 : decode cX10_behind 76 = .ok (.ireturn, 1) := by decide +kernel
theorem dX10_builder_0 : decode cX10_builder 0 = .ok (.iload_n 1, 1) := by decide +kernel
theorem dX10_builder_1 : decode cX10_builder 1 = .ok (.i2l, 1) := by decide +kernel
theorem dX10_builder_2 : decode cX10_builder 2 = .ok (.lconst 0, 1) := by decide +kernel
theorem dX10_builder_3 : decode cX10_builder 3 = .ok (.ldc2_w 68, 3) := by decide +kernel
theorem dX10_builder_6 : decode cX10_builder 6 = .ok (.invokestatic 51, 3) := by decide +kernel
theorem dX10_builder_9 : decode cX10_builder 9 = .ok (.ifCond .eq 27, 3) := by decide +kernel
theorem dX10_builder_12 : decode cX10_builder 12 = .ok (.iload_n 2, 1) := by decide +kernel
theorem dX10_builder_13 : decode cX10_builder 13 = .ok (.i2l, 1) := by decide +kernel
theorem dX10_builder_14 : decode cX10_builder 14 = .ok (.lconst 1, 1) := by decide +kernel
theorem dX10_builder_15 : decode cX10_builder 15 = .ok (.ldc2_w 70, 3) := by decide +kernel
theorem dX10_builder_18 : decode cX10_builder 18 = .ok (.invokestatic 51, 3) := by decide +kernel
theorem dX10_builder_21 : decode cX10_builder 21 = .ok (.ifCond .eq 15, 3) := by decide +kernel
theorem dX10_builder_24 : decode cX10_builder 24 = .ok (.iload_n 3, 1) := by decide +kernel
theorem dX10_builder_25 : decode cX10_builder 25 = .ok (.i2l, 1) := by decide +kernel
theorem dX10_builder_26 : decode cX10_builder 26 = .ok (.lconst 0, 1) := by decide +kernel
theorem dX10_builder_27 : decode cX10_builder 27 = .ok (.ldc2_w 70, 3) := by decide +kernel
theorem dX10_builder_30 : decode cX10_builder 30 = .ok (.invokestatic 51, 3) := by decide +kernel
theorem dX10_builder_33 : decode cX10_builder 33 = .ok (.ifCond .ne 5, 3) := by decide +kernel
theorem dX10_builder_36 : decode cX10_builder 36 = .ok (.iconst (-1), 1) := by decide +kernel
theorem dX10_builder_37 : decode cX10_builder 37 = .ok (.ireturn, 1) := by decide +kernel
theorem dX10_builder_38 : decode cX10_builder 38 = .ok (.aload_n 0, 1) := by decide +kernel
theorem dX10_builder_39 : decode cX10_builder 39 = .ok (.getfield 7, 3) := by decide +kernel
theorem dX10_builder_42 : decode cX10_builder 42 = .ok (.iconst 0, 1) := by decide +kernel
theorem dX10_builder_43 : decode cX10_builder 43 = .ok (.iaload, 1) := by decide +kernel
theorem dX10_builder_44 : decode cX10_builder 44 = .ok (.iconst 4, 1) := by decide +kernel
theorem dX10_builder_45 : decode cX10_builder 45 = .ok (.if_icmp .ne 6, 3) := by decide +kernel
theorem dX10_builder_48 : decode cX10_builder 48 = .ok (.bipush (-3), 2) := by decide +kernel
theorem dX10_builder_50 : decode cX10_builder 50 = .ok (.ireturn, 1) := by decide +kernel
theorem dX10_builder_51 : decode cX10_builder 51 = .ok (.bipush 13, 2) := by decide +kernel
theorem dX10_builder_53 : decode cX10_builder 53 = .ok (.iconst 3, 1) := by decide +kernel
theorem dX10_builder_54 : decode cX10_builder 54 = .ok (.aload_n 0, 1) := by decide +kernel
theorem dX10_builder_55 : decode cX10_builder 55 = .ok (.getfield 7, 3) := by decide +kernel
theorem dX10_builder_58 : decode cX10_builder 58 = .ok (.iconst 0, 1) := by decide +kernel
theorem dX10_builder_59 : decode cX10_builder 59 = .ok (.iaload, 1) := by decide +kernel
theorem dX10_builder_60 : decode cX10_builder 60 = .ok (.imul, 1) := by decide +kernel
theorem dX10_builder_61 : decode cX10_builder 61 = .ok (.iadd, 1) := by decide +kernel
theorem dX10_builder_62 : decode cX10_builder 62 = .ok (.istore 4, 2) := by decide +kernel
theorem dX10_builder_64 : decode cX10_builder 64 = .ok (.aload_n 0, 1) := by decide +kernel
theorem dX10_builder_65 : decode cX10_builder 65 = .ok (.getfield 7, 3) := by decide +kernel
theorem dX10_builder_68 : decode cX10_builder 68 = .ok (.iload 4, 2) := by decide +kernel
theorem dX10_builder_70 : decode cX10_builder 70 = .ok (.iload_n 1, 1) := by decide +kernel
theorem dX10_builder_71 : decode cX10_builder 71 = .ok (.iastore, 1) := by decide +kernel
theorem dX10_builder_72 : decode cX10_builder 72 = .ok (.aload_n 0, 1) := by decide +kernel
theorem dX10_builder_73 : decode cX10_builder 73 = .ok (.getfield 7, 3) := by decide +kernel
theorem dX10_builder_76 : decode cX10_builder 76 = .ok (.iload 4, 2) := by decide +kernel
theorem dX10_builder_78 : decode cX10_builder 78 = .ok (.iconst 1, 1) := by decide +kernel
theorem dX10_builder_79 : decode cX10_builder 79 = .ok (.iadd, 1) := by decide +kernel
theorem dX10_builder_80 : decode cX10_builder 80 = .ok (.iload_n 2, 1) := by decide +kernel
theorem dX10_builder_81 : decode cX10_builder 81 = .ok (.iastore, 1) := by decide +kernel
theorem dX10_builder_82 : decode cX10_builder 82 = .ok (.aload_n 0, 1) := by decide +kernel
theorem dX10_builder_83 : decode cX10_builder 83 = .ok (.getfield 7, 3) := by decide +kernel
theorem dX10_builder_86 : decode cX10_builder 86 = .ok (.iload 4, 2) := by decide +kernel
theorem dX10_builder_88 : decode cX10_builder 88 = .ok (.iconst 2, 1) := by decide +kernel
theorem dX10_builder_89 : decode cX10_builder 89 = .ok (.iadd, 1) := by decide +kernel
theorem dX10_builder_90 : decode cX10_builder 90 = .ok (.iload_n 3, 1) := by decide +kernel
theorem dX10_builder_91 : decode cX10_builder 91 = .ok (.iastore, 1) := by decide +kernel
theorem dX10_builder_92 : decode cX10_builder 92 = .ok (.aload_n 0, 1) := by decide +kernel
theorem dX10_builder_93 : decode cX10_builder 93 = .ok (.getfield 7, 3) := by decide +kernel
theorem dX10_builder_96 : decode cX10_builder 96 = .ok (.iconst 0, 1) := by decide +kernel
theorem dX10_builder_97 : decode cX10_builder 97 = .ok (.dup2, 1) := by decide +kernel
theorem dX10_builder_98 : decode cX10_builder 98 = .ok (.iaload, 1) := by decide +kernel
theorem dX10_builder_99 : decode cX10_builder 99 = .ok (.iconst 1, 1) := by decide +kernel
theorem dX10_builder_100 : decode cX10_builder 100 = .ok (.iadd, 1) := by decide +kernel
theorem dX10_builder_101 : decode cX10_builder 101 = .ok (.iastore, 1) := by decide +kernel
theorem dX10_builder_102 : decode cX10_builder 102 = .ok (.aload_n 0, 1) := by decide +kernel
theorem dX10_builder_103 : decode cX10_builder 103 = .ok (.iconst 0, 1) := by decide +kernel
theorem dX10_builder_104 : decode cX10_builder 104 = .ok (.putfield 72, 3) := by decide +kernel
theorem dX10_builder_107 : decode cX10_builder 107 = .ok (.aload_n 0, 1) := by decide +kernel
theorem dX10_builder_108 : decode cX10_builder 108 = .ok (.getfield 7, 3) := by decide +kernel
theorem dX10_builder_111 : decode cX10_builder 111 = .ok (.iconst 0, 1) := by decide +kernel
theorem dX10_builder_112 : decode cX10_builder 112 = .ok (.iaload, 1) := by decide +kernel
theorem dX10_builder_113 : decode cX10_builder 113 = .ok (.iconst 1, 1) := by decide +kernel
theorem dX10_builder_114 : decode cX10_builder 114 = .ok (.isub, 1) := by decide +kernel
theorem dX10_builder_115 : decode cX10_builder 115 = .ok (.ireturn, 1) := by decide +kernel
theorem dX10_of_0 : decode cX10_of 0 = .ok (.aload_n 0, 1) := by decide +kernel
theorem dX10_of_1 : decode cX10_of 1 = .ok (.iload_n 1, 1) := by decide +kernel
theorem dX10_of_2 : decode cX10_of 2 = .ok (.invokevirtual 75, 3) := by decide +kernel
theorem dX10_of_5 : decode cX10_of 5 = .ok (.ifCond .eq 15, 3) := by decide +kernel
theorem dX10_of_8 : decode cX10_of 8 = .ok (.iload_n 2, 1) := by decide +kernel
theorem dX10_of_9 : decode cX10_of 9 = .ok (.i2l, 1) := by decide +kernel
theorem dX10_of_10 : decode cX10_of 10 = .ok (.lconst 0, 1) := by decide +kernel
theorem dX10_of_11 : decode cX10_of 11 = .ok (.ldc2_w 79, 3) := by decide +kernel
theorem dX10_of_14 : decode cX10_of 14 = .ok (.invokestatic 51, 3) := by decide +kernel
theorem dX10_of_17 : decode cX10_of 17 = .ok (.ifCond .ne 5, 3) := by decide +kernel
theorem dX10_of_20 : decode cX10_of 20 = .ok (.iconst (-1), 1) := by decide +kernel
theorem dX10_of_21 : decode cX10_of 21 = .ok (.ireturn, 1) := by decide +kernel
theorem dX10_of_22 : decode cX10_of 22 = .ok (.iload_n 2, 1) := by decide +kernel
theorem dX10_of_23 : decode cX10_of 23 = .ok (.iconst 3, 1) := by decide +kernel
theorem dX10_of_24 : decode cX10_of 24 = .ok (.if_icmp .ge 19, 3) := by decide +kernel
theorem dX10_of_27 : decode cX10_of 27 = .ok (.aload_n 0, 1) := by decide +kernel
theorem dX10_of_28 : decode cX10_of 28 = .ok (.getfield 7, 3) := by decide +kernel
theorem dX10_of_31 : decode cX10_of 31 = .ok (.bipush 13, 2) := by decide +kernel
theorem dX10_of_33 : decode cX10_of 33 = .ok (.iconst 3, 1) := by decide +kernel
theorem dX10_of_34 : decode cX10_of 34 = .ok (.iload_n 1, 1) := by decide +kernel
theorem dX10_of_35 : decode cX10_of 35 = .ok (.imul, 1) := by decide +kernel
theorem dX10_of_36 : decode cX10_of 36 = .ok (.iadd, 1) := by decide +kernel
theorem dX10_of_37 : decode cX10_of 37 = .ok (.iload_n 2, 1) := by decide +kernel
theorem dX10_of_38 : decode cX10_of 38 = .ok (.iadd, 1) := by decide +kernel
theorem dX10_of_39 : decode cX10_of 39 = .ok (.iaload, 1) := by decide +kernel
theorem dX10_of_40 : decode cX10_of 40 = .ok (.goto 38, 3) := by decide +kernel
theorem dX10_of_43 : decode cX10_of 43 = .ok (.iload_n 2, 1) := by decide +kernel
theorem dX10_of_44 : decode cX10_of 44 = .ok (.iconst 3, 1) := by decide +kernel
theorem dX10_of_45 : decode cX10_of 45 = .ok (.if_icmp .ne 18, 3) := by decide +kernel
theorem dX10_of_48 : decode cX10_of 48 = .ok (.aload_n 0, 1) := by decide +kernel
theorem dX10_of_49 : decode cX10_of 49 = .ok (.iload_n 1, 1) := by decide +kernel
theorem dX10_of_50 : decode cX10_of 50 = .ok (.aload_n 0, 1) := by decide +kernel
theorem dX10_of_51 : decode cX10_of 51 = .ok (.getfield 7, 3) := by decide +kernel
theorem dX10_of_54 : decode cX10_of 54 = .ok (.bipush 7, 2) := by decide +kernel
theorem dX10_of_56 : decode cX10_of 56 = .ok (.iaload, 1) := by decide +kernel
theorem dX10_of_57 : decode cX10_of 57 = .ok (.invokevirtual 60, 3) := by decide +kernel
theorem dX10_of_60 : decode cX10_of 60 = .ok (.goto 18, 3) := by decide +kernel
theorem dX10_of_63 : decode cX10_of 63 = .ok (.aload_n 0, 1) := by decide +kernel
theorem dX10_of_64 : decode cX10_of 64 = .ok (.iload_n 1, 1) := by decide +kernel
theorem dX10_of_65 : decode cX10_of 65 = .ok (.iload_n 2, 1) := by decide +kernel
theorem dX10_of_66 : decode cX10_of 66 = .ok (.iconst 4, 1) := by decide +kernel
theorem dX10_of_67 : decode cX10_of 67 = .ok (.isub, 1) := by decide +kernel
theorem dX10_of_68 : decode cX10_of 68 = .ok (.aload_n 0, 1) := by decide +kernel
theorem dX10_of_69 : decode cX10_of 69 = .ok (.getfield 7, 3) := by decide +kernel
theorem dX10_of_72 : decode cX10_of 72 = .ok (.bipush 7, 2) := by decide +kernel
theorem dX10_of_74 : decode cX10_of 74 = .ok (.iaload, 1) := by decide +kernel
theorem dX10_of_75 : decode cX10_of 75 = .ok (.invokevirtual 64, 3) := by decide +kernel
theorem dX10_of_78 : decode cX10_of 78 = .ok (.ireturn, 1) := by decide +kernel
theorem dX10_wall_0 : decode cX10_wall 0 = .ok (.iload_n 1, 1) := by decide +kernel
theorem dX10_wall_1 : decode cX10_wall 1 = .ok (.ifCond .ne 15, 3) := by decide +kernel
theorem dX10_wall_4 : decode cX10_wall 4 = .ok (.iload_n 2, 1) := by decide +kernel
theorem dX10_wall_5 : decode cX10_wall 5 = .ok (.i2l, 1) := by decide +kernel
theorem dX10_wall_6 : decode cX10_wall 6 = .ok (.lconst 1, 1) := by decide +kernel
theorem dX10_wall_7 : decode cX10_wall 7 = .ok (.ldc2_w 81, 3) := by decide +kernel
theorem dX10_wall_10 : decode cX10_wall 10 = .ok (.invokestatic 51, 3) := by decide +kernel
theorem dX10_wall_13 : decode cX10_wall 13 = .ok (.goto 47, 3) := by decide +kernel
theorem dX10_wall_16 : decode cX10_wall 16 = .ok (.iload_n 1, 1) := by decide +kernel
theorem dX10_wall_17 : decode cX10_wall 17 = .ok (.iconst 1, 1) := by decide +kernel
theorem dX10_wall_18 : decode cX10_wall 18 = .ok (.if_icmp .ne 15, 3) := by decide +kernel
theorem dX10_wall_21 : decode cX10_wall 21 = .ok (.iload_n 2, 1) := by decide +kernel
theorem dX10_wall_22 : decode cX10_wall 22 = .ok (.i2l, 1) := by decide +kernel
theorem dX10_wall_23 : decode cX10_wall 23 = .ok (.lconst 1, 1) := by decide +kernel
theorem dX10_wall_24 : decode cX10_wall 24 = .ok (.ldc2_w 83, 3) := by decide +kernel
theorem dX10_wall_27 : decode cX10_wall 27 = .ok (.invokestatic 51, 3) := by decide +kernel
theorem dX10_wall_30 : decode cX10_wall 30 = .ok (.goto 30, 3) := by decide +kernel
theorem dX10_wall_33 : decode cX10_wall 33 = .ok (.iload_n 1, 1) := by decide +kernel
theorem dX10_wall_34 : decode cX10_wall 34 = .ok (.iconst 2, 1) := by decide +kernel
theorem dX10_wall_35 : decode cX10_wall 35 = .ok (.if_icmp .eq 8, 3) := by decide +kernel
theorem dX10_wall_38 : decode cX10_wall 38 = .ok (.iload_n 1, 1) := by decide +kernel
theorem dX10_wall_39 : decode cX10_wall 39 = .ok (.iconst 3, 1) := by decide +kernel
theorem dX10_wall_40 : decode cX10_wall 40 = .ok (.if_icmp .ne 19, 3) := by decide +kernel
theorem dX10_wall_43 : decode cX10_wall 43 = .ok (.iload_n 2, 1) := by decide +kernel
theorem dX10_wall_44 : decode cX10_wall 44 = .ok (.i2l, 1) := by decide +kernel
theorem dX10_wall_45 : decode cX10_wall 45 = .ok (.lconst 0, 1) := by decide +kernel
theorem dX10_wall_46 : decode cX10_wall 46 = .ok (.ldc2_w 85, 3) := by decide +kernel
theorem dX10_wall_49 : decode cX10_wall 49 = .ok (.invokestatic 51, 3) := by decide +kernel
theorem dX10_wall_52 : decode cX10_wall 52 = .ok (.ifCond .eq 7, 3) := by decide +kernel
theorem dX10_wall_55 : decode cX10_wall 55 = .ok (.iconst 1, 1) := by decide +kernel
theorem dX10_wall_56 : decode cX10_wall 56 = .ok (.goto 4, 3) := by decide +kernel
theorem dX10_wall_59 : decode cX10_wall 59 = .ok (.iconst 0, 1) := by decide +kernel
theorem dX10_wall_60 : decode cX10_wall 60 = .ok (.istore_n 3, 1) := by decide +kernel
theorem dX10_wall_61 : decode cX10_wall 61 = .ok (.iload_n 3, 1) := by decide +kernel
theorem dX10_wall_62 : decode cX10_wall 62 = .ok (.ifCond .ne 5, 3) := by decide +kernel
theorem dX10_wall_65 : decode cX10_wall 65 = .ok (.iconst (-1), 1) := by decide +kernel
theorem dX10_wall_66 : decode cX10_wall 66 = .ok (.ireturn, 1) := by decide +kernel
theorem dX10_wall_67 : decode cX10_wall 67 = .ok (.iload_n 1, 1) := by decide +kernel
theorem dX10_wall_68 : decode cX10_wall 68 = .ok (.ifCond .ne 13, 3) := by decide +kernel
theorem dX10_wall_71 : decode cX10_wall 71 = .ok (.aload_n 0, 1) := by decide +kernel
theorem dX10_wall_72 : decode cX10_wall 72 = .ok (.getfield 7, 3) := by decide +kernel
theorem dX10_wall_75 : decode cX10_wall 75 = .ok (.bipush 7, 2) := by decide +kernel
theorem dX10_wall_77 : decode cX10_wall 77 = .ok (.iaload, 1) := by decide +kernel
theorem dX10_wall_78 : decode cX10_wall 78 = .ok (.goto 19, 3) := by decide +kernel
theorem dX10_wall_81 : decode cX10_wall 81 = .ok (.iload_n 1, 1) := by decide +kernel
theorem dX10_wall_82 : decode cX10_wall 82 = .ok (.iconst 1, 1) := by decide +kernel
theorem dX10_wall_83 : decode cX10_wall 83 = .ok (.if_icmp .ne 13, 3) := by decide +kernel
theorem dX10_wall_86 : decode cX10_wall 86 = .ok (.aload_n 0, 1) := by decide +kernel
theorem dX10_wall_87 : decode cX10_wall 87 = .ok (.getfield 7, 3) := by decide +kernel
theorem dX10_wall_90 : decode cX10_wall 90 = .ok (.bipush 6, 2) := by decide +kernel
theorem dX10_wall_92 : decode cX10_wall 92 = .ok (.iaload, 1) := by decide +kernel
theorem dX10_wall_93 : decode cX10_wall 93 = .ok (.goto 4, 3) := by decide +kernel
theorem dX10_wall_96 : decode cX10_wall 96 = .ok (.iconst 0, 1) := by decide +kernel
theorem dX10_wall_97 : decode cX10_wall 97 = .ok (.istore 4, 2) := by decide +kernel
theorem dX10_wall_99 : decode cX10_wall 99 = .ok (.iload_n 1, 1) := by decide +kernel
theorem dX10_wall_100 : decode cX10_wall 100 = .ok (.iconst 2, 1) := by decide +kernel
theorem dX10_wall_101 : decode cX10_wall 101 = .ok (.if_icmp .ne 15, 3) := by decide +kernel
theorem dX10_wall_104 : decode cX10_wall 104 = .ok (.bipush 10, 2) := by decide +kernel
theorem dX10_wall_106 : decode cX10_wall 106 = .ok (.aload_n 0, 1) := by decide +kernel
theorem dX10_wall_107 : decode cX10_wall 107 = .ok (.getfield 7, 3) := by decide +kernel
theorem dX10_wall_110 : decode cX10_wall 110 = .ok (.iconst 5, 1) := by decide +kernel
theorem dX10_wall_111 : decode cX10_wall 111 = .ok (.iaload, 1) := by decide +kernel
theorem dX10_wall_112 : decode cX10_wall 112 = .ok (.isub, 1) := by decide +kernel
theorem dX10_wall_113 : decode cX10_wall 113 = .ok (.goto 23, 3) := by decide +kernel
theorem dX10_wall_116 : decode cX10_wall 116 = .ok (.iload_n 1, 1) := by decide +kernel
theorem dX10_wall_117 : decode cX10_wall 117 = .ok (.iconst 3, 1) := by decide +kernel
theorem dX10_wall_118 : decode cX10_wall 118 = .ok (.if_icmp .ne 15, 3) := by decide +kernel
theorem dX10_wall_121 : decode cX10_wall 121 = .ok (.bipush 10, 2) := by decide +kernel
theorem dX10_wall_123 : decode cX10_wall 123 = .ok (.aload_n 0, 1) := by decide +kernel
theorem dX10_wall_124 : decode cX10_wall 124 = .ok (.getfield 7, 3) := by decide +kernel
theorem dX10_wall_127 : decode cX10_wall 127 = .ok (.iconst 4, 1) := by decide +kernel
theorem dX10_wall_128 : decode cX10_wall 128 = .ok (.iaload, 1) := by decide +kernel
theorem dX10_wall_129 : decode cX10_wall 129 = .ok (.isub, 1) := by decide +kernel
theorem dX10_wall_130 : decode cX10_wall 130 = .ok (.goto 6, 3) := by decide +kernel
theorem dX10_wall_133 : decode cX10_wall 133 = .ok (.sipush 200, 3) := by decide +kernel
theorem dX10_wall_136 : decode cX10_wall 136 = .ok (.istore 5, 2) := by decide +kernel
theorem dX10_wall_138 : decode cX10_wall 138 = .ok (.iload_n 2, 1) := by decide +kernel
theorem dX10_wall_139 : decode cX10_wall 139 = .ok (.iload 4, 2) := by decide +kernel
theorem dX10_wall_141 : decode cX10_wall 141 = .ok (.if_icmp .lt 9, 3) := by decide +kernel
theorem dX10_wall_144 : decode cX10_wall 144 = .ok (.iload_n 2, 1) := by decide +kernel
theorem dX10_wall_145 : decode cX10_wall 145 = .ok (.iload 5, 2) := by decide +kernel
theorem dX10_wall_147 : decode cX10_wall 147 = .ok (.if_icmp .le 6, 3) := by decide +kernel
theorem dX10_wall_150 : decode cX10_wall 150 = .ok (.bipush (-2), 2) := by decide +kernel
theorem dX10_wall_152 : decode cX10_wall 152 = .ok (.ireturn, 1) := by decide +kernel
theorem dX10_wall_153 : decode cX10_wall 153 = .ok (.aload_n 0, 1) := by decide +kernel
theorem dX10_wall_154 : decode cX10_wall 154 = .ok (.getfield 7, 3) := by decide +kernel
theorem dX10_wall_157 : decode cX10_wall 157 = .ok (.iconst 2, 1) := by decide +kernel
theorem dX10_wall_158 : decode cX10_wall 158 = .ok (.iload_n 1, 1) := by decide +kernel
theorem dX10_wall_159 : decode cX10_wall 159 = .ok (.iadd, 1) := by decide +kernel
theorem dX10_wall_160 : decode cX10_wall 160 = .ok (.iaload, 1) := by decide +kernel
theorem dX10_wall_161 : decode cX10_wall 161 = .ok (.istore 6, 2) := by decide +kernel
theorem dX10_wall_163 : decode cX10_wall 163 = .ok (.aload_n 0, 1) := by decide +kernel
theorem dX10_wall_164 : decode cX10_wall 164 = .ok (.getfield 7, 3) := by decide +kernel
theorem dX10_wall_167 : decode cX10_wall 167 = .ok (.iconst 2, 1) := by decide +kernel
theorem dX10_wall_168 : decode cX10_wall 168 = .ok (.iload_n 1, 1) := by decide +kernel
theorem dX10_wall_169 : decode cX10_wall 169 = .ok (.iadd, 1) := by decide +kernel
theorem dX10_wall_170 : decode cX10_wall 170 = .ok (.iload_n 2, 1) := by decide +kernel
theorem dX10_wall_171 : decode cX10_wall 171 = .ok (.iastore, 1) := by decide +kernel
theorem dX10_wall_172 : decode cX10_wall 172 = .ok (.iload 6, 2) := by decide +kernel
theorem dX10_wall_174 : decode cX10_wall 174 = .ok (.ireturn, 1) := by decide +kernel
theorem dX10_hindrance_0 : decode cX10_hindrance 0 = .ok (.iload_n 1, 1) := by decide +kernel
theorem dX10_hindrance_1 : decode cX10_hindrance 1 = .ok (.i2l, 1) := by decide +kernel
theorem dX10_hindrance_2 : decode cX10_hindrance 2 = .ok (.lconst 1, 1) := by decide +kernel
theorem dX10_hindrance_3 : decode cX10_hindrance 3 = .ok (.ldc2_w 70, 3) := by decide +kernel
theorem dX10_hindrance_6 : decode cX10_hindrance 6 = .ok (.invokestatic 51, 3) := by decide +kernel
theorem dX10_hindrance_9 : decode cX10_hindrance 9 = .ok (.ifCond .eq 21, 3) := by decide +kernel
theorem dX10_hindrance_12 : decode cX10_hindrance 12 = .ok (.iload_n 2, 1) := by decide +kernel
theorem dX10_hindrance_13 : decode cX10_hindrance 13 = .ok (.bipush (-4), 2) := by decide +kernel
theorem dX10_hindrance_15 : decode cX10_hindrance 15 = .ok (.if_icmp .eq 17, 3) := by decide +kernel
theorem dX10_hindrance_18 : decode cX10_hindrance 18 = .ok (.iload_n 2, 1) := by decide +kernel
theorem dX10_hindrance_19 : decode cX10_hindrance 19 = .ok (.i2l, 1) := by decide +kernel
theorem dX10_hindrance_20 : decode cX10_hindrance 20 = .ok (.lconst 0, 1) := by decide +kernel
theorem dX10_hindrance_21 : decode cX10_hindrance 21 = .ok (.ldc2_w 87, 3) := by decide +kernel
theorem dX10_hindrance_24 : decode cX10_hindrance 24 = .ok (.invokestatic 51, 3) := by decide +kernel
theorem dX10_hindrance_27 : decode cX10_hindrance 27 = .ok (.ifCond .ne 5, 3) := by decide +kernel
theorem dX10_hindrance_30 : decode cX10_hindrance 30 = .ok (.iconst (-1), 1) := by decide +kernel
theorem dX10_hindrance_31 : decode cX10_hindrance 31 = .ok (.ireturn, 1) := by decide +kernel
theorem dX10_hindrance_32 : decode cX10_hindrance 32 = .ok (.aload_n 0, 1) := by decide +kernel
theorem dX10_hindrance_33 : decode cX10_hindrance 33 = .ok (.getfield 7, 3) := by decide +kernel
theorem dX10_hindrance_36 : decode cX10_hindrance 36 = .ok (.iconst 1, 1) := by decide +kernel
theorem dX10_hindrance_37 : decode cX10_hindrance 37 = .ok (.iaload, 1) := by decide +kernel
theorem dX10_hindrance_38 : decode cX10_hindrance 38 = .ok (.bipush 6, 2) := by decide +kernel
theorem dX10_hindrance_40 : decode cX10_hindrance 40 = .ok (.if_icmp .ne 6, 3) := by decide +kernel
theorem dX10_hindrance_43 : decode cX10_hindrance 43 = .ok (.bipush (-3), 2) := by decide +kernel
theorem dX10_hindrance_45 : decode cX10_hindrance 45 = .ok (.ireturn, 1) := by decide +kernel
theorem dX10_hindrance_46 : decode cX10_hindrance 46 = .ok (.aload_n 0, 1) := by decide +kernel
theorem dX10_hindrance_47 : decode cX10_hindrance 47 = .ok (.getfield 7, 3) := by decide +kernel
theorem dX10_hindrance_50 : decode cX10_hindrance 50 = .ok (.bipush 25, 2) := by decide +kernel
theorem dX10_hindrance_52 : decode cX10_hindrance 52 = .ok (.iconst 2, 1) := by decide +kernel
theorem dX10_hindrance_53 : decode cX10_hindrance 53 = .ok (.aload_n 0, 1) := by decide +kernel
theorem dX10_hindrance_54 : decode cX10_hindrance 54 = .ok (.getfield 7, 3) := by decide +kernel
theorem dX10_hindrance_57 : decode cX10_hindrance 57 = .ok (.iconst 1, 1) := by decide +kernel
theorem dX10_hindrance_58 : decode cX10_hindrance 58 = .ok (.iaload, 1) := by decide +kernel
theorem dX10_hindrance_59 : decode cX10_hindrance 59 = .ok (.imul, 1) := by decide +kernel
theorem dX10_hindrance_60 : decode cX10_hindrance 60 = .ok (.iadd, 1) := by decide +kernel
theorem dX10_hindrance_61 : decode cX10_hindrance 61 = .ok (.iload_n 1, 1) := by decide +kernel
theorem dX10_hindrance_62 : decode cX10_hindrance 62 = .ok (.iastore, 1) := by decide +kernel
theorem dX10_hindrance_63 : decode cX10_hindrance 63 = .ok (.aload_n 0, 1) := by decide +kernel
theorem dX10_hindrance_64 : decode cX10_hindrance 64 = .ok (.getfield 7, 3) := by decide +kernel
theorem dX10_hindrance_67 : decode cX10_hindrance 67 = .ok (.bipush 25, 2) := by decide +kernel
theorem dX10_hindrance_69 : decode cX10_hindrance 69 = .ok (.iconst 2, 1) := by decide +kernel
theorem dX10_hindrance_70 : decode cX10_hindrance 70 = .ok (.aload_n 0, 1) := by decide +kernel
theorem dX10_hindrance_71 : decode cX10_hindrance 71 = .ok (.getfield 7, 3) := by decide +kernel
theorem dX10_hindrance_74 : decode cX10_hindrance 74 = .ok (.iconst 1, 1) := by decide +kernel
theorem dX10_hindrance_75 : decode cX10_hindrance 75 = .ok (.iaload, 1) := by decide +kernel
theorem dX10_hindrance_76 : decode cX10_hindrance 76 = .ok (.imul, 1) := by decide +kernel
theorem dX10_hindrance_77 : decode cX10_hindrance 77 = .ok (.iadd, 1) := by decide +kernel
theorem dX10_hindrance_78 : decode cX10_hindrance 78 = .ok (.iconst 1, 1) := by decide +kernel
theorem dX10_hindrance_79 : decode cX10_hindrance 79 = .ok (.iadd, 1) := by decide +kernel
theorem dX10_hindrance_80 : decode cX10_hindrance 80 = .ok (.iload_n 2, 1) := by decide +kernel
theorem dX10_hindrance_81 : decode cX10_hindrance 81 = .ok (.iastore, 1) := by decide +kernel
theorem dX10_hindrance_82 : decode cX10_hindrance 82 = .ok (.aload_n 0, 1) := by decide +kernel
theorem dX10_hindrance_83 : decode cX10_hindrance 83 = .ok (.getfield 7, 3) := by decide +kernel
theorem dX10_hindrance_86 : decode cX10_hindrance 86 = .ok (.iconst 1, 1) := by decide +kernel
theorem dX10_hindrance_87 : decode cX10_hindrance 87 = .ok (.dup2, 1) := by decide +kernel
theorem dX10_hindrance_88 : decode cX10_hindrance 88 = .ok (.iaload, 1) := by decide +kernel
theorem dX10_hindrance_89 : decode cX10_hindrance 89 = .ok (.iconst 1, 1) := by decide +kernel
theorem dX10_hindrance_90 : decode cX10_hindrance 90 = .ok (.iadd, 1) := by decide +kernel
theorem dX10_hindrance_91 : decode cX10_hindrance 91 = .ok (.iastore, 1) := by decide +kernel
theorem dX10_hindrance_92 : decode cX10_hindrance 92 = .ok (.aload_n 0, 1) := by decide +kernel
theorem dX10_hindrance_93 : decode cX10_hindrance 93 = .ok (.iconst 0, 1) := by decide +kernel
theorem dX10_hindrance_94 : decode cX10_hindrance 94 = .ok (.putfield 72, 3) := by decide +kernel
theorem dX10_hindrance_97 : decode cX10_hindrance 97 = .ok (.aload_n 0, 1) := by decide +kernel
theorem dX10_hindrance_98 : decode cX10_hindrance 98 = .ok (.getfield 7, 3) := by decide +kernel
theorem dX10_hindrance_101 : decode cX10_hindrance 101 = .ok (.iconst 1, 1) := by decide +kernel
theorem dX10_hindrance_102 : decode cX10_hindrance 102 = .ok (.iaload, 1) := by decide +kernel
theorem dX10_hindrance_103 : decode cX10_hindrance 103 = .ok (.iconst 1, 1) := by decide +kernel
theorem dX10_hindrance_104 : decode cX10_hindrance 104 = .ok (.isub, 1) := by decide +kernel
theorem dX10_hindrance_105 : decode cX10_hindrance 105 = .ok (.ireturn, 1) := by decide +kernel
theorem dX10_oath_0 : decode cX10_oath 0 = .ok (.iload_n 1, 1) := by decide +kernel
theorem dX10_oath_1 : decode cX10_oath 1 = .ok (.i2l, 1) := by decide +kernel
theorem dX10_oath_2 : decode cX10_oath 2 = .ok (.lconst 0, 1) := by decide +kernel
theorem dX10_oath_3 : decode cX10_oath 3 = .ok (.ldc2_w 87, 3) := by decide +kernel
theorem dX10_oath_6 : decode cX10_oath 6 = .ok (.invokestatic 51, 3) := by decide +kernel
theorem dX10_oath_9 : decode cX10_oath 9 = .ok (.ifCond .eq 13, 3) := by decide +kernel
theorem dX10_oath_12 : decode cX10_oath 12 = .ok (.iload_n 2, 1) := by decide +kernel
theorem dX10_oath_13 : decode cX10_oath 13 = .ok (.i2l, 1) := by decide +kernel
theorem dX10_oath_14 : decode cX10_oath 14 = .ok (.lconst 0, 1) := by decide +kernel
theorem dX10_oath_15 : decode cX10_oath 15 = .ok (.lconst 1, 1) := by decide +kernel
theorem dX10_oath_16 : decode cX10_oath 16 = .ok (.invokestatic 51, 3) := by decide +kernel
theorem dX10_oath_19 : decode cX10_oath 19 = .ok (.ifCond .ne 5, 3) := by decide +kernel
theorem dX10_oath_22 : decode cX10_oath 22 = .ok (.iconst (-1), 1) := by decide +kernel
theorem dX10_oath_23 : decode cX10_oath 23 = .ok (.ireturn, 1) := by decide +kernel
theorem dX10_oath_24 : decode cX10_oath 24 = .ok (.aload_n 0, 1) := by decide +kernel
theorem dX10_oath_25 : decode cX10_oath 25 = .ok (.getfield 7, 3) := by decide +kernel
theorem dX10_oath_28 : decode cX10_oath 28 = .ok (.bipush 11, 2) := by decide +kernel
theorem dX10_oath_30 : decode cX10_oath 30 = .ok (.iaload, 1) := by decide +kernel
theorem dX10_oath_31 : decode cX10_oath 31 = .ok (.iload_n 1, 1) := by decide +kernel
theorem dX10_oath_32 : decode cX10_oath 32 = .ok (.ishr, 1) := by decide +kernel
theorem dX10_oath_33 : decode cX10_oath 33 = .ok (.iconst 1, 1) := by decide +kernel
theorem dX10_oath_34 : decode cX10_oath 34 = .ok (.iand, 1) := by decide +kernel
theorem dX10_oath_35 : decode cX10_oath 35 = .ok (.istore_n 3, 1) := by decide +kernel
theorem dX10_oath_36 : decode cX10_oath 36 = .ok (.aload_n 0, 1) := by decide +kernel
theorem dX10_oath_37 : decode cX10_oath 37 = .ok (.getfield 7, 3) := by decide +kernel
theorem dX10_oath_40 : decode cX10_oath 40 = .ok (.bipush 11, 2) := by decide +kernel
theorem dX10_oath_42 : decode cX10_oath 42 = .ok (.iload_n 2, 1) := by decide +kernel
theorem dX10_oath_43 : decode cX10_oath 43 = .ok (.iconst 1, 1) := by decide +kernel
theorem dX10_oath_44 : decode cX10_oath 44 = .ok (.if_icmp .ne 17, 3) := by decide +kernel
theorem dX10_oath_47 : decode cX10_oath 47 = .ok (.aload_n 0, 1) := by decide +kernel
theorem dX10_oath_48 : decode cX10_oath 48 = .ok (.getfield 7, 3) := by decide +kernel
theorem dX10_oath_51 : decode cX10_oath 51 = .ok (.bipush 11, 2) := by decide +kernel
theorem dX10_oath_53 : decode cX10_oath 53 = .ok (.iaload, 1) := by decide +kernel
theorem dX10_oath_54 : decode cX10_oath 54 = .ok (.iconst 1, 1) := by decide +kernel
theorem dX10_oath_55 : decode cX10_oath 55 = .ok (.iload_n 1, 1) := by decide +kernel
theorem dX10_oath_56 : decode cX10_oath 56 = .ok (.ishl, 1) := by decide +kernel
theorem dX10_oath_57 : decode cX10_oath 57 = .ok (.ior, 1) := by decide +kernel
theorem dX10_oath_58 : decode cX10_oath 58 = .ok (.goto 16, 3) := by decide +kernel
theorem dX10_oath_61 : decode cX10_oath 61 = .ok (.aload_n 0, 1) := by decide +kernel
theorem dX10_oath_62 : decode cX10_oath 62 = .ok (.getfield 7, 3) := by decide +kernel
theorem dX10_oath_65 : decode cX10_oath 65 = .ok (.bipush 11, 2) := by decide +kernel
theorem dX10_oath_67 : decode cX10_oath 67 = .ok (.iaload, 1) := by decide +kernel
theorem dX10_oath_68 : decode cX10_oath 68 = .ok (.iconst 1, 1) := by decide +kernel
theorem dX10_oath_69 : decode cX10_oath 69 = .ok (.iload_n 1, 1) := by decide +kernel
theorem dX10_oath_70 : decode cX10_oath 70 = .ok (.ishl, 1) := by decide +kernel
theorem dX10_oath_71 : decode cX10_oath 71 = .ok (.iconst (-1), 1) := by decide +kernel
theorem dX10_oath_72 : decode cX10_oath 72 = .ok (.ixor, 1) := by decide +kernel
theorem dX10_oath_73 : decode cX10_oath 73 = .ok (.iand, 1) := by decide +kernel
theorem dX10_oath_74 : decode cX10_oath 74 = .ok (.iastore, 1) := by decide +kernel
theorem dX10_oath_75 : decode cX10_oath 75 = .ok (.iload_n 3, 1) := by decide +kernel
theorem dX10_oath_76 : decode cX10_oath 76 = .ok (.ireturn, 1) := by decide +kernel
theorem dX10_count_0 : decode cX10_count 0 = .ok (.iload_n 1, 1) := by decide +kernel
theorem dX10_count_1 : decode cX10_count 1 = .ok (.i2l, 1) := by decide +kernel
theorem dX10_count_2 : decode cX10_count 2 = .ok (.lconst 0, 1) := by decide +kernel
theorem dX10_count_3 : decode cX10_count 3 = .ok (.ldc2_w 89, 3) := by decide +kernel
theorem dX10_count_6 : decode cX10_count 6 = .ok (.invokestatic 51, 3) := by decide +kernel
theorem dX10_count_9 : decode cX10_count 9 = .ok (.ifCond .eq 12, 3) := by decide +kernel
theorem dX10_count_12 : decode cX10_count 12 = .ok (.aload_n 0, 1) := by decide +kernel
theorem dX10_count_13 : decode cX10_count 13 = .ok (.getfield 7, 3) := by decide +kernel
theorem dX10_count_16 : decode cX10_count 16 = .ok (.iload_n 1, 1) := by decide +kernel
theorem dX10_count_17 : decode cX10_count 17 = .ok (.iaload, 1) := by decide +kernel
theorem dX10_count_18 : decode cX10_count 18 = .ok (.goto 17, 3) := by decide +kernel
theorem dX10_count_21 : decode cX10_count 21 = .ok (.iload_n 1, 1) := by decide +kernel
theorem dX10_count_22 : decode cX10_count 22 = .ok (.bipush 12, 2) := by decide +kernel
theorem dX10_count_24 : decode cX10_count 24 = .ok (.if_icmp .ne 10, 3) := by decide +kernel
theorem dX10_count_27 : decode cX10_count 27 = .ok (.aload_n 0, 1) := by decide +kernel
theorem dX10_count_28 : decode cX10_count 28 = .ok (.getfield 72, 3) := by decide +kernel
theorem dX10_count_31 : decode cX10_count 31 = .ok (.goto 4, 3) := by decide +kernel
theorem dX10_count_34 : decode cX10_count 34 = .ok (.iconst (-1), 1) := by decide +kernel
theorem dX10_count_35 : decode cX10_count 35 = .ok (.ireturn, 1) := by decide +kernel
theorem dX10_type_0 : decode cX10_type 0 = .ok (.iload_n 1, 1) := by decide +kernel
theorem dX10_type_1 : decode cX10_type 1 = .ok (.i2l, 1) := by decide +kernel
theorem dX10_type_2 : decode cX10_type 2 = .ok (.ldc2_w 91, 3) := by decide +kernel
theorem dX10_type_5 : decode cX10_type 5 = .ok (.ldc2_w 93, 3) := by decide +kernel
theorem dX10_type_8 : decode cX10_type 8 = .ok (.invokestatic 51, 3) := by decide +kernel
theorem dX10_type_11 : decode cX10_type 11 = .ok (.ifCond .ne 5, 3) := by decide +kernel
theorem dX10_type_14 : decode cX10_type 14 = .ok (.iconst (-1), 1) := by decide +kernel
theorem dX10_type_15 : decode cX10_type 15 = .ok (.ireturn, 1) := by decide +kernel
theorem dX10_type_16 : decode cX10_type 16 = .ok (.aload_n 0, 1) := by decide +kernel
theorem dX10_type_17 : decode cX10_type 17 = .ok (.getfield 95, 3) := by decide +kernel
theorem dX10_type_20 : decode cX10_type 20 = .ok (.bipush 60, 2) := by decide +kernel
theorem dX10_type_22 : decode cX10_type 22 = .ok (.if_icmp .ne 6, 3) := by decide +kernel
theorem dX10_type_25 : decode cX10_type 25 = .ok (.bipush (-3), 2) := by decide +kernel
theorem dX10_type_27 : decode cX10_type 27 = .ok (.ireturn, 1) := by decide +kernel
theorem dX10_type_28 : decode cX10_type 28 = .ok (.aload_n 0, 1) := by decide +kernel
theorem dX10_type_29 : decode cX10_type 29 = .ok (.getfield 17, 3) := by decide +kernel
theorem dX10_type_32 : decode cX10_type 32 = .ok (.aload_n 0, 1) := by decide +kernel
theorem dX10_type_33 : decode cX10_type 33 = .ok (.getfield 95, 3) := by decide +kernel
theorem dX10_type_36 : decode cX10_type 36 = .ok (.iload_n 1, 1) := by decide +kernel
theorem dX10_type_37 : decode cX10_type 37 = .ok (.iastore, 1) := by decide +kernel
theorem dX10_type_38 : decode cX10_type 38 = .ok (.aload_n 0, 1) := by decide +kernel
theorem dX10_type_39 : decode cX10_type 39 = .ok (.dup, 1) := by decide +kernel
theorem dX10_type_40 : decode cX10_type 40 = .ok (.getfield 95, 3) := by decide +kernel
theorem dX10_type_43 : decode cX10_type 43 = .ok (.iconst 1, 1) := by decide +kernel
theorem dX10_type_44 : decode cX10_type 44 = .ok (.iadd, 1) := by decide +kernel
theorem dX10_type_45 : decode cX10_type 45 = .ok (.putfield 95, 3) := by decide +kernel
theorem dX10_type_48 : decode cX10_type 48 = .ok (.aload_n 0, 1) := by decide +kernel
theorem dX10_type_49 : decode cX10_type 49 = .ok (.getfield 95, 3) := by decide +kernel
theorem dX10_type_52 : decode cX10_type 52 = .ok (.ireturn, 1) := by decide +kernel
theorem dX10_here_0 : decode cX10_here 0 = .ok (.aload_n 0, 1) := by decide +kernel
theorem dX10_here_1 : decode cX10_here 1 = .ok (.getfield 98, 3) := by decide +kernel
theorem dX10_here_4 : decode cX10_here 4 = .ok (.aload_n 0, 1) := by decide +kernel
theorem dX10_here_5 : decode cX10_here 5 = .ok (.getfield 95, 3) := by decide +kernel
theorem dX10_here_8 : decode cX10_here 8 = .ok (.if_icmp .ge 30, 3) := by decide +kernel
theorem dX10_here_11 : decode cX10_here 11 = .ok (.aload_n 0, 1) := by decide +kernel
theorem dX10_here_12 : decode cX10_here 12 = .ok (.getfield 17, 3) := by decide +kernel
theorem dX10_here_15 : decode cX10_here 15 = .ok (.aload_n 0, 1) := by decide +kernel
theorem dX10_here_16 : decode cX10_here 16 = .ok (.getfield 98, 3) := by decide +kernel
theorem dX10_here_19 : decode cX10_here 19 = .ok (.iaload, 1) := by decide +kernel
theorem dX10_here_20 : decode cX10_here 20 = .ok (.bipush 32, 2) := by decide +kernel
theorem dX10_here_22 : decode cX10_here 22 = .ok (.if_icmp .ne 16, 3) := by decide +kernel
theorem dX10_here_25 : decode cX10_here 25 = .ok (.aload_n 0, 1) := by decide +kernel
theorem dX10_here_26 : decode cX10_here 26 = .ok (.dup, 1) := by decide +kernel
theorem dX10_here_27 : decode cX10_here 27 = .ok (.getfield 98, 3) := by decide +kernel
theorem dX10_here_30 : decode cX10_here 30 = .ok (.iconst 1, 1) := by decide +kernel
theorem dX10_here_31 : decode cX10_here 31 = .ok (.iadd, 1) := by decide +kernel
theorem dX10_here_32 : decode cX10_here 32 = .ok (.putfield 98, 3) := by decide +kernel
theorem dX10_here_35 : decode cX10_here 35 = .ok (.goto (-35), 3) := by decide +kernel
theorem dX10_here_38 : decode cX10_here 38 = .ok (.aload_n 0, 1) := by decide +kernel
theorem dX10_here_39 : decode cX10_here 39 = .ok (.getfield 98, 3) := by decide +kernel
theorem dX10_here_42 : decode cX10_here 42 = .ok (.aload_n 0, 1) := by decide +kernel
theorem dX10_here_43 : decode cX10_here 43 = .ok (.getfield 95, 3) := by decide +kernel
theorem dX10_here_46 : decode cX10_here 46 = .ok (.if_icmp .ge 15, 3) := by decide +kernel
theorem dX10_here_49 : decode cX10_here 49 = .ok (.aload_n 0, 1) := by decide +kernel
theorem dX10_here_50 : decode cX10_here 50 = .ok (.getfield 17, 3) := by decide +kernel
theorem dX10_here_53 : decode cX10_here 53 = .ok (.aload_n 0, 1) := by decide +kernel
theorem dX10_here_54 : decode cX10_here 54 = .ok (.getfield 98, 3) := by decide +kernel
theorem dX10_here_57 : decode cX10_here 57 = .ok (.iaload, 1) := by decide +kernel
theorem dX10_here_58 : decode cX10_here 58 = .ok (.goto 4, 3) := by decide +kernel
theorem dX10_here_61 : decode cX10_here 61 = .ok (.iconst 0, 1) := by decide +kernel
theorem dX10_here_62 : decode cX10_here 62 = .ok (.ireturn, 1) := by decide +kernel
theorem dX10_must_0 : decode cX10_must 0 = .ok (.aload_n 0, 1) := by decide +kernel
theorem dX10_must_1 : decode cX10_must 1 = .ok (.aload_n 0, 1) := by decide +kernel
theorem dX10_must_2 : decode cX10_must 2 = .ok (.getfield 101, 3) := by decide +kernel
theorem dX10_must_5 : decode cX10_must 5 = .ok (.ifCond .ne 7, 3) := by decide +kernel
theorem dX10_must_8 : decode cX10_must 8 = .ok (.iload_n 1, 1) := by decide +kernel
theorem dX10_must_9 : decode cX10_must 9 = .ok (.ifCond .ne 7, 3) := by decide +kernel
theorem dX10_must_12 : decode cX10_must 12 = .ok (.iconst 1, 1) := by decide +kernel
theorem dX10_must_13 : decode cX10_must 13 = .ok (.goto 4, 3) := by decide +kernel
theorem dX10_must_16 : decode cX10_must 16 = .ok (.iconst 0, 1) := by decide +kernel
theorem dX10_must_17 : decode cX10_must 17 = .ok (.putfield 101, 3) := by decide +kernel
theorem dX10_must_20 : decode cX10_must 20 = .ok (.return_, 1) := by decide +kernel
theorem dX10_takes_0 : decode cX10_takes 0 = .ok (.aload_n 0, 1) := by decide +kernel
theorem dX10_takes_1 : decode cX10_takes 1 = .ok (.aload_n 0, 1) := by decide +kernel
theorem dX10_takes_2 : decode cX10_takes 2 = .ok (.invokevirtual 105, 3) := by decide +kernel
theorem dX10_takes_5 : decode cX10_takes 5 = .ok (.iload_n 1, 1) := by decide +kernel
theorem dX10_takes_6 : decode cX10_takes 6 = .ok (.if_icmp .ne 7, 3) := by decide +kernel
theorem dX10_takes_9 : decode cX10_takes 9 = .ok (.iconst 1, 1) := by decide +kernel
theorem dX10_takes_10 : decode cX10_takes 10 = .ok (.goto 4, 3) := by decide +kernel
theorem dX10_takes_13 : decode cX10_takes 13 = .ok (.iconst 0, 1) := by decide +kernel
theorem dX10_takes_14 : decode cX10_takes 14 = .ok (.invokevirtual 109, 3) := by decide +kernel
theorem dX10_takes_17 : decode cX10_takes 17 = .ok (.aload_n 0, 1) := by decide +kernel
theorem dX10_takes_18 : decode cX10_takes 18 = .ok (.dup, 1) := by decide +kernel
theorem dX10_takes_19 : decode cX10_takes 19 = .ok (.getfield 98, 3) := by decide +kernel
theorem dX10_takes_22 : decode cX10_takes 22 = .ok (.aload_n 0, 1) := by decide +kernel
theorem dX10_takes_23 : decode cX10_takes 23 = .ok (.getfield 101, 3) := by decide +kernel
theorem dX10_takes_26 : decode cX10_takes 26 = .ok (.ifCond .eq 7, 3) := by decide +kernel
theorem dX10_takes_29 : decode cX10_takes 29 = .ok (.iconst 0, 1) := by decide +kernel
theorem dX10_takes_30 : decode cX10_takes 30 = .ok (.goto 4, 3) := by decide +kernel
theorem dX10_takes_33 : decode cX10_takes 33 = .ok (.iconst 1, 1) := by decide +kernel
theorem dX10_takes_34 : decode cX10_takes 34 = .ok (.iadd, 1) := by decide +kernel
theorem dX10_takes_35 : decode cX10_takes 35 = .ok (.putfield 98, 3) := by decide +kernel
theorem dX10_takes_38 : decode cX10_takes 38 = .ok (.return_, 1) := by decide +kernel
theorem dX10_digit_0 : decode cX10_digit 0 = .ok (.aload_n 0, 1) := by decide +kernel
theorem dX10_digit_1 : decode cX10_digit 1 = .ok (.getfield 101, 3) := by decide +kernel
theorem dX10_digit_4 : decode cX10_digit 4 = .ok (.ifCond .eq 7, 3) := by decide +kernel
theorem dX10_digit_7 : decode cX10_digit 7 = .ok (.iconst (-1), 1) := by decide +kernel
theorem dX10_digit_8 : decode cX10_digit 8 = .ok (.goto 10, 3) := by decide +kernel
theorem dX10_digit_11 : decode cX10_digit 11 = .ok (.aload_n 0, 1) := by decide +kernel
theorem dX10_digit_12 : decode cX10_digit 12 = .ok (.invokevirtual 105, 3) := by decide +kernel
theorem dX10_digit_15 : decode cX10_digit 15 = .ok (.bipush 48, 2) := by decide +kernel
theorem dX10_digit_17 : decode cX10_digit 17 = .ok (.isub, 1) := by decide +kernel
theorem dX10_digit_18 : decode cX10_digit 18 = .ok (.istore_n 3, 1) := by decide +kernel
theorem dX10_digit_19 : decode cX10_digit 19 = .ok (.aload_n 0, 1) := by decide +kernel
theorem dX10_digit_20 : decode cX10_digit 20 = .ok (.iload_n 3, 1) := by decide +kernel
theorem dX10_digit_21 : decode cX10_digit 21 = .ok (.i2l, 1) := by decide +kernel
theorem dX10_digit_22 : decode cX10_digit 22 = .ok (.iload_n 1, 1) := by decide +kernel
theorem dX10_digit_23 : decode cX10_digit 23 = .ok (.i2l, 1) := by decide +kernel
theorem dX10_digit_24 : decode cX10_digit 24 = .ok (.iload_n 2, 1) := by decide +kernel
theorem dX10_digit_25 : decode cX10_digit 25 = .ok (.i2l, 1) := by decide +kernel
theorem dX10_digit_26 : decode cX10_digit 26 = .ok (.invokestatic 51, 3) := by decide +kernel
theorem dX10_digit_29 : decode cX10_digit 29 = .ok (.invokevirtual 109, 3) := by decide +kernel
theorem dX10_digit_32 : decode cX10_digit 32 = .ok (.aload_n 0, 1) := by decide +kernel
theorem dX10_digit_33 : decode cX10_digit 33 = .ok (.dup, 1) := by decide +kernel
theorem dX10_digit_34 : decode cX10_digit 34 = .ok (.getfield 98, 3) := by decide +kernel
theorem dX10_digit_37 : decode cX10_digit 37 = .ok (.aload_n 0, 1) := by decide +kernel
theorem dX10_digit_38 : decode cX10_digit 38 = .ok (.getfield 101, 3) := by decide +kernel
theorem dX10_digit_41 : decode cX10_digit 41 = .ok (.ifCond .eq 7, 3) := by decide +kernel
theorem dX10_digit_44 : decode cX10_digit 44 = .ok (.iconst 0, 1) := by decide +kernel
theorem dX10_digit_45 : decode cX10_digit 45 = .ok (.goto 4, 3) := by decide +kernel
theorem dX10_digit_48 : decode cX10_digit 48 = .ok (.iconst 1, 1) := by decide +kernel
theorem dX10_digit_49 : decode cX10_digit 49 = .ok (.iadd, 1) := by decide +kernel
theorem dX10_digit_50 : decode cX10_digit 50 = .ok (.putfield 98, 3) := by decide +kernel
theorem dX10_digit_53 : decode cX10_digit 53 = .ok (.iload_n 3, 1) := by decide +kernel
theorem dX10_digit_54 : decode cX10_digit 54 = .ok (.ireturn, 1) := by decide +kernel
theorem dX10_number_0 : decode cX10_number 0 = .ok (.aload_n 0, 1) := by decide +kernel
theorem dX10_number_1 : decode cX10_number 1 = .ok (.getfield 101, 3) := by decide +kernel
theorem dX10_number_4 : decode cX10_number 4 = .ok (.ifCond .eq 7, 3) := by decide +kernel
theorem dX10_number_7 : decode cX10_number 7 = .ok (.iconst 0, 1) := by decide +kernel
theorem dX10_number_8 : decode cX10_number 8 = .ok (.goto 7, 3) := by decide +kernel
theorem dX10_number_11 : decode cX10_number 11 = .ok (.aload_n 0, 1) := by decide +kernel
theorem dX10_number_12 : decode cX10_number 12 = .ok (.invokevirtual 105, 3) := by decide +kernel
theorem dX10_number_15 : decode cX10_number 15 = .ok (.istore_n 3, 1) := by decide +kernel
theorem dX10_number_16 : decode cX10_number 16 = .ok (.aload_n 0, 1) := by decide +kernel
theorem dX10_number_17 : decode cX10_number 17 = .ok (.getfield 98, 3) := by decide +kernel
theorem dX10_number_20 : decode cX10_number 20 = .ok (.istore 4, 2) := by decide +kernel
theorem dX10_number_22 : decode cX10_number 22 = .ok (.iconst 0, 1) := by decide +kernel
theorem dX10_number_23 : decode cX10_number 23 = .ok (.istore 5, 2) := by decide +kernel
theorem dX10_number_25 : decode cX10_number 25 = .ok (.aload_n 0, 1) := by decide +kernel
theorem dX10_number_26 : decode cX10_number 26 = .ok (.iload_n 3, 1) := by decide +kernel
theorem dX10_number_27 : decode cX10_number 27 = .ok (.i2l, 1) := by decide +kernel
theorem dX10_number_28 : decode cX10_number 28 = .ok (.ldc2_w 113, 3) := by decide +kernel
theorem dX10_number_31 : decode cX10_number 31 = .ok (.ldc2_w 115, 3) := by decide +kernel
theorem dX10_number_34 : decode cX10_number 34 = .ok (.invokestatic 51, 3) := by decide +kernel
theorem dX10_number_37 : decode cX10_number 37 = .ok (.invokevirtual 109, 3) := by decide +kernel
theorem dX10_number_40 : decode cX10_number 40 = .ok (.aload_n 0, 1) := by decide +kernel
theorem dX10_number_41 : decode cX10_number 41 = .ok (.getfield 101, 3) := by decide +kernel
theorem dX10_number_44 : decode cX10_number 44 = .ok (.ifCond .ne 80, 3) := by decide +kernel
theorem dX10_number_47 : decode cX10_number 47 = .ok (.aload_n 0, 1) := by decide +kernel
theorem dX10_number_48 : decode cX10_number 48 = .ok (.getfield 98, 3) := by decide +kernel
theorem dX10_number_51 : decode cX10_number 51 = .ok (.aload_n 0, 1) := by decide +kernel
theorem dX10_number_52 : decode cX10_number 52 = .ok (.getfield 95, 3) := by decide +kernel
theorem dX10_number_55 : decode cX10_number 55 = .ok (.if_icmp .ge 69, 3) := by decide +kernel
theorem dX10_number_58 : decode cX10_number 58 = .ok (.aload_n 0, 1) := by decide +kernel
theorem dX10_number_59 : decode cX10_number 59 = .ok (.getfield 98, 3) := by decide +kernel
theorem dX10_number_62 : decode cX10_number 62 = .ok (.iload 4, 2) := by decide +kernel
theorem dX10_number_64 : decode cX10_number 64 = .ok (.isub, 1) := by decide +kernel
theorem dX10_number_65 : decode cX10_number 65 = .ok (.iconst 3, 1) := by decide +kernel
theorem dX10_number_66 : decode cX10_number 66 = .ok (.if_icmp .ge 58, 3) := by decide +kernel
theorem dX10_number_69 : decode cX10_number 69 = .ok (.aload_n 0, 1) := by decide +kernel
theorem dX10_number_70 : decode cX10_number 70 = .ok (.getfield 17, 3) := by decide +kernel
theorem dX10_number_73 : decode cX10_number 73 = .ok (.aload_n 0, 1) := by decide +kernel
theorem dX10_number_74 : decode cX10_number 74 = .ok (.getfield 98, 3) := by decide +kernel
theorem dX10_number_77 : decode cX10_number 77 = .ok (.iaload, 1) := by decide +kernel
theorem dX10_number_78 : decode cX10_number 78 = .ok (.i2l, 1) := by decide +kernel
theorem dX10_number_79 : decode cX10_number 79 = .ok (.ldc2_w 113, 3) := by decide +kernel
theorem dX10_number_82 : decode cX10_number 82 = .ok (.ldc2_w 115, 3) := by decide +kernel
theorem dX10_number_85 : decode cX10_number 85 = .ok (.invokestatic 51, 3) := by decide +kernel
theorem dX10_number_88 : decode cX10_number 88 = .ok (.ifCond .eq 36, 3) := by decide +kernel
theorem dX10_number_91 : decode cX10_number 91 = .ok (.bipush 10, 2) := by decide +kernel
theorem dX10_number_93 : decode cX10_number 93 = .ok (.iload 5, 2) := by decide +kernel
theorem dX10_number_95 : decode cX10_number 95 = .ok (.imul, 1) := by decide +kernel
theorem dX10_number_96 : decode cX10_number 96 = .ok (.aload_n 0, 1) := by decide +kernel
theorem dX10_number_97 : decode cX10_number 97 = .ok (.getfield 17, 3) := by decide +kernel
theorem dX10_number_100 : decode cX10_number 100 = .ok (.aload_n 0, 1) := by decide +kernel
theorem dX10_number_101 : decode cX10_number 101 = .ok (.getfield 98, 3) := by decide +kernel
theorem dX10_number_104 : decode cX10_number 104 = .ok (.iaload, 1) := by decide +kernel
theorem dX10_number_105 : decode cX10_number 105 = .ok (.iadd, 1) := by decide +kernel
theorem dX10_number_106 : decode cX10_number 106 = .ok (.bipush 48, 2) := by decide +kernel
theorem dX10_number_108 : decode cX10_number 108 = .ok (.isub, 1) := by decide +kernel
theorem dX10_number_109 : decode cX10_number 109 = .ok (.istore 5, 2) := by decide +kernel
theorem dX10_number_111 : decode cX10_number 111 = .ok (.aload_n 0, 1) := by decide +kernel
theorem dX10_number_112 : decode cX10_number 112 = .ok (.dup, 1) := by decide +kernel
theorem dX10_number_113 : decode cX10_number 113 = .ok (.getfield 98, 3) := by decide +kernel
theorem dX10_number_116 : decode cX10_number 116 = .ok (.iconst 1, 1) := by decide +kernel
theorem dX10_number_117 : decode cX10_number 117 = .ok (.iadd, 1) := by decide +kernel
theorem dX10_number_118 : decode cX10_number 118 = .ok (.putfield 98, 3) := by decide +kernel
theorem dX10_number_121 : decode cX10_number 121 = .ok (.goto (-81), 3) := by decide +kernel
theorem dX10_number_124 : decode cX10_number 124 = .ok (.aload_n 0, 1) := by decide +kernel
theorem dX10_number_125 : decode cX10_number 125 = .ok (.getfield 101, 3) := by decide +kernel
theorem dX10_number_128 : decode cX10_number 128 = .ok (.ifCond .ne 27, 3) := by decide +kernel
theorem dX10_number_131 : decode cX10_number 131 = .ok (.iload 5, 2) := by decide +kernel
theorem dX10_number_133 : decode cX10_number 133 = .ok (.i2l, 1) := by decide +kernel
theorem dX10_number_134 : decode cX10_number 134 = .ok (.iload_n 1, 1) := by decide +kernel
theorem dX10_number_135 : decode cX10_number 135 = .ok (.i2l, 1) := by decide +kernel
theorem dX10_number_136 : decode cX10_number 136 = .ok (.iload_n 2, 1) := by decide +kernel
theorem dX10_number_137 : decode cX10_number 137 = .ok (.i2l, 1) := by decide +kernel
theorem dX10_number_138 : decode cX10_number 138 = .ok (.invokestatic 51, 3) := by decide +kernel
theorem dX10_number_141 : decode cX10_number 141 = .ok (.ifCond .ne 14, 3) := by decide +kernel
theorem dX10_number_144 : decode cX10_number 144 = .ok (.aload_n 0, 1) := by decide +kernel
theorem dX10_number_145 : decode cX10_number 145 = .ok (.iconst 1, 1) := by decide +kernel
theorem dX10_number_146 : decode cX10_number 146 = .ok (.putfield 101, 3) := by decide +kernel
theorem dX10_number_149 : decode cX10_number 149 = .ok (.aload_n 0, 1) := by decide +kernel
theorem dX10_number_150 : decode cX10_number 150 = .ok (.iload 4, 2) := by decide +kernel
theorem dX10_number_152 : decode cX10_number 152 = .ok (.putfield 98, 3) := by decide +kernel
theorem dX10_number_155 : decode cX10_number 155 = .ok (.iload 5, 2) := by decide +kernel
theorem dX10_number_157 : decode cX10_number 157 = .ok (.ireturn, 1) := by decide +kernel
theorem dX10_readBuilders_0 : decode cX10_readBuilders 0 = .ok (.iconst 0, 1) := by decide +kernel
theorem dX10_readBuilders_1 : decode cX10_readBuilders 1 = .ok (.istore_n 1, 1) := by decide +kernel
theorem dX10_readBuilders_2 : decode cX10_readBuilders 2 = .ok (.aload_n 0, 1) := by decide +kernel
theorem dX10_readBuilders_3 : decode cX10_readBuilders 3 = .ok (.getfield 101, 3) := by decide +kernel
theorem dX10_readBuilders_6 : decode cX10_readBuilders 6 = .ok (.ifCond .ne 237, 3) := by decide +kernel
theorem dX10_readBuilders_9 : decode cX10_readBuilders 9 = .ok (.iload_n 1, 1) := by decide +kernel
theorem dX10_readBuilders_10 : decode cX10_readBuilders 10 = .ok (.ifCond .eq 19, 3) := by decide +kernel
theorem dX10_readBuilders_13 : decode cX10_readBuilders 13 = .ok (.aload_n 0, 1) := by decide +kernel
theorem dX10_readBuilders_14 : decode cX10_readBuilders 14 = .ok (.invokevirtual 105, 3) := by decide +kernel
theorem dX10_readBuilders_17 : decode cX10_readBuilders 17 = .ok (.ifCond .eq 226, 3) := by decide +kernel
theorem dX10_readBuilders_20 : decode cX10_readBuilders 20 = .ok (.aload_n 0, 1) := by decide +kernel
theorem dX10_readBuilders_21 : decode cX10_readBuilders 21 = .ok (.invokevirtual 105, 3) := by decide +kernel
theorem dX10_readBuilders_24 : decode cX10_readBuilders 24 = .ok (.bipush 59, 2) := by decide +kernel
theorem dX10_readBuilders_26 : decode cX10_readBuilders 26 = .ok (.if_icmp .eq 217, 3) := by decide +kernel
theorem dX10_readBuilders_29 : decode cX10_readBuilders 29 = .ok (.iload_n 1, 1) := by decide +kernel
theorem dX10_readBuilders_30 : decode cX10_readBuilders 30 = .ok (.ifCond .le 47, 3) := by decide +kernel
theorem dX10_readBuilders_33 : decode cX10_readBuilders 33 = .ok (.aload_n 0, 1) := by decide +kernel
theorem dX10_readBuilders_34 : decode cX10_readBuilders 34 = .ok (.iload_n 1, 1) := by decide +kernel
theorem dX10_readBuilders_35 : decode cX10_readBuilders 35 = .ok (.iconst 4, 1) := by decide +kernel
theorem dX10_readBuilders_36 : decode cX10_readBuilders 36 = .ok (.if_icmp .ge 16, 3) := by decide +kernel
theorem dX10_readBuilders_39 : decode cX10_readBuilders 39 = .ok (.aload_n 0, 1) := by decide +kernel
theorem dX10_readBuilders_40 : decode cX10_readBuilders 40 = .ok (.invokevirtual 105, 3) := by decide +kernel
theorem dX10_readBuilders_43 : decode cX10_readBuilders 43 = .ok (.bipush 44, 2) := by decide +kernel
theorem dX10_readBuilders_45 : decode cX10_readBuilders 45 = .ok (.if_icmp .ne 7, 3) := by decide +kernel
theorem dX10_readBuilders_48 : decode cX10_readBuilders 48 = .ok (.iconst 1, 1) := by decide +kernel
theorem dX10_readBuilders_49 : decode cX10_readBuilders 49 = .ok (.goto 4, 3) := by decide +kernel
theorem dX10_readBuilders_52 : decode cX10_readBuilders 52 = .ok (.iconst 0, 1) := by decide +kernel
theorem dX10_readBuilders_53 : decode cX10_readBuilders 53 = .ok (.invokevirtual 109, 3) := by decide +kernel
theorem dX10_readBuilders_56 : decode cX10_readBuilders 56 = .ok (.aload_n 0, 1) := by decide +kernel
theorem dX10_readBuilders_57 : decode cX10_readBuilders 57 = .ok (.dup, 1) := by decide +kernel
theorem dX10_readBuilders_58 : decode cX10_readBuilders 58 = .ok (.getfield 98, 3) := by decide +kernel
theorem dX10_readBuilders_61 : decode cX10_readBuilders 61 = .ok (.aload_n 0, 1) := by decide +kernel
theorem dX10_readBuilders_62 : decode cX10_readBuilders 62 = .ok (.getfield 101, 3) := by decide +kernel
theorem dX10_readBuilders_65 : decode cX10_readBuilders 65 = .ok (.ifCond .eq 7, 3) := by decide +kernel
theorem dX10_readBuilders_68 : decode cX10_readBuilders 68 = .ok (.iconst 0, 1) := by decide +kernel
theorem dX10_readBuilders_69 : decode cX10_readBuilders 69 = .ok (.goto 4, 3) := by decide +kernel
theorem dX10_readBuilders_72 : decode cX10_readBuilders 72 = .ok (.iconst 1, 1) := by decide +kernel
theorem dX10_readBuilders_73 : decode cX10_readBuilders 73 = .ok (.iadd, 1) := by decide +kernel
theorem dX10_readBuilders_74 : decode cX10_readBuilders 74 = .ok (.putfield 98, 3) := by decide +kernel
theorem dX10_readBuilders_77 : decode cX10_readBuilders 77 = .ok (.aload_n 0, 1) := by decide +kernel
theorem dX10_readBuilders_78 : decode cX10_readBuilders 78 = .ok (.getfield 101, 3) := by decide +kernel
theorem dX10_readBuilders_81 : decode cX10_readBuilders 81 = .ok (.ifCond .eq 7, 3) := by decide +kernel
theorem dX10_readBuilders_84 : decode cX10_readBuilders 84 = .ok (.iconst 0, 1) := by decide +kernel
theorem dX10_readBuilders_85 : decode cX10_readBuilders 85 = .ok (.goto 7, 3) := by decide +kernel
theorem dX10_readBuilders_88 : decode cX10_readBuilders 88 = .ok (.aload_n 0, 1) := by decide +kernel
theorem dX10_readBuilders_89 : decode cX10_readBuilders 89 = .ok (.invokevirtual 105, 3) := by decide +kernel
theorem dX10_readBuilders_92 : decode cX10_readBuilders 92 = .ok (.istore_n 2, 1) := by decide +kernel
theorem dX10_readBuilders_93 : decode cX10_readBuilders 93 = .ok (.iload_n 2, 1) := by decide +kernel
theorem dX10_readBuilders_94 : decode cX10_readBuilders 94 = .ok (.bipush 112, 2) := by decide +kernel
theorem dX10_readBuilders_96 : decode cX10_readBuilders 96 = .ok (.if_icmp .ne 7, 3) := by decide +kernel
theorem dX10_readBuilders_99 : decode cX10_readBuilders 99 = .ok (.iconst 0, 1) := by decide +kernel
theorem dX10_readBuilders_100 : decode cX10_readBuilders 100 = .ok (.goto 44, 3) := by decide +kernel
theorem dX10_readBuilders_103 : decode cX10_readBuilders 103 = .ok (.iload_n 2, 1) := by decide +kernel
theorem dX10_readBuilders_104 : decode cX10_readBuilders 104 = .ok (.bipush 104, 2) := by decide +kernel
theorem dX10_readBuilders_106 : decode cX10_readBuilders 106 = .ok (.if_icmp .ne 7, 3) := by decide +kernel
theorem dX10_readBuilders_109 : decode cX10_readBuilders 109 = .ok (.iconst 1, 1) := by decide +kernel
theorem dX10_readBuilders_110 : decode cX10_readBuilders 110 = .ok (.goto 34, 3) := by decide +kernel
theorem dX10_readBuilders_113 : decode cX10_readBuilders 113 = .ok (.iload_n 2, 1) := by decide +kernel
theorem dX10_readBuilders_114 : decode cX10_readBuilders 114 = .ok (.bipush 98, 2) := by decide +kernel
theorem dX10_readBuilders_116 : decode cX10_readBuilders 116 = .ok (.if_icmp .ne 7, 3) := by decide +kernel
theorem dX10_readBuilders_119 : decode cX10_readBuilders 119 = .ok (.iconst 2, 1) := by decide +kernel
theorem dX10_readBuilders_120 : decode cX10_readBuilders 120 = .ok (.goto 24, 3) := by decide +kernel
theorem dX10_readBuilders_123 : decode cX10_readBuilders 123 = .ok (.iload_n 2, 1) := by decide +kernel
theorem dX10_readBuilders_124 : decode cX10_readBuilders 124 = .ok (.bipush 103, 2) := by decide +kernel
theorem dX10_readBuilders_126 : decode cX10_readBuilders 126 = .ok (.if_icmp .ne 7, 3) := by decide +kernel
theorem dX10_readBuilders_129 : decode cX10_readBuilders 129 = .ok (.iconst 3, 1) := by decide +kernel
theorem dX10_readBuilders_130 : decode cX10_readBuilders 130 = .ok (.goto 14, 3) := by decide +kernel
theorem dX10_readBuilders_133 : decode cX10_readBuilders 133 = .ok (.iload_n 2, 1) := by decide +kernel
theorem dX10_readBuilders_134 : decode cX10_readBuilders 134 = .ok (.bipush 119, 2) := by decide +kernel
theorem dX10_readBuilders_136 : decode cX10_readBuilders 136 = .ok (.if_icmp .ne 7, 3) := by decide +kernel
theorem dX10_readBuilders_139 : decode cX10_readBuilders 139 = .ok (.iconst 4, 1) := by decide +kernel
theorem dX10_readBuilders_140 : decode cX10_readBuilders 140 = .ok (.goto 4, 3) := by decide +kernel
theorem dX10_readBuilders_143 : decode cX10_readBuilders 143 = .ok (.iconst (-1), 1) := by decide +kernel
theorem dX10_readBuilders_144 : decode cX10_readBuilders 144 = .ok (.istore_n 3, 1) := by decide +kernel
theorem dX10_readBuilders_145 : decode cX10_readBuilders 145 = .ok (.aload_n 0, 1) := by decide +kernel
theorem dX10_readBuilders_146 : decode cX10_readBuilders 146 = .ok (.iload_n 3, 1) := by decide +kernel
theorem dX10_readBuilders_147 : decode cX10_readBuilders 147 = .ok (.ifCond .lt 7, 3) := by decide +kernel
theorem dX10_readBuilders_150 : decode cX10_readBuilders 150 = .ok (.iconst 1, 1) := by decide +kernel
theorem dX10_readBuilders_151 : decode cX10_readBuilders 151 = .ok (.goto 4, 3) := by decide +kernel
theorem dX10_readBuilders_154 : decode cX10_readBuilders 154 = .ok (.iconst 0, 1) := by decide +kernel
theorem dX10_readBuilders_155 : decode cX10_readBuilders 155 = .ok (.invokevirtual 109, 3) := by decide +kernel
theorem dX10_readBuilders_158 : decode cX10_readBuilders 158 = .ok (.aload_n 0, 1) := by decide +kernel
theorem dX10_readBuilders_159 : decode cX10_readBuilders 159 = .ok (.dup, 1) := by decide +kernel
theorem dX10_readBuilders_160 : decode cX10_readBuilders 160 = .ok (.getfield 98, 3) := by decide +kernel
theorem dX10_readBuilders_163 : decode cX10_readBuilders 163 = .ok (.aload_n 0, 1) := by decide +kernel
theorem dX10_readBuilders_164 : decode cX10_readBuilders 164 = .ok (.getfield 101, 3) := by decide +kernel
theorem dX10_readBuilders_167 : decode cX10_readBuilders 167 = .ok (.ifCond .eq 7, 3) := by decide +kernel
theorem dX10_readBuilders_170 : decode cX10_readBuilders 170 = .ok (.iconst 0, 1) := by decide +kernel
theorem dX10_readBuilders_171 : decode cX10_readBuilders 171 = .ok (.goto 4, 3) := by decide +kernel
theorem dX10_readBuilders_174 : decode cX10_readBuilders 174 = .ok (.iconst 1, 1) := by decide +kernel
theorem dX10_readBuilders_175 : decode cX10_readBuilders 175 = .ok (.iadd, 1) := by decide +kernel
theorem dX10_readBuilders_176 : decode cX10_readBuilders 176 = .ok (.putfield 98, 3) := by decide +kernel
theorem dX10_readBuilders_179 : decode cX10_readBuilders 179 = .ok (.aload_n 0, 1) := by decide +kernel
theorem dX10_readBuilders_180 : decode cX10_readBuilders 180 = .ok (.iconst 1, 1) := by decide +kernel
theorem dX10_readBuilders_181 : decode cX10_readBuilders 181 = .ok (.bipush 9, 2) := by decide +kernel
theorem dX10_readBuilders_183 : decode cX10_readBuilders 183 = .ok (.invokevirtual 117, 3) := by decide +kernel
theorem dX10_readBuilders_186 : decode cX10_readBuilders 186 = .ok (.istore 4, 2) := by decide +kernel
theorem dX10_readBuilders_188 : decode cX10_readBuilders 188 = .ok (.aload_n 0, 1) := by decide +kernel
theorem dX10_readBuilders_189 : decode cX10_readBuilders 189 = .ok (.iconst 0, 1) := by decide +kernel
theorem dX10_readBuilders_190 : decode cX10_readBuilders 190 = .ok (.bipush 9, 2) := by decide +kernel
theorem dX10_readBuilders_192 : decode cX10_readBuilders 192 = .ok (.invokevirtual 117, 3) := by decide +kernel
theorem dX10_readBuilders_195 : decode cX10_readBuilders 195 = .ok (.istore 5, 2) := by decide +kernel
theorem dX10_readBuilders_197 : decode cX10_readBuilders 197 = .ok (.aload_n 0, 1) := by decide +kernel
theorem dX10_readBuilders_198 : decode cX10_readBuilders 198 = .ok (.getfield 101, 3) := by decide +kernel
theorem dX10_readBuilders_201 : decode cX10_readBuilders 201 = .ok (.ifCond .ne 36, 3) := by decide +kernel
theorem dX10_readBuilders_204 : decode cX10_readBuilders 204 = .ok (.aload_n 0, 1) := by decide +kernel
theorem dX10_readBuilders_205 : decode cX10_readBuilders 205 = .ok (.getfield 20, 3) := by decide +kernel
theorem dX10_readBuilders_208 : decode cX10_readBuilders 208 = .ok (.iconst 3, 1) := by decide +kernel
theorem dX10_readBuilders_209 : decode cX10_readBuilders 209 = .ok (.iload_n 1, 1) := by decide +kernel
theorem dX10_readBuilders_210 : decode cX10_readBuilders 210 = .ok (.imul, 1) := by decide +kernel
theorem dX10_readBuilders_211 : decode cX10_readBuilders 211 = .ok (.iload_n 3, 1) := by decide +kernel
theorem dX10_readBuilders_212 : decode cX10_readBuilders 212 = .ok (.iastore, 1) := by decide +kernel
theorem dX10_readBuilders_213 : decode cX10_readBuilders 213 = .ok (.aload_n 0, 1) := by decide +kernel
theorem dX10_readBuilders_214 : decode cX10_readBuilders 214 = .ok (.getfield 20, 3) := by decide +kernel
theorem dX10_readBuilders_217 : decode cX10_readBuilders 217 = .ok (.iconst 3, 1) := by decide +kernel
theorem dX10_readBuilders_218 : decode cX10_readBuilders 218 = .ok (.iload_n 1, 1) := by decide +kernel
theorem dX10_readBuilders_219 : decode cX10_readBuilders 219 = .ok (.imul, 1) := by decide +kernel
theorem dX10_readBuilders_220 : decode cX10_readBuilders 220 = .ok (.iconst 1, 1) := by decide +kernel
theorem dX10_readBuilders_221 : decode cX10_readBuilders 221 = .ok (.iadd, 1) := by decide +kernel
theorem dX10_readBuilders_222 : decode cX10_readBuilders 222 = .ok (.iload 4, 2) := by decide +kernel
theorem dX10_readBuilders_224 : decode cX10_readBuilders 224 = .ok (.iastore, 1) := by decide +kernel
theorem dX10_readBuilders_225 : decode cX10_readBuilders 225 = .ok (.aload_n 0, 1) := by decide +kernel
theorem dX10_readBuilders_226 : decode cX10_readBuilders 226 = .ok (.getfield 20, 3) := by decide +kernel
theorem dX10_readBuilders_229 : decode cX10_readBuilders 229 = .ok (.iconst 3, 1) := by decide +kernel
theorem dX10_readBuilders_230 : decode cX10_readBuilders 230 = .ok (.iload_n 1, 1) := by decide +kernel
theorem dX10_readBuilders_231 : decode cX10_readBuilders 231 = .ok (.imul, 1) := by decide +kernel
theorem dX10_readBuilders_232 : decode cX10_readBuilders 232 = .ok (.iconst 2, 1) := by decide +kernel
theorem dX10_readBuilders_233 : decode cX10_readBuilders 233 = .ok (.iadd, 1) := by decide +kernel
theorem dX10_readBuilders_234 : decode cX10_readBuilders 234 = .ok (.iload 5, 2) := by decide +kernel
theorem dX10_readBuilders_236 : decode cX10_readBuilders 236 = .ok (.iastore, 1) := by decide +kernel
theorem dX10_readBuilders_237 : decode cX10_readBuilders 237 = .ok (.iinc 1 1, 3) := by decide +kernel
theorem dX10_readBuilders_240 : decode cX10_readBuilders 240 = .ok (.goto (-238), 3) := by decide +kernel
theorem dX10_readBuilders_243 : decode cX10_readBuilders 243 = .ok (.iload_n 1, 1) := by decide +kernel
theorem dX10_readBuilders_244 : decode cX10_readBuilders 244 = .ok (.ireturn, 1) := by decide +kernel
theorem dX10_readHindrances_0 : decode cX10_readHindrances 0 = .ok (.iconst 0, 1) := by decide +kernel
theorem dX10_readHindrances_1 : decode cX10_readHindrances 1 = .ok (.istore_n 1, 1) := by decide +kernel
theorem dX10_readHindrances_2 : decode cX10_readHindrances 2 = .ok (.aload_n 0, 1) := by decide +kernel
theorem dX10_readHindrances_3 : decode cX10_readHindrances 3 = .ok (.getfield 101, 3) := by decide +kernel
theorem dX10_readHindrances_6 : decode cX10_readHindrances 6 = .ok (.ifCond .ne 169, 3) := by decide +kernel
theorem dX10_readHindrances_9 : decode cX10_readHindrances 9 = .ok (.iload_n 1, 1) := by decide +kernel
theorem dX10_readHindrances_10 : decode cX10_readHindrances 10 = .ok (.ifCond .eq 10, 3) := by decide +kernel
theorem dX10_readHindrances_13 : decode cX10_readHindrances 13 = .ok (.aload_n 0, 1) := by decide +kernel
theorem dX10_readHindrances_14 : decode cX10_readHindrances 14 = .ok (.invokevirtual 105, 3) := by decide +kernel
theorem dX10_readHindrances_17 : decode cX10_readHindrances 17 = .ok (.ifCond .eq 158, 3) := by decide +kernel
theorem dX10_readHindrances_20 : decode cX10_readHindrances 20 = .ok (.iload_n 1, 1) := by decide +kernel
theorem dX10_readHindrances_21 : decode cX10_readHindrances 21 = .ok (.ifCond .le 48, 3) := by decide +kernel
theorem dX10_readHindrances_24 : decode cX10_readHindrances 24 = .ok (.aload_n 0, 1) := by decide +kernel
theorem dX10_readHindrances_25 : decode cX10_readHindrances 25 = .ok (.iload_n 1, 1) := by decide +kernel
theorem dX10_readHindrances_26 : decode cX10_readHindrances 26 = .ok (.bipush 6, 2) := by decide +kernel
theorem dX10_readHindrances_28 : decode cX10_readHindrances 28 = .ok (.if_icmp .ge 16, 3) := by decide +kernel
theorem dX10_readHindrances_31 : decode cX10_readHindrances 31 = .ok (.aload_n 0, 1) := by decide +kernel
theorem dX10_readHindrances_32 : decode cX10_readHindrances 32 = .ok (.invokevirtual 105, 3) := by decide +kernel
theorem dX10_readHindrances_35 : decode cX10_readHindrances 35 = .ok (.bipush 44, 2) := by decide +kernel
theorem dX10_readHindrances_37 : decode cX10_readHindrances 37 = .ok (.if_icmp .ne 7, 3) := by decide +kernel
theorem dX10_readHindrances_40 : decode cX10_readHindrances 40 = .ok (.iconst 1, 1) := by decide +kernel
theorem dX10_readHindrances_41 : decode cX10_readHindrances 41 = .ok (.goto 4, 3) := by decide +kernel
theorem dX10_readHindrances_44 : decode cX10_readHindrances 44 = .ok (.iconst 0, 1) := by decide +kernel
theorem dX10_readHindrances_45 : decode cX10_readHindrances 45 = .ok (.invokevirtual 109, 3) := by decide +kernel
theorem dX10_readHindrances_48 : decode cX10_readHindrances 48 = .ok (.aload_n 0, 1) := by decide +kernel
theorem dX10_readHindrances_49 : decode cX10_readHindrances 49 = .ok (.dup, 1) := by decide +kernel
theorem dX10_readHindrances_50 : decode cX10_readHindrances 50 = .ok (.getfield 98, 3) := by decide +kernel
theorem dX10_readHindrances_53 : decode cX10_readHindrances 53 = .ok (.aload_n 0, 1) := by decide +kernel
theorem dX10_readHindrances_54 : decode cX10_readHindrances 54 = .ok (.getfield 101, 3) := by decide +kernel
theorem dX10_readHindrances_57 : decode cX10_readHindrances 57 = .ok (.ifCond .eq 7, 3) := by decide +kernel
theorem dX10_readHindrances_60 : decode cX10_readHindrances 60 = .ok (.iconst 0, 1) := by decide +kernel
theorem dX10_readHindrances_61 : decode cX10_readHindrances 61 = .ok (.goto 4, 3) := by decide +kernel
theorem dX10_readHindrances_64 : decode cX10_readHindrances 64 = .ok (.iconst 1, 1) := by decide +kernel
theorem dX10_readHindrances_65 : decode cX10_readHindrances 65 = .ok (.iadd, 1) := by decide +kernel
theorem dX10_readHindrances_66 : decode cX10_readHindrances 66 = .ok (.putfield 98, 3) := by decide +kernel
theorem dX10_readHindrances_69 : decode cX10_readHindrances 69 = .ok (.aload_n 0, 1) := by decide +kernel
theorem dX10_readHindrances_70 : decode cX10_readHindrances 70 = .ok (.iconst 1, 1) := by decide +kernel
theorem dX10_readHindrances_71 : decode cX10_readHindrances 71 = .ok (.bipush 9, 2) := by decide +kernel
theorem dX10_readHindrances_73 : decode cX10_readHindrances 73 = .ok (.invokevirtual 117, 3) := by decide +kernel
theorem dX10_readHindrances_76 : decode cX10_readHindrances 76 = .ok (.istore_n 2, 1) := by decide +kernel
theorem dX10_readHindrances_77 : decode cX10_readHindrances 77 = .ok (.aload_n 0, 1) := by decide +kernel
theorem dX10_readHindrances_78 : decode cX10_readHindrances 78 = .ok (.getfield 101, 3) := by decide +kernel
theorem dX10_readHindrances_81 : decode cX10_readHindrances 81 = .ok (.ifCond .eq 7, 3) := by decide +kernel
theorem dX10_readHindrances_84 : decode cX10_readHindrances 84 = .ok (.iconst 0, 1) := by decide +kernel
theorem dX10_readHindrances_85 : decode cX10_readHindrances 85 = .ok (.goto 7, 3) := by decide +kernel
theorem dX10_readHindrances_88 : decode cX10_readHindrances 88 = .ok (.aload_n 0, 1) := by decide +kernel
theorem dX10_readHindrances_89 : decode cX10_readHindrances 89 = .ok (.invokevirtual 105, 3) := by decide +kernel
theorem dX10_readHindrances_92 : decode cX10_readHindrances 92 = .ok (.istore_n 3, 1) := by decide +kernel
theorem dX10_readHindrances_93 : decode cX10_readHindrances 93 = .ok (.iload_n 3, 1) := by decide +kernel
theorem dX10_readHindrances_94 : decode cX10_readHindrances 94 = .ok (.i2l, 1) := by decide +kernel
theorem dX10_readHindrances_95 : decode cX10_readHindrances 95 = .ok (.ldc2_w 120, 3) := by decide +kernel
theorem dX10_readHindrances_98 : decode cX10_readHindrances 98 = .ok (.ldc2_w 122, 3) := by decide +kernel
theorem dX10_readHindrances_101 : decode cX10_readHindrances 101 = .ok (.invokestatic 51, 3) := by decide +kernel
theorem dX10_readHindrances_104 : decode cX10_readHindrances 104 = .ok (.istore 4, 2) := by decide +kernel
theorem dX10_readHindrances_106 : decode cX10_readHindrances 106 = .ok (.aload_n 0, 1) := by decide +kernel
theorem dX10_readHindrances_107 : decode cX10_readHindrances 107 = .ok (.dup, 1) := by decide +kernel
theorem dX10_readHindrances_108 : decode cX10_readHindrances 108 = .ok (.getfield 98, 3) := by decide +kernel
theorem dX10_readHindrances_111 : decode cX10_readHindrances 111 = .ok (.iload 4, 2) := by decide +kernel
theorem dX10_readHindrances_113 : decode cX10_readHindrances 113 = .ok (.ifCond .eq 7, 3) := by decide +kernel
theorem dX10_readHindrances_116 : decode cX10_readHindrances 116 = .ok (.iconst 1, 1) := by decide +kernel
theorem dX10_readHindrances_117 : decode cX10_readHindrances 117 = .ok (.goto 4, 3) := by decide +kernel
theorem dX10_readHindrances_120 : decode cX10_readHindrances 120 = .ok (.iconst 0, 1) := by decide +kernel
theorem dX10_readHindrances_121 : decode cX10_readHindrances 121 = .ok (.iadd, 1) := by decide +kernel
theorem dX10_readHindrances_122 : decode cX10_readHindrances 122 = .ok (.putfield 98, 3) := by decide +kernel
theorem dX10_readHindrances_125 : decode cX10_readHindrances 125 = .ok (.aload_n 0, 1) := by decide +kernel
theorem dX10_readHindrances_126 : decode cX10_readHindrances 126 = .ok (.getfield 101, 3) := by decide +kernel
theorem dX10_readHindrances_129 : decode cX10_readHindrances 129 = .ok (.ifCond .ne 40, 3) := by decide +kernel
theorem dX10_readHindrances_132 : decode cX10_readHindrances 132 = .ok (.aload_n 0, 1) := by decide +kernel
theorem dX10_readHindrances_133 : decode cX10_readHindrances 133 = .ok (.getfield 20, 3) := by decide +kernel
theorem dX10_readHindrances_136 : decode cX10_readHindrances 136 = .ok (.bipush 12, 2) := by decide +kernel
theorem dX10_readHindrances_138 : decode cX10_readHindrances 138 = .ok (.iconst 2, 1) := by decide +kernel
theorem dX10_readHindrances_139 : decode cX10_readHindrances 139 = .ok (.iload_n 1, 1) := by decide +kernel
theorem dX10_readHindrances_140 : decode cX10_readHindrances 140 = .ok (.imul, 1) := by decide +kernel
theorem dX10_readHindrances_141 : decode cX10_readHindrances 141 = .ok (.iadd, 1) := by decide +kernel
theorem dX10_readHindrances_142 : decode cX10_readHindrances 142 = .ok (.iload_n 2, 1) := by decide +kernel
theorem dX10_readHindrances_143 : decode cX10_readHindrances 143 = .ok (.iastore, 1) := by decide +kernel
theorem dX10_readHindrances_144 : decode cX10_readHindrances 144 = .ok (.aload_n 0, 1) := by decide +kernel
theorem dX10_readHindrances_145 : decode cX10_readHindrances 145 = .ok (.getfield 20, 3) := by decide +kernel
theorem dX10_readHindrances_148 : decode cX10_readHindrances 148 = .ok (.bipush 13, 2) := by decide +kernel
theorem dX10_readHindrances_150 : decode cX10_readHindrances 150 = .ok (.iconst 2, 1) := by decide +kernel
theorem dX10_readHindrances_151 : decode cX10_readHindrances 151 = .ok (.iload_n 1, 1) := by decide +kernel
theorem dX10_readHindrances_152 : decode cX10_readHindrances 152 = .ok (.imul, 1) := by decide +kernel
theorem dX10_readHindrances_153 : decode cX10_readHindrances 153 = .ok (.iadd, 1) := by decide +kernel
theorem dX10_readHindrances_154 : decode cX10_readHindrances 154 = .ok (.iload 4, 2) := by decide +kernel
theorem dX10_readHindrances_156 : decode cX10_readHindrances 156 = .ok (.ifCond .eq 10, 3) := by decide +kernel
theorem dX10_readHindrances_159 : decode cX10_readHindrances 159 = .ok (.iload_n 3, 1) := by decide +kernel
theorem dX10_readHindrances_160 : decode cX10_readHindrances 160 = .ok (.bipush 97, 2) := by decide +kernel
theorem dX10_readHindrances_162 : decode cX10_readHindrances 162 = .ok (.isub, 1) := by decide +kernel
theorem dX10_readHindrances_163 : decode cX10_readHindrances 163 = .ok (.goto 5, 3) := by decide +kernel
theorem dX10_readHindrances_166 : decode cX10_readHindrances 166 = .ok (.bipush (-4), 2) := by decide +kernel
theorem dX10_readHindrances_168 : decode cX10_readHindrances 168 = .ok (.iastore, 1) := by decide +kernel
theorem dX10_readHindrances_169 : decode cX10_readHindrances 169 = .ok (.iinc 1 1, 3) := by decide +kernel
theorem dX10_readHindrances_172 : decode cX10_readHindrances 172 = .ok (.goto (-170), 3) := by decide +kernel
theorem dX10_readHindrances_175 : decode cX10_readHindrances 175 = .ok (.iload_n 1, 1) := by decide +kernel
theorem dX10_readHindrances_176 : decode cX10_readHindrances 176 = .ok (.ireturn, 1) := by decide +kernel
theorem dX10_bargain_0 : decode cX10_bargain 0 = .ok (.aload_n 0, 1) := by decide +kernel
theorem dX10_bargain_1 : decode cX10_bargain 1 = .ok (.iconst 0, 1) := by decide +kernel
theorem dX10_bargain_2 : decode cX10_bargain 2 = .ok (.putfield 98, 3) := by decide +kernel
theorem dX10_bargain_5 : decode cX10_bargain 5 = .ok (.aload_n 0, 1) := by decide +kernel
theorem dX10_bargain_6 : decode cX10_bargain 6 = .ok (.iconst 0, 1) := by decide +kernel
theorem dX10_bargain_7 : decode cX10_bargain 7 = .ok (.putfield 101, 3) := by decide +kernel
theorem dX10_bargain_10 : decode cX10_bargain 10 = .ok (.aload_n 0, 1) := by decide +kernel
theorem dX10_bargain_11 : decode cX10_bargain 11 = .ok (.iconst 1, 1) := by decide +kernel
theorem dX10_bargain_12 : decode cX10_bargain 12 = .ok (.sipush 200, 3) := by decide +kernel
theorem dX10_bargain_15 : decode cX10_bargain 15 = .ok (.invokevirtual 124, 3) := by decide +kernel
theorem dX10_bargain_18 : decode cX10_bargain 18 = .ok (.istore_n 1, 1) := by decide +kernel
theorem dX10_bargain_19 : decode cX10_bargain 19 = .ok (.aload_n 0, 1) := by decide +kernel
theorem dX10_bargain_20 : decode cX10_bargain 20 = .ok (.bipush 44, 2) := by decide +kernel
theorem dX10_bargain_22 : decode cX10_bargain 22 = .ok (.invokevirtual 127, 3) := by decide +kernel
theorem dX10_bargain_25 : decode cX10_bargain 25 = .ok (.aload_n 0, 1) := by decide +kernel
theorem dX10_bargain_26 : decode cX10_bargain 26 = .ok (.iconst 1, 1) := by decide +kernel
theorem dX10_bargain_27 : decode cX10_bargain 27 = .ok (.bipush 40, 2) := by decide +kernel
theorem dX10_bargain_29 : decode cX10_bargain 29 = .ok (.invokevirtual 124, 3) := by decide +kernel
theorem dX10_bargain_32 : decode cX10_bargain 32 = .ok (.istore_n 2, 1) := by decide +kernel
theorem dX10_bargain_33 : decode cX10_bargain 33 = .ok (.aload_n 0, 1) := by decide +kernel
theorem dX10_bargain_34 : decode cX10_bargain 34 = .ok (.bipush 59, 2) := by decide +kernel
theorem dX10_bargain_36 : decode cX10_bargain 36 = .ok (.invokevirtual 127, 3) := by decide +kernel
theorem dX10_bargain_39 : decode cX10_bargain 39 = .ok (.aload_n 0, 1) := by decide +kernel
theorem dX10_bargain_40 : decode cX10_bargain 40 = .ok (.invokevirtual 131, 3) := by decide +kernel
theorem dX10_bargain_43 : decode cX10_bargain 43 = .ok (.istore_n 3, 1) := by decide +kernel
theorem dX10_bargain_44 : decode cX10_bargain 44 = .ok (.iconst 0, 1) := by decide +kernel
theorem dX10_bargain_45 : decode cX10_bargain 45 = .ok (.istore 4, 2) := by decide +kernel
theorem dX10_bargain_47 : decode cX10_bargain 47 = .ok (.aload_n 0, 1) := by decide +kernel
theorem dX10_bargain_48 : decode cX10_bargain 48 = .ok (.getfield 101, 3) := by decide +kernel
theorem dX10_bargain_51 : decode cX10_bargain 51 = .ok (.ifCond .ne 28, 3) := by decide +kernel
theorem dX10_bargain_54 : decode cX10_bargain 54 = .ok (.aload_n 0, 1) := by decide +kernel
theorem dX10_bargain_55 : decode cX10_bargain 55 = .ok (.invokevirtual 105, 3) := by decide +kernel
theorem dX10_bargain_58 : decode cX10_bargain 58 = .ok (.bipush 59, 2) := by decide +kernel
theorem dX10_bargain_60 : decode cX10_bargain 60 = .ok (.if_icmp .ne 19, 3) := by decide +kernel
theorem dX10_bargain_63 : decode cX10_bargain 63 = .ok (.aload_n 0, 1) := by decide +kernel
theorem dX10_bargain_64 : decode cX10_bargain 64 = .ok (.dup, 1) := by decide +kernel
theorem dX10_bargain_65 : decode cX10_bargain 65 = .ok (.getfield 98, 3) := by decide +kernel
theorem dX10_bargain_68 : decode cX10_bargain 68 = .ok (.iconst 1, 1) := by decide +kernel
theorem dX10_bargain_69 : decode cX10_bargain 69 = .ok (.iadd, 1) := by decide +kernel
theorem dX10_bargain_70 : decode cX10_bargain 70 = .ok (.putfield 98, 3) := by decide +kernel
theorem dX10_bargain_73 : decode cX10_bargain 73 = .ok (.aload_n 0, 1) := by decide +kernel
theorem dX10_bargain_74 : decode cX10_bargain 74 = .ok (.invokevirtual 134, 3) := by decide +kernel
theorem dX10_bargain_77 : decode cX10_bargain 77 = .ok (.istore 4, 2) := by decide +kernel
theorem dX10_bargain_79 : decode cX10_bargain 79 = .ok (.aload_n 0, 1) := by decide +kernel
theorem dX10_bargain_80 : decode cX10_bargain 80 = .ok (.iconst 0, 1) := by decide +kernel
theorem dX10_bargain_81 : decode cX10_bargain 81 = .ok (.putfield 95, 3) := by decide +kernel
theorem dX10_bargain_84 : decode cX10_bargain 84 = .ok (.aload_n 0, 1) := by decide +kernel
theorem dX10_bargain_85 : decode cX10_bargain 85 = .ok (.getfield 101, 3) := by decide +kernel
theorem dX10_bargain_88 : decode cX10_bargain 88 = .ok (.ifCond .eq 11, 3) := by decide +kernel
theorem dX10_bargain_91 : decode cX10_bargain 91 = .ok (.bipush (-20), 2) := by decide +kernel
theorem dX10_bargain_93 : decode cX10_bargain 93 = .ok (.aload_n 0, 1) := by decide +kernel
theorem dX10_bargain_94 : decode cX10_bargain 94 = .ok (.getfield 98, 3) := by decide +kernel
theorem dX10_bargain_97 : decode cX10_bargain 97 = .ok (.isub, 1) := by decide +kernel
theorem dX10_bargain_98 : decode cX10_bargain 98 = .ok (.ireturn, 1) := by decide +kernel
theorem dX10_bargain_99 : decode cX10_bargain 99 = .ok (.iconst 0, 1) := by decide +kernel
theorem dX10_bargain_100 : decode cX10_bargain 100 = .ok (.istore 5, 2) := by decide +kernel
theorem dX10_bargain_102 : decode cX10_bargain 102 = .ok (.iload 5, 2) := by decide +kernel
theorem dX10_bargain_104 : decode cX10_bargain 104 = .ok (.bipush 24, 2) := by decide +kernel
theorem dX10_bargain_106 : decode cX10_bargain 106 = .ok (.if_icmp .ge 26, 3) := by decide +kernel
theorem dX10_bargain_109 : decode cX10_bargain 109 = .ok (.aload_n 0, 1) := by decide +kernel
theorem dX10_bargain_110 : decode cX10_bargain 110 = .ok (.getfield 7, 3) := by decide +kernel
theorem dX10_bargain_113 : decode cX10_bargain 113 = .ok (.bipush 13, 2) := by decide +kernel
theorem dX10_bargain_115 : decode cX10_bargain 115 = .ok (.iload 5, 2) := by decide +kernel
theorem dX10_bargain_117 : decode cX10_bargain 117 = .ok (.iadd, 1) := by decide +kernel
theorem dX10_bargain_118 : decode cX10_bargain 118 = .ok (.aload_n 0, 1) := by decide +kernel
theorem dX10_bargain_119 : decode cX10_bargain 119 = .ok (.getfield 20, 3) := by decide +kernel
theorem dX10_bargain_122 : decode cX10_bargain 122 = .ok (.iload 5, 2) := by decide +kernel
theorem dX10_bargain_124 : decode cX10_bargain 124 = .ok (.iaload, 1) := by decide +kernel
theorem dX10_bargain_125 : decode cX10_bargain 125 = .ok (.iastore, 1) := by decide +kernel
theorem dX10_bargain_126 : decode cX10_bargain 126 = .ok (.iinc 5 1, 3) := by decide +kernel
theorem dX10_bargain_129 : decode cX10_bargain 129 = .ok (.goto (-27), 3) := by decide +kernel
theorem dX10_bargain_132 : decode cX10_bargain 132 = .ok (.aload_n 0, 1) := by decide +kernel
theorem dX10_bargain_133 : decode cX10_bargain 133 = .ok (.getfield 7, 3) := by decide +kernel
theorem dX10_bargain_136 : decode cX10_bargain 136 = .ok (.iconst 0, 1) := by decide +kernel
theorem dX10_bargain_137 : decode cX10_bargain 137 = .ok (.iload_n 3, 1) := by decide +kernel
theorem dX10_bargain_138 : decode cX10_bargain 138 = .ok (.iastore, 1) := by decide +kernel
theorem dX10_bargain_139 : decode cX10_bargain 139 = .ok (.aload_n 0, 1) := by decide +kernel
theorem dX10_bargain_140 : decode cX10_bargain 140 = .ok (.getfield 7, 3) := by decide +kernel
theorem dX10_bargain_143 : decode cX10_bargain 143 = .ok (.iconst 1, 1) := by decide +kernel
theorem dX10_bargain_144 : decode cX10_bargain 144 = .ok (.iload 4, 2) := by decide +kernel
theorem dX10_bargain_146 : decode cX10_bargain 146 = .ok (.iastore, 1) := by decide +kernel
theorem dX10_bargain_147 : decode cX10_bargain 147 = .ok (.aload_n 0, 1) := by decide +kernel
theorem dX10_bargain_148 : decode cX10_bargain 148 = .ok (.getfield 7, 3) := by decide +kernel
theorem dX10_bargain_151 : decode cX10_bargain 151 = .ok (.iconst 2, 1) := by decide +kernel
theorem dX10_bargain_152 : decode cX10_bargain 152 = .ok (.iload_n 1, 1) := by decide +kernel
theorem dX10_bargain_153 : decode cX10_bargain 153 = .ok (.iastore, 1) := by decide +kernel
theorem dX10_bargain_154 : decode cX10_bargain 154 = .ok (.aload_n 0, 1) := by decide +kernel
theorem dX10_bargain_155 : decode cX10_bargain 155 = .ok (.getfield 7, 3) := by decide +kernel
theorem dX10_bargain_158 : decode cX10_bargain 158 = .ok (.iconst 3, 1) := by decide +kernel
theorem dX10_bargain_159 : decode cX10_bargain 159 = .ok (.iload_n 2, 1) := by decide +kernel
theorem dX10_bargain_160 : decode cX10_bargain 160 = .ok (.iastore, 1) := by decide +kernel
theorem dX10_bargain_161 : decode cX10_bargain 161 = .ok (.bipush 6, 2) := by decide +kernel
theorem dX10_bargain_163 : decode cX10_bargain 163 = .ok (.istore 5, 2) := by decide +kernel
theorem dX10_bargain_165 : decode cX10_bargain 165 = .ok (.iload 5, 2) := by decide +kernel
theorem dX10_bargain_167 : decode cX10_bargain 167 = .ok (.bipush 10, 2) := by decide +kernel
theorem dX10_bargain_169 : decode cX10_bargain 169 = .ok (.if_icmp .gt 17, 3) := by decide +kernel
theorem dX10_bargain_172 : decode cX10_bargain 172 = .ok (.aload_n 0, 1) := by decide +kernel
theorem dX10_bargain_173 : decode cX10_bargain 173 = .ok (.getfield 7, 3) := by decide +kernel
theorem dX10_bargain_176 : decode cX10_bargain 176 = .ok (.iload 5, 2) := by decide +kernel
theorem dX10_bargain_178 : decode cX10_bargain 178 = .ok (.iconst 0, 1) := by decide +kernel
theorem dX10_bargain_179 : decode cX10_bargain 179 = .ok (.iastore, 1) := by decide +kernel
theorem dX10_bargain_180 : decode cX10_bargain 180 = .ok (.iinc 5 1, 3) := by decide +kernel
theorem dX10_bargain_183 : decode cX10_bargain 183 = .ok (.goto (-18), 3) := by decide +kernel
theorem dX10_bargain_186 : decode cX10_bargain 186 = .ok (.aload_n 0, 1) := by decide +kernel
theorem dX10_bargain_187 : decode cX10_bargain 187 = .ok (.iconst 0, 1) := by decide +kernel
theorem dX10_bargain_188 : decode cX10_bargain 188 = .ok (.putfield 72, 3) := by decide +kernel
theorem dX10_bargain_191 : decode cX10_bargain 191 = .ok (.iload_n 3, 1) := by decide +kernel
theorem dX10_bargain_192 : decode cX10_bargain 192 = .ok (.ireturn, 1) := by decide +kernel
theorem dX10_notes_0 : decode cX10_notes 0 = .ok (.aload_n 0, 1) := by decide +kernel
theorem dX10_notes_1 : decode cX10_notes 1 = .ok (.getfield 72, 3) := by decide +kernel
theorem dX10_notes_4 : decode cX10_notes 4 = .ok (.bipush 8, 2) := by decide +kernel
theorem dX10_notes_6 : decode cX10_notes 6 = .ok (.if_icmp .ne 39, 3) := by decide +kernel
theorem dX10_notes_9 : decode cX10_notes 9 = .ok (.bipush 6, 2) := by decide +kernel
theorem dX10_notes_11 : decode cX10_notes 11 = .ok (.istore_n 1, 1) := by decide +kernel
theorem dX10_notes_12 : decode cX10_notes 12 = .ok (.iload_n 1, 1) := by decide +kernel
theorem dX10_notes_13 : decode cX10_notes 13 = .ok (.bipush 48, 2) := by decide +kernel
theorem dX10_notes_15 : decode cX10_notes 15 = .ok (.if_icmp .ge 24, 3) := by decide +kernel
theorem dX10_notes_18 : decode cX10_notes 18 = .ok (.aload_n 0, 1) := by decide +kernel
theorem dX10_notes_19 : decode cX10_notes 19 = .ok (.getfield 23, 3) := by decide +kernel
theorem dX10_notes_22 : decode cX10_notes 22 = .ok (.iload_n 1, 1) := by decide +kernel
theorem dX10_notes_23 : decode cX10_notes 23 = .ok (.bipush 6, 2) := by decide +kernel
theorem dX10_notes_25 : decode cX10_notes 25 = .ok (.isub, 1) := by decide +kernel
theorem dX10_notes_26 : decode cX10_notes 26 = .ok (.aload_n 0, 1) := by decide +kernel
theorem dX10_notes_27 : decode cX10_notes 27 = .ok (.getfield 23, 3) := by decide +kernel
theorem dX10_notes_30 : decode cX10_notes 30 = .ok (.iload_n 1, 1) := by decide +kernel
theorem dX10_notes_31 : decode cX10_notes 31 = .ok (.iaload, 1) := by decide +kernel
theorem dX10_notes_32 : decode cX10_notes 32 = .ok (.iastore, 1) := by decide +kernel
theorem dX10_notes_33 : decode cX10_notes 33 = .ok (.iinc 1 1, 3) := by decide +kernel
theorem dX10_notes_36 : decode cX10_notes 36 = .ok (.goto (-24), 3) := by decide +kernel
theorem dX10_notes_39 : decode cX10_notes 39 = .ok (.aload_n 0, 1) := by decide +kernel
theorem dX10_notes_40 : decode cX10_notes 40 = .ok (.bipush 7, 2) := by decide +kernel
theorem dX10_notes_42 : decode cX10_notes 42 = .ok (.putfield 72, 3) := by decide +kernel
theorem dX10_notes_45 : decode cX10_notes 45 = .ok (.iconst 0, 1) := by decide +kernel
theorem dX10_notes_46 : decode cX10_notes 46 = .ok (.istore_n 1, 1) := by decide +kernel
theorem dX10_notes_47 : decode cX10_notes 47 = .ok (.iload_n 1, 1) := by decide +kernel
theorem dX10_notes_48 : decode cX10_notes 48 = .ok (.iconst 5, 1) := by decide +kernel
theorem dX10_notes_49 : decode cX10_notes 49 = .ok (.if_icmp .ge 32, 3) := by decide +kernel
theorem dX10_notes_52 : decode cX10_notes 52 = .ok (.aload_n 0, 1) := by decide +kernel
theorem dX10_notes_53 : decode cX10_notes 53 = .ok (.getfield 23, 3) := by decide +kernel
theorem dX10_notes_56 : decode cX10_notes 56 = .ok (.bipush 6, 2) := by decide +kernel
theorem dX10_notes_58 : decode cX10_notes 58 = .ok (.aload_n 0, 1) := by decide +kernel
theorem dX10_notes_59 : decode cX10_notes 59 = .ok (.getfield 72, 3) := by decide +kernel
theorem dX10_notes_62 : decode cX10_notes 62 = .ok (.imul, 1) := by decide +kernel
theorem dX10_notes_63 : decode cX10_notes 63 = .ok (.iload_n 1, 1) := by decide +kernel
theorem dX10_notes_64 : decode cX10_notes 64 = .ok (.iadd, 1) := by decide +kernel
theorem dX10_notes_65 : decode cX10_notes 65 = .ok (.aload_n 0, 1) := by decide +kernel
theorem dX10_notes_66 : decode cX10_notes 66 = .ok (.getfield 7, 3) := by decide +kernel
theorem dX10_notes_69 : decode cX10_notes 69 = .ok (.bipush 6, 2) := by decide +kernel
theorem dX10_notes_71 : decode cX10_notes 71 = .ok (.iload_n 1, 1) := by decide +kernel
theorem dX10_notes_72 : decode cX10_notes 72 = .ok (.iadd, 1) := by decide +kernel
theorem dX10_notes_73 : decode cX10_notes 73 = .ok (.iaload, 1) := by decide +kernel
theorem dX10_notes_74 : decode cX10_notes 74 = .ok (.iastore, 1) := by decide +kernel
theorem dX10_notes_75 : decode cX10_notes 75 = .ok (.iinc 1 1, 3) := by decide +kernel
theorem dX10_notes_78 : decode cX10_notes 78 = .ok (.goto (-31), 3) := by decide +kernel
theorem dX10_notes_81 : decode cX10_notes 81 = .ok (.aload_n 0, 1) := by decide +kernel
theorem dX10_notes_82 : decode cX10_notes 82 = .ok (.getfield 23, 3) := by decide +kernel
theorem dX10_notes_85 : decode cX10_notes 85 = .ok (.bipush 6, 2) := by decide +kernel
theorem dX10_notes_87 : decode cX10_notes 87 = .ok (.aload_n 0, 1) := by decide +kernel
theorem dX10_notes_88 : decode cX10_notes 88 = .ok (.getfield 72, 3) := by decide +kernel
theorem dX10_notes_91 : decode cX10_notes 91 = .ok (.imul, 1) := by decide +kernel
theorem dX10_notes_92 : decode cX10_notes 92 = .ok (.iconst 5, 1) := by decide +kernel
theorem dX10_notes_93 : decode cX10_notes 93 = .ok (.iadd, 1) := by decide +kernel
theorem dX10_notes_94 : decode cX10_notes 94 = .ok (.aload_n 0, 1) := by decide +kernel
theorem dX10_notes_95 : decode cX10_notes 95 = .ok (.getfield 7, 3) := by decide +kernel
theorem dX10_notes_98 : decode cX10_notes 98 = .ok (.bipush 12, 2) := by decide +kernel
theorem dX10_notes_100 : decode cX10_notes 100 = .ok (.iaload, 1) := by decide +kernel
theorem dX10_notes_101 : decode cX10_notes 101 = .ok (.iastore, 1) := by decide +kernel
theorem dX10_notes_102 : decode cX10_notes 102 = .ok (.aload_n 0, 1) := by decide +kernel
theorem dX10_notes_103 : decode cX10_notes 103 = .ok (.dup, 1) := by decide +kernel
theorem dX10_notes_104 : decode cX10_notes 104 = .ok (.getfield 72, 3) := by decide +kernel
theorem dX10_notes_107 : decode cX10_notes 107 = .ok (.iconst 1, 1) := by decide +kernel
theorem dX10_notes_108 : decode cX10_notes 108 = .ok (.iadd, 1) := by decide +kernel
theorem dX10_notes_109 : decode cX10_notes 109 = .ok (.putfield 72, 3) := by decide +kernel
theorem dX10_notes_112 : decode cX10_notes 112 = .ok (.return_, 1) := by decide +kernel
theorem dX10_isSummer_0 : decode cX10_isSummer 0 = .ok (.aload_n 0, 1) := by decide +kernel
theorem dX10_isSummer_1 : decode cX10_isSummer 1 = .ok (.getfield 7, 3) := by decide +kernel
theorem dX10_isSummer_4 : decode cX10_isSummer 4 = .ok (.bipush 6, 2) := by decide +kernel
theorem dX10_isSummer_6 : decode cX10_isSummer 6 = .ok (.iaload, 1) := by decide +kernel
theorem dX10_isSummer_7 : decode cX10_isSummer 7 = .ok (.aload_n 0, 1) := by decide +kernel
theorem dX10_isSummer_8 : decode cX10_isSummer 8 = .ok (.getfield 7, 3) := by decide +kernel
theorem dX10_isSummer_11 : decode cX10_isSummer 11 = .ok (.iconst 3, 1) := by decide +kernel
theorem dX10_isSummer_12 : decode cX10_isSummer 12 = .ok (.iaload, 1) := by decide +kernel
theorem dX10_isSummer_13 : decode cX10_isSummer 13 = .ok (.if_icmp .ne 7, 3) := by decide +kernel
theorem dX10_isSummer_16 : decode cX10_isSummer 16 = .ok (.iconst 1, 1) := by decide +kernel
theorem dX10_isSummer_17 : decode cX10_isSummer 17 = .ok (.goto 4, 3) := by decide +kernel
theorem dX10_isSummer_20 : decode cX10_isSummer 20 = .ok (.iconst 0, 1) := by decide +kernel
theorem dX10_isSummer_21 : decode cX10_isSummer 21 = .ok (.ireturn, 1) := by decide +kernel
theorem dX10_goesBy_0 : decode cX10_goesBy 0 = .ok (.aload_n 0, 1) := by decide +kernel
theorem dX10_goesBy_1 : decode cX10_goesBy 1 = .ok (.getfield 7, 3) := by decide +kernel
theorem dX10_goesBy_4 : decode cX10_goesBy 4 = .ok (.bipush 7, 2) := by decide +kernel
theorem dX10_goesBy_6 : decode cX10_goesBy 6 = .ok (.iaload, 1) := by decide +kernel
theorem dX10_goesBy_7 : decode cX10_goesBy 7 = .ok (.istore_n 2, 1) := by decide +kernel
theorem dX10_goesBy_8 : decode cX10_goesBy 8 = .ok (.aload_n 0, 1) := by decide +kernel
theorem dX10_goesBy_9 : decode cX10_goesBy 9 = .ok (.getfield 7, 3) := by decide +kernel
theorem dX10_goesBy_12 : decode cX10_goesBy 12 = .ok (.bipush 7, 2) := by decide +kernel
theorem dX10_goesBy_14 : decode cX10_goesBy 14 = .ok (.aload_n 0, 1) := by decide +kernel
theorem dX10_goesBy_15 : decode cX10_goesBy 15 = .ok (.iload_n 1, 1) := by decide +kernel
theorem dX10_goesBy_16 : decode cX10_goesBy 16 = .ok (.iload_n 2, 1) := by decide +kernel
theorem dX10_goesBy_17 : decode cX10_goesBy 17 = .ok (.aload_n 0, 1) := by decide +kernel
theorem dX10_goesBy_18 : decode cX10_goesBy 18 = .ok (.getfield 7, 3) := by decide +kernel
theorem dX10_goesBy_21 : decode cX10_goesBy 21 = .ok (.bipush 9, 2) := by decide +kernel
theorem dX10_goesBy_23 : decode cX10_goesBy 23 = .ok (.iaload, 1) := by decide +kernel
theorem dX10_goesBy_24 : decode cX10_goesBy 24 = .ok (.invokevirtual 137, 3) := by decide +kernel
theorem dX10_goesBy_27 : decode cX10_goesBy 27 = .ok (.iastore, 1) := by decide +kernel
theorem dX10_goesBy_28 : decode cX10_goesBy 28 = .ok (.aload_n 0, 1) := by decide +kernel
theorem dX10_goesBy_29 : decode cX10_goesBy 29 = .ok (.getfield 7, 3) := by decide +kernel
theorem dX10_goesBy_32 : decode cX10_goesBy 32 = .ok (.bipush 9, 2) := by decide +kernel
theorem dX10_goesBy_34 : decode cX10_goesBy 34 = .ok (.iconst 0, 1) := by decide +kernel
theorem dX10_goesBy_35 : decode cX10_goesBy 35 = .ok (.iastore, 1) := by decide +kernel
theorem dX10_goesBy_36 : decode cX10_goesBy 36 = .ok (.aload_n 0, 1) := by decide +kernel
theorem dX10_goesBy_37 : decode cX10_goesBy 37 = .ok (.getfield 7, 3) := by decide +kernel
theorem dX10_goesBy_40 : decode cX10_goesBy 40 = .ok (.bipush 6, 2) := by decide +kernel
theorem dX10_goesBy_42 : decode cX10_goesBy 42 = .ok (.dup2, 1) := by decide +kernel
theorem dX10_goesBy_43 : decode cX10_goesBy 43 = .ok (.iaload, 1) := by decide +kernel
theorem dX10_goesBy_44 : decode cX10_goesBy 44 = .ok (.iconst 1, 1) := by decide +kernel
theorem dX10_goesBy_45 : decode cX10_goesBy 45 = .ok (.iadd, 1) := by decide +kernel
theorem dX10_goesBy_46 : decode cX10_goesBy 46 = .ok (.iastore, 1) := by decide +kernel
theorem dX10_goesBy_47 : decode cX10_goesBy 47 = .ok (.aload_n 0, 1) := by decide +kernel
theorem dX10_goesBy_48 : decode cX10_goesBy 48 = .ok (.getfield 7, 3) := by decide +kernel
theorem dX10_goesBy_51 : decode cX10_goesBy 51 = .ok (.bipush 7, 2) := by decide +kernel
theorem dX10_goesBy_53 : decode cX10_goesBy 53 = .ok (.iaload, 1) := by decide +kernel
theorem dX10_goesBy_54 : decode cX10_goesBy 54 = .ok (.iload_n 2, 1) := by decide +kernel
theorem dX10_goesBy_55 : decode cX10_goesBy 55 = .ok (.isub, 1) := by decide +kernel
theorem dX10_goesBy_56 : decode cX10_goesBy 56 = .ok (.ireturn, 1) := by decide +kernel
theorem dX10_day_0 : decode cX10_day 0 = .ok (.iload_n 1, 1) := by decide +kernel
theorem dX10_day_1 : decode cX10_day 1 = .ok (.invokestatic 140, 3) := by decide +kernel
theorem dX10_day_4 : decode cX10_day 4 = .ok (.ifCond .ne 5, 3) := by decide +kernel
theorem dX10_day_7 : decode cX10_day 7 = .ok (.iconst (-1), 1) := by decide +kernel
theorem dX10_day_8 : decode cX10_day 8 = .ok (.ireturn, 1) := by decide +kernel
theorem dX10_day_9 : decode cX10_day 9 = .ok (.aload_n 0, 1) := by decide +kernel
theorem dX10_day_10 : decode cX10_day 10 = .ok (.invokevirtual 143, 3) := by decide +kernel
theorem dX10_day_13 : decode cX10_day 13 = .ok (.ifCond .eq 6, 3) := by decide +kernel
theorem dX10_day_16 : decode cX10_day 16 = .ok (.bipush (-3), 2) := by decide +kernel
theorem dX10_day_18 : decode cX10_day 18 = .ok (.ireturn, 1) := by decide +kernel
theorem dX10_day_19 : decode cX10_day 19 = .ok (.aload_n 0, 1) := by decide +kernel
theorem dX10_day_20 : decode cX10_day 20 = .ok (.invokevirtual 147, 3) := by decide +kernel
theorem dX10_day_23 : decode cX10_day 23 = .ok (.aload_n 0, 1) := by decide +kernel
theorem dX10_day_24 : decode cX10_day 24 = .ok (.iload_n 1, 1) := by decide +kernel
theorem dX10_day_25 : decode cX10_day 25 = .ok (.invokevirtual 150, 3) := by decide +kernel
theorem dX10_day_28 : decode cX10_day 28 = .ok (.ireturn, 1) := by decide +kernel
theorem dX10_costOf_0 : decode cX10_costOf 0 = .ok (.aload_n 0, 1) := by decide +kernel
theorem dX10_costOf_1 : decode cX10_costOf 1 = .ok (.getfield 7, 3) := by decide +kernel
theorem dX10_costOf_4 : decode cX10_costOf 4 = .ok (.bipush 25, 2) := by decide +kernel
theorem dX10_costOf_6 : decode cX10_costOf 6 = .ok (.iconst 2, 1) := by decide +kernel
theorem dX10_costOf_7 : decode cX10_costOf 7 = .ok (.iload_n 1, 1) := by decide +kernel
theorem dX10_costOf_8 : decode cX10_costOf 8 = .ok (.imul, 1) := by decide +kernel
theorem dX10_costOf_9 : decode cX10_costOf 9 = .ok (.iadd, 1) := by decide +kernel
theorem dX10_costOf_10 : decode cX10_costOf 10 = .ok (.iaload, 1) := by decide +kernel
theorem dX10_costOf_11 : decode cX10_costOf 11 = .ok (.ireturn, 1) := by decide +kernel
theorem dX10_oathOf_0 : decode cX10_oathOf 0 = .ok (.aload_n 0, 1) := by decide +kernel
theorem dX10_oathOf_1 : decode cX10_oathOf 1 = .ok (.getfield 7, 3) := by decide +kernel
theorem dX10_oathOf_4 : decode cX10_oathOf 4 = .ok (.bipush 25, 2) := by decide +kernel
theorem dX10_oathOf_6 : decode cX10_oathOf 6 = .ok (.iconst 2, 1) := by decide +kernel
theorem dX10_oathOf_7 : decode cX10_oathOf 7 = .ok (.iload_n 1, 1) := by decide +kernel
theorem dX10_oathOf_8 : decode cX10_oathOf 8 = .ok (.imul, 1) := by decide +kernel
theorem dX10_oathOf_9 : decode cX10_oathOf 9 = .ok (.iadd, 1) := by decide +kernel
theorem dX10_oathOf_10 : decode cX10_oathOf 10 = .ok (.iconst 1, 1) := by decide +kernel
theorem dX10_oathOf_11 : decode cX10_oathOf 11 = .ok (.iadd, 1) := by decide +kernel
theorem dX10_oathOf_12 : decode cX10_oathOf 12 = .ok (.iaload, 1) := by decide +kernel
theorem dX10_oathOf_13 : decode cX10_oathOf 13 = .ok (.ireturn, 1) := by decide +kernel
theorem dX10_breaks_0 : decode cX10_breaks 0 = .ok (.aload_n 0, 1) := by decide +kernel
theorem dX10_breaks_1 : decode cX10_breaks 1 = .ok (.iload_n 1, 1) := by decide +kernel
theorem dX10_breaks_2 : decode cX10_breaks 2 = .ok (.invokevirtual 154, 3) := by decide +kernel
theorem dX10_breaks_5 : decode cX10_breaks 5 = .ok (.bipush (-4), 2) := by decide +kernel
theorem dX10_breaks_7 : decode cX10_breaks 7 = .ok (.if_icmp .eq 26, 3) := by decide +kernel
theorem dX10_breaks_10 : decode cX10_breaks 10 = .ok (.aload_n 0, 1) := by decide +kernel
theorem dX10_breaks_11 : decode cX10_breaks 11 = .ok (.getfield 7, 3) := by decide +kernel
theorem dX10_breaks_14 : decode cX10_breaks 14 = .ok (.bipush 11, 2) := by decide +kernel
theorem dX10_breaks_16 : decode cX10_breaks 16 = .ok (.iaload, 1) := by decide +kernel
theorem dX10_breaks_17 : decode cX10_breaks 17 = .ok (.aload_n 0, 1) := by decide +kernel
theorem dX10_breaks_18 : decode cX10_breaks 18 = .ok (.iload_n 1, 1) := by decide +kernel
theorem dX10_breaks_19 : decode cX10_breaks 19 = .ok (.invokevirtual 154, 3) := by decide +kernel
theorem dX10_breaks_22 : decode cX10_breaks 22 = .ok (.ishr, 1) := by decide +kernel
theorem dX10_breaks_23 : decode cX10_breaks 23 = .ok (.iconst 1, 1) := by decide +kernel
theorem dX10_breaks_24 : decode cX10_breaks 24 = .ok (.iand, 1) := by decide +kernel
theorem dX10_breaks_25 : decode cX10_breaks 25 = .ok (.iconst 1, 1) := by decide +kernel
theorem dX10_breaks_26 : decode cX10_breaks 26 = .ok (.if_icmp .ne 7, 3) := by decide +kernel
theorem dX10_breaks_29 : decode cX10_breaks 29 = .ok (.iconst 1, 1) := by decide +kernel
theorem dX10_breaks_30 : decode cX10_breaks 30 = .ok (.goto 4, 3) := by decide +kernel
theorem dX10_breaks_33 : decode cX10_breaks 33 = .ok (.iconst 0, 1) := by decide +kernel
theorem dX10_breaks_34 : decode cX10_breaks 34 = .ok (.ireturn, 1) := by decide +kernel
theorem dX10_isUsed_0 : decode cX10_isUsed 0 = .ok (.aload_n 0, 1) := by decide +kernel
theorem dX10_isUsed_1 : decode cX10_isUsed 1 = .ok (.getfield 7, 3) := by decide +kernel
theorem dX10_isUsed_4 : decode cX10_isUsed 4 = .ok (.bipush 8, 2) := by decide +kernel
theorem dX10_isUsed_6 : decode cX10_isUsed 6 = .ok (.iaload, 1) := by decide +kernel
theorem dX10_isUsed_7 : decode cX10_isUsed 7 = .ok (.iload_n 1, 1) := by decide +kernel
theorem dX10_isUsed_8 : decode cX10_isUsed 8 = .ok (.ishr, 1) := by decide +kernel
theorem dX10_isUsed_9 : decode cX10_isUsed 9 = .ok (.iconst 1, 1) := by decide +kernel
theorem dX10_isUsed_10 : decode cX10_isUsed 10 = .ok (.iand, 1) := by decide +kernel
theorem dX10_isUsed_11 : decode cX10_isUsed 11 = .ok (.iconst 1, 1) := by decide +kernel
theorem dX10_isUsed_12 : decode cX10_isUsed 12 = .ok (.if_icmp .ne 7, 3) := by decide +kernel
theorem dX10_isUsed_15 : decode cX10_isUsed 15 = .ok (.iconst 1, 1) := by decide +kernel
theorem dX10_isUsed_16 : decode cX10_isUsed 16 = .ok (.goto 4, 3) := by decide +kernel
theorem dX10_isUsed_19 : decode cX10_isUsed 19 = .ok (.iconst 0, 1) := by decide +kernel
theorem dX10_isUsed_20 : decode cX10_isUsed 20 = .ok (.ireturn, 1) := by decide +kernel
theorem dX10_use_0 : decode cX10_use 0 = .ok (.aload_n 0, 1) := by decide +kernel
theorem dX10_use_1 : decode cX10_use 1 = .ok (.iload_n 1, 1) := by decide +kernel
theorem dX10_use_2 : decode cX10_use 2 = .ok (.invokevirtual 157, 3) := by decide +kernel
theorem dX10_use_5 : decode cX10_use 5 = .ok (.ifCond .ne 5, 3) := by decide +kernel
theorem dX10_use_8 : decode cX10_use 8 = .ok (.iconst (-1), 1) := by decide +kernel
theorem dX10_use_9 : decode cX10_use 9 = .ok (.ireturn, 1) := by decide +kernel
theorem dX10_use_10 : decode cX10_use 10 = .ok (.aload_n 0, 1) := by decide +kernel
theorem dX10_use_11 : decode cX10_use 11 = .ok (.iload_n 1, 1) := by decide +kernel
theorem dX10_use_12 : decode cX10_use 12 = .ok (.invokevirtual 160, 3) := by decide +kernel
theorem dX10_use_15 : decode cX10_use 15 = .ok (.ifCond .eq 6, 3) := by decide +kernel
theorem dX10_use_18 : decode cX10_use 18 = .ok (.bipush (-2), 2) := by decide +kernel
theorem dX10_use_20 : decode cX10_use 20 = .ok (.ireturn, 1) := by decide +kernel
theorem dX10_use_21 : decode cX10_use 21 = .ok (.aload_n 0, 1) := by decide +kernel
theorem dX10_use_22 : decode cX10_use 22 = .ok (.invokevirtual 143, 3) := by decide +kernel
theorem dX10_use_25 : decode cX10_use 25 = .ok (.ifCond .eq 6, 3) := by decide +kernel
theorem dX10_use_28 : decode cX10_use 28 = .ok (.bipush (-3), 2) := by decide +kernel
theorem dX10_use_30 : decode cX10_use 30 = .ok (.ireturn, 1) := by decide +kernel
theorem dX10_use_31 : decode cX10_use 31 = .ok (.aload_n 0, 1) := by decide +kernel
theorem dX10_use_32 : decode cX10_use 32 = .ok (.invokevirtual 147, 3) := by decide +kernel
theorem dX10_use_35 : decode cX10_use 35 = .ok (.aload_n 0, 1) := by decide +kernel
theorem dX10_use_36 : decode cX10_use 36 = .ok (.getfield 7, 3) := by decide +kernel
theorem dX10_use_39 : decode cX10_use 39 = .ok (.bipush 8, 2) := by decide +kernel
theorem dX10_use_41 : decode cX10_use 41 = .ok (.dup2, 1) := by decide +kernel
theorem dX10_use_42 : decode cX10_use 42 = .ok (.iaload, 1) := by decide +kernel
theorem dX10_use_43 : decode cX10_use 43 = .ok (.iconst 1, 1) := by decide +kernel
theorem dX10_use_44 : decode cX10_use 44 = .ok (.iload_n 1, 1) := by decide +kernel
theorem dX10_use_45 : decode cX10_use 45 = .ok (.ishl, 1) := by decide +kernel
theorem dX10_use_46 : decode cX10_use 46 = .ok (.ior, 1) := by decide +kernel
theorem dX10_use_47 : decode cX10_use 47 = .ok (.iastore, 1) := by decide +kernel
theorem dX10_use_48 : decode cX10_use 48 = .ok (.aload_n 0, 1) := by decide +kernel
theorem dX10_use_49 : decode cX10_use 49 = .ok (.getfield 7, 3) := by decide +kernel
theorem dX10_use_52 : decode cX10_use 52 = .ok (.bipush 9, 2) := by decide +kernel
theorem dX10_use_54 : decode cX10_use 54 = .ok (.dup2, 1) := by decide +kernel
theorem dX10_use_55 : decode cX10_use 55 = .ok (.iaload, 1) := by decide +kernel
theorem dX10_use_56 : decode cX10_use 56 = .ok (.aload_n 0, 1) := by decide +kernel
theorem dX10_use_57 : decode cX10_use 57 = .ok (.iload_n 1, 1) := by decide +kernel
theorem dX10_use_58 : decode cX10_use 58 = .ok (.invokevirtual 163, 3) := by decide +kernel
theorem dX10_use_61 : decode cX10_use 61 = .ok (.iadd, 1) := by decide +kernel
theorem dX10_use_62 : decode cX10_use 62 = .ok (.iastore, 1) := by decide +kernel
theorem dX10_use_63 : decode cX10_use 63 = .ok (.aload_n 0, 1) := by decide +kernel
theorem dX10_use_64 : decode cX10_use 64 = .ok (.getfield 7, 3) := by decide +kernel
theorem dX10_use_67 : decode cX10_use 67 = .ok (.bipush 10, 2) := by decide +kernel
theorem dX10_use_69 : decode cX10_use 69 = .ok (.dup2, 1) := by decide +kernel
theorem dX10_use_70 : decode cX10_use 70 = .ok (.iaload, 1) := by decide +kernel
theorem dX10_use_71 : decode cX10_use 71 = .ok (.aload_n 0, 1) := by decide +kernel
theorem dX10_use_72 : decode cX10_use 72 = .ok (.iload_n 1, 1) := by decide +kernel
theorem dX10_use_73 : decode cX10_use 73 = .ok (.invokevirtual 166, 3) := by decide +kernel
theorem dX10_use_76 : decode cX10_use 76 = .ok (.ifCond .eq 13, 3) := by decide +kernel
theorem dX10_use_79 : decode cX10_use 79 = .ok (.iconst 1, 1) := by decide +kernel
theorem dX10_use_80 : decode cX10_use 80 = .ok (.aload_n 0, 1) := by decide +kernel
theorem dX10_use_81 : decode cX10_use 81 = .ok (.iload_n 1, 1) := by decide +kernel
theorem dX10_use_82 : decode cX10_use 82 = .ok (.invokevirtual 154, 3) := by decide +kernel
theorem dX10_use_85 : decode cX10_use 85 = .ok (.ishl, 1) := by decide +kernel
theorem dX10_use_86 : decode cX10_use 86 = .ok (.goto 4, 3) := by decide +kernel
theorem dX10_use_89 : decode cX10_use 89 = .ok (.iconst 0, 1) := by decide +kernel
theorem dX10_use_90 : decode cX10_use 90 = .ok (.ior, 1) := by decide +kernel
theorem dX10_use_91 : decode cX10_use 91 = .ok (.iastore, 1) := by decide +kernel
theorem dX10_use_92 : decode cX10_use 92 = .ok (.aload_n 0, 1) := by decide +kernel
theorem dX10_use_93 : decode cX10_use 93 = .ok (.getfield 7, 3) := by decide +kernel
theorem dX10_use_96 : decode cX10_use 96 = .ok (.bipush 9, 2) := by decide +kernel
theorem dX10_use_98 : decode cX10_use 98 = .ok (.iaload, 1) := by decide +kernel
theorem dX10_use_99 : decode cX10_use 99 = .ok (.ireturn, 1) := by decide +kernel
theorem dX10_drift_0 : decode cX10_drift 0 = .ok (.iload_n 1, 1) := by decide +kernel
theorem dX10_drift_1 : decode cX10_drift 1 = .ok (.i2l, 1) := by decide +kernel
theorem dX10_drift_2 : decode cX10_drift 2 = .ok (.lconst 1, 1) := by decide +kernel
theorem dX10_drift_3 : decode cX10_drift 3 = .ok (.ldc2_w 83, 3) := by decide +kernel
theorem dX10_drift_6 : decode cX10_drift 6 = .ok (.invokestatic 51, 3) := by decide +kernel
theorem dX10_drift_9 : decode cX10_drift 9 = .ok (.ifCond .ne 5, 3) := by decide +kernel
theorem dX10_drift_12 : decode cX10_drift 12 = .ok (.iconst (-1), 1) := by decide +kernel
theorem dX10_drift_13 : decode cX10_drift 13 = .ok (.ireturn, 1) := by decide +kernel
theorem dX10_drift_14 : decode cX10_drift 14 = .ok (.aload_n 0, 1) := by decide +kernel
theorem dX10_drift_15 : decode cX10_drift 15 = .ok (.invokevirtual 143, 3) := by decide +kernel
theorem dX10_drift_18 : decode cX10_drift 18 = .ok (.ifCond .eq 6, 3) := by decide +kernel
theorem dX10_drift_21 : decode cX10_drift 21 = .ok (.bipush (-3), 2) := by decide +kernel
theorem dX10_drift_23 : decode cX10_drift 23 = .ok (.ireturn, 1) := by decide +kernel
theorem dX10_drift_24 : decode cX10_drift 24 = .ok (.iconst 0, 1) := by decide +kernel
theorem dX10_drift_25 : decode cX10_drift 25 = .ok (.istore_n 2, 1) := by decide +kernel
theorem dX10_drift_26 : decode cX10_drift 26 = .ok (.iconst 0, 1) := by decide +kernel
theorem dX10_drift_27 : decode cX10_drift 27 = .ok (.istore_n 3, 1) := by decide +kernel
theorem dX10_drift_28 : decode cX10_drift 28 = .ok (.iload_n 3, 1) := by decide +kernel
theorem dX10_drift_29 : decode cX10_drift 29 = .ok (.iload_n 1, 1) := by decide +kernel
theorem dX10_drift_30 : decode cX10_drift 30 = .ok (.if_icmp .ge 108, 3) := by decide +kernel
theorem dX10_drift_33 : decode cX10_drift 33 = .ok (.aload_n 0, 1) := by decide +kernel
theorem dX10_drift_34 : decode cX10_drift 34 = .ok (.invokevirtual 143, 3) := by decide +kernel
theorem dX10_drift_37 : decode cX10_drift 37 = .ok (.ifCond .ne 101, 3) := by decide +kernel
theorem dX10_drift_40 : decode cX10_drift 40 = .ok (.aload_n 0, 1) := by decide +kernel
theorem dX10_drift_41 : decode cX10_drift 41 = .ok (.invokevirtual 147, 3) := by decide +kernel
theorem dX10_drift_44 : decode cX10_drift 44 = .ok (.aload_n 0, 1) := by decide +kernel
theorem dX10_drift_45 : decode cX10_drift 45 = .ok (.getfield 7, 3) := by decide +kernel
theorem dX10_drift_48 : decode cX10_drift 48 = .ok (.bipush 12, 2) := by decide +kernel
theorem dX10_drift_50 : decode cX10_drift 50 = .ok (.aload_n 0, 1) := by decide +kernel
theorem dX10_drift_51 : decode cX10_drift 51 = .ok (.getfield 7, 3) := by decide +kernel
theorem dX10_drift_54 : decode cX10_drift 54 = .ok (.bipush 12, 2) := by decide +kernel
theorem dX10_drift_56 : decode cX10_drift 56 = .ok (.iaload, 1) := by decide +kernel
theorem dX10_drift_57 : decode cX10_drift 57 = .ok (.i2l, 1) := by decide +kernel
theorem dX10_drift_58 : decode cX10_drift 58 = .ok (.ldc2_w 169, 3) := by decide +kernel
theorem dX10_drift_61 : decode cX10_drift 61 = .ok (.lmul, 1) := by decide +kernel
theorem dX10_drift_62 : decode cX10_drift 62 = .ok (.ldc2_w 171, 3) := by decide +kernel
theorem dX10_drift_65 : decode cX10_drift 65 = .ok (.ladd, 1) := by decide +kernel
theorem dX10_drift_66 : decode cX10_drift 66 = .ok (.ldc2_w 173, 3) := by decide +kernel
theorem dX10_drift_69 : decode cX10_drift 69 = .ok (.land, 1) := by decide +kernel
theorem dX10_drift_70 : decode cX10_drift 70 = .ok (.l2i, 1) := by decide +kernel
theorem dX10_drift_71 : decode cX10_drift 71 = .ok (.iastore, 1) := by decide +kernel
theorem dX10_drift_72 : decode cX10_drift 72 = .ok (.aload_n 0, 1) := by decide +kernel
theorem dX10_drift_73 : decode cX10_drift 73 = .ok (.getfield 7, 3) := by decide +kernel
theorem dX10_drift_76 : decode cX10_drift 76 = .ok (.bipush 12, 2) := by decide +kernel
theorem dX10_drift_78 : decode cX10_drift 78 = .ok (.iaload, 1) := by decide +kernel
theorem dX10_drift_79 : decode cX10_drift 79 = .ok (.ldc 175, 2) := by decide +kernel
theorem dX10_drift_81 : decode cX10_drift 81 = .ok (.idiv, 1) := by decide +kernel
theorem dX10_drift_82 : decode cX10_drift 82 = .ok (.bipush 10, 2) := by decide +kernel
theorem dX10_drift_84 : decode cX10_drift 84 = .ok (.irem, 1) := by decide +kernel
theorem dX10_drift_85 : decode cX10_drift 85 = .ok (.istore 4, 2) := by decide +kernel
theorem dX10_drift_87 : decode cX10_drift 87 = .ok (.iload_n 2, 1) := by decide +kernel
theorem dX10_drift_88 : decode cX10_drift 88 = .ok (.aload_n 0, 1) := by decide +kernel
theorem dX10_drift_89 : decode cX10_drift 89 = .ok (.iload 4, 2) := by decide +kernel
theorem dX10_drift_91 : decode cX10_drift 91 = .ok (.aload_n 0, 1) := by decide +kernel
theorem dX10_drift_92 : decode cX10_drift 92 = .ok (.getfield 7, 3) := by decide +kernel
theorem dX10_drift_95 : decode cX10_drift 95 = .ok (.iconst 4, 1) := by decide +kernel
theorem dX10_drift_96 : decode cX10_drift 96 = .ok (.iaload, 1) := by decide +kernel
theorem dX10_drift_97 : decode cX10_drift 97 = .ok (.if_icmp .ge 7, 3) := by decide +kernel
theorem dX10_drift_100 : decode cX10_drift 100 = .ok (.iconst 1, 1) := by decide +kernel
theorem dX10_drift_101 : decode cX10_drift 101 = .ok (.goto 26, 3) := by decide +kernel
theorem dX10_drift_104 : decode cX10_drift 104 = .ok (.iload 4, 2) := by decide +kernel
theorem dX10_drift_106 : decode cX10_drift 106 = .ok (.aload_n 0, 1) := by decide +kernel
theorem dX10_drift_107 : decode cX10_drift 107 = .ok (.getfield 7, 3) := by decide +kernel
theorem dX10_drift_110 : decode cX10_drift 110 = .ok (.iconst 4, 1) := by decide +kernel
theorem dX10_drift_111 : decode cX10_drift 111 = .ok (.iaload, 1) := by decide +kernel
theorem dX10_drift_112 : decode cX10_drift 112 = .ok (.aload_n 0, 1) := by decide +kernel
theorem dX10_drift_113 : decode cX10_drift 113 = .ok (.getfield 7, 3) := by decide +kernel
theorem dX10_drift_116 : decode cX10_drift 116 = .ok (.iconst 5, 1) := by decide +kernel
theorem dX10_drift_117 : decode cX10_drift 117 = .ok (.iaload, 1) := by decide +kernel
theorem dX10_drift_118 : decode cX10_drift 118 = .ok (.iadd, 1) := by decide +kernel
theorem dX10_drift_119 : decode cX10_drift 119 = .ok (.if_icmp .ge 7, 3) := by decide +kernel
theorem dX10_drift_122 : decode cX10_drift 122 = .ok (.iconst 2, 1) := by decide +kernel
theorem dX10_drift_123 : decode cX10_drift 123 = .ok (.goto 4, 3) := by decide +kernel
theorem dX10_drift_126 : decode cX10_drift 126 = .ok (.iconst 0, 1) := by decide +kernel
theorem dX10_drift_127 : decode cX10_drift 127 = .ok (.invokevirtual 150, 3) := by decide +kernel
theorem dX10_drift_130 : decode cX10_drift 130 = .ok (.iadd, 1) := by decide +kernel
theorem dX10_drift_131 : decode cX10_drift 131 = .ok (.istore_n 2, 1) := by decide +kernel
theorem dX10_drift_132 : decode cX10_drift 132 = .ok (.iinc 3 1, 3) := by decide +kernel
theorem dX10_drift_135 : decode cX10_drift 135 = .ok (.goto (-107), 3) := by decide +kernel
theorem dX10_drift_138 : decode cX10_drift 138 = .ok (.iload_n 2, 1) := by decide +kernel
theorem dX10_drift_139 : decode cX10_drift 139 = .ok (.ireturn, 1) := by decide +kernel
theorem dX10_undo_0 : decode cX10_undo 0 = .ok (.aload_n 0, 1) := by decide +kernel
theorem dX10_undo_1 : decode cX10_undo 1 = .ok (.getfield 72, 3) := by decide +kernel
theorem dX10_undo_4 : decode cX10_undo 4 = .ok (.ifCond .ne 6, 3) := by decide +kernel
theorem dX10_undo_7 : decode cX10_undo 7 = .ok (.bipush (-4), 2) := by decide +kernel
theorem dX10_undo_9 : decode cX10_undo 9 = .ok (.ireturn, 1) := by decide +kernel
theorem dX10_undo_10 : decode cX10_undo 10 = .ok (.aload_n 0, 1) := by decide +kernel
theorem dX10_undo_11 : decode cX10_undo 11 = .ok (.dup, 1) := by decide +kernel
theorem dX10_undo_12 : decode cX10_undo 12 = .ok (.getfield 72, 3) := by decide +kernel
theorem dX10_undo_15 : decode cX10_undo 15 = .ok (.iconst 1, 1) := by decide +kernel
theorem dX10_undo_16 : decode cX10_undo 16 = .ok (.isub, 1) := by decide +kernel
theorem dX10_undo_17 : decode cX10_undo 17 = .ok (.putfield 72, 3) := by decide +kernel
theorem dX10_undo_20 : decode cX10_undo 20 = .ok (.iconst 0, 1) := by decide +kernel
theorem dX10_undo_21 : decode cX10_undo 21 = .ok (.istore_n 1, 1) := by decide +kernel
theorem dX10_undo_22 : decode cX10_undo 22 = .ok (.iload_n 1, 1) := by decide +kernel
theorem dX10_undo_23 : decode cX10_undo 23 = .ok (.iconst 5, 1) := by decide +kernel
theorem dX10_undo_24 : decode cX10_undo 24 = .ok (.if_icmp .ge 32, 3) := by decide +kernel
theorem dX10_undo_27 : decode cX10_undo 27 = .ok (.aload_n 0, 1) := by decide +kernel
theorem dX10_undo_28 : decode cX10_undo 28 = .ok (.getfield 7, 3) := by decide +kernel
theorem dX10_undo_31 : decode cX10_undo 31 = .ok (.bipush 6, 2) := by decide +kernel
theorem dX10_undo_33 : decode cX10_undo 33 = .ok (.iload_n 1, 1) := by decide +kernel
theorem dX10_undo_34 : decode cX10_undo 34 = .ok (.iadd, 1) := by decide +kernel
theorem dX10_undo_35 : decode cX10_undo 35 = .ok (.aload_n 0, 1) := by decide +kernel
theorem dX10_undo_36 : decode cX10_undo 36 = .ok (.getfield 23, 3) := by decide +kernel
theorem dX10_undo_39 : decode cX10_undo 39 = .ok (.bipush 6, 2) := by decide +kernel
theorem dX10_undo_41 : decode cX10_undo 41 = .ok (.aload_n 0, 1) := by decide +kernel
theorem dX10_undo_42 : decode cX10_undo 42 = .ok (.getfield 72, 3) := by decide +kernel
theorem dX10_undo_45 : decode cX10_undo 45 = .ok (.imul, 1) := by decide +kernel
theorem dX10_undo_46 : decode cX10_undo 46 = .ok (.iload_n 1, 1) := by decide +kernel
theorem dX10_undo_47 : decode cX10_undo 47 = .ok (.iadd, 1) := by decide +kernel
theorem dX10_undo_48 : decode cX10_undo 48 = .ok (.iaload, 1) := by decide +kernel
theorem dX10_undo_49 : decode cX10_undo 49 = .ok (.iastore, 1) := by decide +kernel
theorem dX10_undo_50 : decode cX10_undo 50 = .ok (.iinc 1 1, 3) := by decide +kernel
theorem dX10_undo_53 : decode cX10_undo 53 = .ok (.goto (-31), 3) := by decide +kernel
theorem dX10_undo_56 : decode cX10_undo 56 = .ok (.aload_n 0, 1) := by decide +kernel
theorem dX10_undo_57 : decode cX10_undo 57 = .ok (.getfield 7, 3) := by decide +kernel
theorem dX10_undo_60 : decode cX10_undo 60 = .ok (.bipush 12, 2) := by decide +kernel
theorem dX10_undo_62 : decode cX10_undo 62 = .ok (.aload_n 0, 1) := by decide +kernel
theorem dX10_undo_63 : decode cX10_undo 63 = .ok (.getfield 23, 3) := by decide +kernel
theorem dX10_undo_66 : decode cX10_undo 66 = .ok (.bipush 6, 2) := by decide +kernel
theorem dX10_undo_68 : decode cX10_undo 68 = .ok (.aload_n 0, 1) := by decide +kernel
theorem dX10_undo_69 : decode cX10_undo 69 = .ok (.getfield 72, 3) := by decide +kernel
theorem dX10_undo_72 : decode cX10_undo 72 = .ok (.imul, 1) := by decide +kernel
theorem dX10_undo_73 : decode cX10_undo 73 = .ok (.iconst 5, 1) := by decide +kernel
theorem dX10_undo_74 : decode cX10_undo 74 = .ok (.iadd, 1) := by decide +kernel
theorem dX10_undo_75 : decode cX10_undo 75 = .ok (.iaload, 1) := by decide +kernel
theorem dX10_undo_76 : decode cX10_undo 76 = .ok (.iastore, 1) := by decide +kernel
theorem dX10_undo_77 : decode cX10_undo 77 = .ok (.aload_n 0, 1) := by decide +kernel
theorem dX10_undo_78 : decode cX10_undo 78 = .ok (.getfield 72, 3) := by decide +kernel
theorem dX10_undo_81 : decode cX10_undo 81 = .ok (.ireturn, 1) := by decide +kernel
theorem dX10_seed_0 : decode cX10_seed 0 = .ok (.iload_n 1, 1) := by decide +kernel
theorem dX10_seed_1 : decode cX10_seed 1 = .ok (.ifCond .ge 5, 3) := by decide +kernel
theorem dX10_seed_4 : decode cX10_seed 4 = .ok (.iconst (-1), 1) := by decide +kernel
theorem dX10_seed_5 : decode cX10_seed 5 = .ok (.ireturn, 1) := by decide +kernel
theorem dX10_seed_6 : decode cX10_seed 6 = .ok (.aload_n 0, 1) := by decide +kernel
theorem dX10_seed_7 : decode cX10_seed 7 = .ok (.getfield 7, 3) := by decide +kernel
theorem dX10_seed_10 : decode cX10_seed 10 = .ok (.bipush 12, 2) := by decide +kernel
theorem dX10_seed_12 : decode cX10_seed 12 = .ok (.iaload, 1) := by decide +kernel
theorem dX10_seed_13 : decode cX10_seed 13 = .ok (.istore_n 2, 1) := by decide +kernel
theorem dX10_seed_14 : decode cX10_seed 14 = .ok (.aload_n 0, 1) := by decide +kernel
theorem dX10_seed_15 : decode cX10_seed 15 = .ok (.getfield 7, 3) := by decide +kernel
theorem dX10_seed_18 : decode cX10_seed 18 = .ok (.bipush 12, 2) := by decide +kernel
theorem dX10_seed_20 : decode cX10_seed 20 = .ok (.iload_n 1, 1) := by decide +kernel
theorem dX10_seed_21 : decode cX10_seed 21 = .ok (.iastore, 1) := by decide +kernel
theorem dX10_seed_22 : decode cX10_seed 22 = .ok (.iload_n 2, 1) := by decide +kernel
theorem dX10_seed_23 : decode cX10_seed 23 = .ok (.ireturn, 1) := by decide +kernel
theorem dX10_mixed_0 : decode cX10_mixed 0 = .ok (.iload_n 1, 1) := by decide +kernel
theorem dX10_mixed_1 : decode cX10_mixed 1 = .ok (.bipush 10, 2) := by decide +kernel
theorem dX10_mixed_3 : decode cX10_mixed 3 = .ok (.aload_n 0, 1) := by decide +kernel
theorem dX10_mixed_4 : decode cX10_mixed 4 = .ok (.getfield 7, 3) := by decide +kernel
theorem dX10_mixed_7 : decode cX10_mixed 7 = .ok (.iconst 4, 1) := by decide +kernel
theorem dX10_mixed_8 : decode cX10_mixed 8 = .ok (.iaload, 1) := by decide +kernel
theorem dX10_mixed_9 : decode cX10_mixed 9 = .ok (.isub, 1) := by decide +kernel
theorem dX10_mixed_10 : decode cX10_mixed 10 = .ok (.aload_n 0, 1) := by decide +kernel
theorem dX10_mixed_11 : decode cX10_mixed 11 = .ok (.getfield 7, 3) := by decide +kernel
theorem dX10_mixed_14 : decode cX10_mixed 14 = .ok (.iconst 5, 1) := by decide +kernel
theorem dX10_mixed_15 : decode cX10_mixed 15 = .ok (.iaload, 1) := by decide +kernel
theorem dX10_mixed_16 : decode cX10_mixed 16 = .ok (.isub, 1) := by decide +kernel
theorem dX10_mixed_17 : decode cX10_mixed 17 = .ok (.imul, 1) := by decide +kernel
theorem dX10_mixed_18 : decode cX10_mixed 18 = .ok (.iload_n 2, 1) := by decide +kernel
theorem dX10_mixed_19 : decode cX10_mixed 19 = .ok (.aload_n 0, 1) := by decide +kernel
theorem dX10_mixed_20 : decode cX10_mixed 20 = .ok (.getfield 7, 3) := by decide +kernel
theorem dX10_mixed_23 : decode cX10_mixed 23 = .ok (.iconst 4, 1) := by decide +kernel
theorem dX10_mixed_24 : decode cX10_mixed 24 = .ok (.iaload, 1) := by decide +kernel
theorem dX10_mixed_25 : decode cX10_mixed 25 = .ok (.imul, 1) := by decide +kernel
theorem dX10_mixed_26 : decode cX10_mixed 26 = .ok (.iadd, 1) := by decide +kernel
theorem dX10_mixed_27 : decode cX10_mixed 27 = .ok (.iload_n 3, 1) := by decide +kernel
theorem dX10_mixed_28 : decode cX10_mixed 28 = .ok (.aload_n 0, 1) := by decide +kernel
theorem dX10_mixed_29 : decode cX10_mixed 29 = .ok (.getfield 7, 3) := by decide +kernel
theorem dX10_mixed_32 : decode cX10_mixed 32 = .ok (.iconst 5, 1) := by decide +kernel
theorem dX10_mixed_33 : decode cX10_mixed 33 = .ok (.iaload, 1) := by decide +kernel
theorem dX10_mixed_34 : decode cX10_mixed 34 = .ok (.imul, 1) := by decide +kernel
theorem dX10_mixed_35 : decode cX10_mixed 35 = .ok (.iadd, 1) := by decide +kernel
theorem dX10_mixed_36 : decode cX10_mixed 36 = .ok (.bipush 10, 2) := by decide +kernel
theorem dX10_mixed_38 : decode cX10_mixed 38 = .ok (.idiv, 1) := by decide +kernel
theorem dX10_mixed_39 : decode cX10_mixed 39 = .ok (.ireturn, 1) := by decide +kernel
theorem dX10_fills_0 : decode cX10_fills 0 = .ok (.iconst 0, 1) := by decide +kernel
theorem dX10_fills_1 : decode cX10_fills 1 = .ok (.istore 6, 2) := by decide +kernel
theorem dX10_fills_3 : decode cX10_fills 3 = .ok (.iload 6, 2) := by decide +kernel
theorem dX10_fills_5 : decode cX10_fills 5 = .ok (.aload_n 0, 1) := by decide +kernel
theorem dX10_fills_6 : decode cX10_fills 6 = .ok (.getfield 7, 3) := by decide +kernel
theorem dX10_fills_9 : decode cX10_fills 9 = .ok (.iconst 2, 1) := by decide +kernel
theorem dX10_fills_10 : decode cX10_fills 10 = .ok (.iaload, 1) := by decide +kernel
theorem dX10_fills_11 : decode cX10_fills 11 = .ok (.if_icmp .gt 44, 3) := by decide +kernel
theorem dX10_fills_14 : decode cX10_fills 14 = .ok (.aload_n 0, 1) := by decide +kernel
theorem dX10_fills_15 : decode cX10_fills 15 = .ok (.getfield 26, 3) := by decide +kernel
theorem dX10_fills_18 : decode cX10_fills 18 = .ok (.sipush 201, 3) := by decide +kernel
theorem dX10_fills_21 : decode cX10_fills 21 = .ok (.aload_n 0, 1) := by decide +kernel
theorem dX10_fills_22 : decode cX10_fills 22 = .ok (.getfield 7, 3) := by decide +kernel
theorem dX10_fills_25 : decode cX10_fills 25 = .ok (.iconst 3, 1) := by decide +kernel
theorem dX10_fills_26 : decode cX10_fills 26 = .ok (.iaload, 1) := by decide +kernel
theorem dX10_fills_27 : decode cX10_fills 27 = .ok (.imul, 1) := by decide +kernel
theorem dX10_fills_28 : decode cX10_fills 28 = .ok (.iload 6, 2) := by decide +kernel
theorem dX10_fills_30 : decode cX10_fills 30 = .ok (.iadd, 1) := by decide +kernel
theorem dX10_fills_31 : decode cX10_fills 31 = .ok (.iload 6, 2) := by decide +kernel
theorem dX10_fills_33 : decode cX10_fills 33 = .ok (.aload_n 0, 1) := by decide +kernel
theorem dX10_fills_34 : decode cX10_fills 34 = .ok (.getfield 7, 3) := by decide +kernel
theorem dX10_fills_37 : decode cX10_fills 37 = .ok (.iconst 2, 1) := by decide +kernel
theorem dX10_fills_38 : decode cX10_fills 38 = .ok (.iaload, 1) := by decide +kernel
theorem dX10_fills_39 : decode cX10_fills 39 = .ok (.if_icmp .ne 8, 3) := by decide +kernel
theorem dX10_fills_42 : decode cX10_fills 42 = .ok (.ldc 176, 2) := by decide +kernel
theorem dX10_fills_44 : decode cX10_fills 44 = .ok (.goto 4, 3) := by decide +kernel
theorem dX10_fills_47 : decode cX10_fills 47 = .ok (.iconst 0, 1) := by decide +kernel
theorem dX10_fills_48 : decode cX10_fills 48 = .ok (.iastore, 1) := by decide +kernel
theorem dX10_fills_49 : decode cX10_fills 49 = .ok (.iinc 6 1, 3) := by decide +kernel
theorem dX10_fills_52 : decode cX10_fills 52 = .ok (.goto (-49), 3) := by decide +kernel
theorem dX10_fills_55 : decode cX10_fills 55 = .ok (.aload_n 0, 1) := by decide +kernel
theorem dX10_fills_56 : decode cX10_fills 56 = .ok (.getfield 7, 3) := by decide +kernel
theorem dX10_fills_59 : decode cX10_fills 59 = .ok (.iconst 3, 1) := by decide +kernel
theorem dX10_fills_60 : decode cX10_fills 60 = .ok (.iaload, 1) := by decide +kernel
theorem dX10_fills_61 : decode cX10_fills 61 = .ok (.iconst 1, 1) := by decide +kernel
theorem dX10_fills_62 : decode cX10_fills 62 = .ok (.isub, 1) := by decide +kernel
theorem dX10_fills_63 : decode cX10_fills 63 = .ok (.istore 6, 2) := by decide +kernel
theorem dX10_fills_65 : decode cX10_fills 65 = .ok (.iload 6, 2) := by decide +kernel
theorem dX10_fills_67 : decode cX10_fills 67 = .ok (.iload_n 1, 1) := by decide +kernel
theorem dX10_fills_68 : decode cX10_fills 68 = .ok (.if_icmp .lt 155, 3) := by decide +kernel
theorem dX10_fills_71 : decode cX10_fills 71 = .ok (.iload 6, 2) := by decide +kernel
theorem dX10_fills_73 : decode cX10_fills 73 = .ok (.iload_n 2, 1) := by decide +kernel
theorem dX10_fills_74 : decode cX10_fills 74 = .ok (.if_icmp .ne 7, 3) := by decide +kernel
theorem dX10_fills_77 : decode cX10_fills 77 = .ok (.iload_n 3, 1) := by decide +kernel
theorem dX10_fills_78 : decode cX10_fills 78 = .ok (.goto 4, 3) := by decide +kernel
theorem dX10_fills_81 : decode cX10_fills 81 = .ok (.iconst 0, 1) := by decide +kernel
theorem dX10_fills_82 : decode cX10_fills 82 = .ok (.iload 6, 2) := by decide +kernel
theorem dX10_fills_84 : decode cX10_fills 84 = .ok (.iload 4, 2) := by decide +kernel
theorem dX10_fills_86 : decode cX10_fills 86 = .ok (.if_icmp .ne 8, 3) := by decide +kernel
theorem dX10_fills_89 : decode cX10_fills 89 = .ok (.iload 5, 2) := by decide +kernel
theorem dX10_fills_91 : decode cX10_fills 91 = .ok (.goto 4, 3) := by decide +kernel
theorem dX10_fills_94 : decode cX10_fills 94 = .ok (.iconst 0, 1) := by decide +kernel
theorem dX10_fills_95 : decode cX10_fills 95 = .ok (.iadd, 1) := by decide +kernel
theorem dX10_fills_96 : decode cX10_fills 96 = .ok (.istore 7, 2) := by decide +kernel
theorem dX10_fills_98 : decode cX10_fills 98 = .ok (.sipush 201, 3) := by decide +kernel
theorem dX10_fills_101 : decode cX10_fills 101 = .ok (.iload 6, 2) := by decide +kernel
theorem dX10_fills_103 : decode cX10_fills 103 = .ok (.iconst 1, 1) := by decide +kernel
theorem dX10_fills_104 : decode cX10_fills 104 = .ok (.iadd, 1) := by decide +kernel
theorem dX10_fills_105 : decode cX10_fills 105 = .ok (.imul, 1) := by decide +kernel
theorem dX10_fills_106 : decode cX10_fills 106 = .ok (.istore 8, 2) := by decide +kernel
theorem dX10_fills_108 : decode cX10_fills 108 = .ok (.iconst 0, 1) := by decide +kernel
theorem dX10_fills_109 : decode cX10_fills 109 = .ok (.istore 9, 2) := by decide +kernel
theorem dX10_fills_111 : decode cX10_fills 111 = .ok (.iload 9, 2) := by decide +kernel
theorem dX10_fills_113 : decode cX10_fills 113 = .ok (.aload_n 0, 1) := by decide +kernel
theorem dX10_fills_114 : decode cX10_fills 114 = .ok (.getfield 7, 3) := by decide +kernel
theorem dX10_fills_117 : decode cX10_fills 117 = .ok (.iconst 2, 1) := by decide +kernel
theorem dX10_fills_118 : decode cX10_fills 118 = .ok (.iaload, 1) := by decide +kernel
theorem dX10_fills_119 : decode cX10_fills 119 = .ok (.if_icmp .ge 78, 3) := by decide +kernel
theorem dX10_fills_122 : decode cX10_fills 122 = .ok (.aload_n 0, 1) := by decide +kernel
theorem dX10_fills_123 : decode cX10_fills 123 = .ok (.getfield 26, 3) := by decide +kernel
theorem dX10_fills_126 : decode cX10_fills 126 = .ok (.sipush 201, 3) := by decide +kernel
theorem dX10_fills_129 : decode cX10_fills 129 = .ok (.iload 6, 2) := by decide +kernel
theorem dX10_fills_131 : decode cX10_fills 131 = .ok (.imul, 1) := by decide +kernel
theorem dX10_fills_132 : decode cX10_fills 132 = .ok (.iload 9, 2) := by decide +kernel
theorem dX10_fills_134 : decode cX10_fills 134 = .ok (.iadd, 1) := by decide +kernel
theorem dX10_fills_135 : decode cX10_fills 135 = .ok (.aload_n 0, 1) := by decide +kernel
theorem dX10_fills_136 : decode cX10_fills 136 = .ok (.aload_n 0, 1) := by decide +kernel
theorem dX10_fills_137 : decode cX10_fills 137 = .ok (.getfield 26, 3) := by decide +kernel
theorem dX10_fills_140 : decode cX10_fills 140 = .ok (.iload 8, 2) := by decide +kernel
theorem dX10_fills_142 : decode cX10_fills 142 = .ok (.aload_n 0, 1) := by decide +kernel
theorem dX10_fills_143 : decode cX10_fills 143 = .ok (.iconst 0, 1) := by decide +kernel
theorem dX10_fills_144 : decode cX10_fills 144 = .ok (.iload 9, 2) := by decide +kernel
theorem dX10_fills_146 : decode cX10_fills 146 = .ok (.iload 7, 2) := by decide +kernel
theorem dX10_fills_148 : decode cX10_fills 148 = .ok (.invokevirtual 137, 3) := by decide +kernel
theorem dX10_fills_151 : decode cX10_fills 151 = .ok (.iadd, 1) := by decide +kernel
theorem dX10_fills_152 : decode cX10_fills 152 = .ok (.iaload, 1) := by decide +kernel
theorem dX10_fills_153 : decode cX10_fills 153 = .ok (.aload_n 0, 1) := by decide +kernel
theorem dX10_fills_154 : decode cX10_fills 154 = .ok (.getfield 26, 3) := by decide +kernel
theorem dX10_fills_157 : decode cX10_fills 157 = .ok (.iload 8, 2) := by decide +kernel
theorem dX10_fills_159 : decode cX10_fills 159 = .ok (.aload_n 0, 1) := by decide +kernel
theorem dX10_fills_160 : decode cX10_fills 160 = .ok (.iconst 1, 1) := by decide +kernel
theorem dX10_fills_161 : decode cX10_fills 161 = .ok (.iload 9, 2) := by decide +kernel
theorem dX10_fills_163 : decode cX10_fills 163 = .ok (.iload 7, 2) := by decide +kernel
theorem dX10_fills_165 : decode cX10_fills 165 = .ok (.invokevirtual 137, 3) := by decide +kernel
theorem dX10_fills_168 : decode cX10_fills 168 = .ok (.iadd, 1) := by decide +kernel
theorem dX10_fills_169 : decode cX10_fills 169 = .ok (.iaload, 1) := by decide +kernel
theorem dX10_fills_170 : decode cX10_fills 170 = .ok (.aload_n 0, 1) := by decide +kernel
theorem dX10_fills_171 : decode cX10_fills 171 = .ok (.getfield 26, 3) := by decide +kernel
theorem dX10_fills_174 : decode cX10_fills 174 = .ok (.iload 8, 2) := by decide +kernel
theorem dX10_fills_176 : decode cX10_fills 176 = .ok (.aload_n 0, 1) := by decide +kernel
theorem dX10_fills_177 : decode cX10_fills 177 = .ok (.iconst 2, 1) := by decide +kernel
theorem dX10_fills_178 : decode cX10_fills 178 = .ok (.iload 9, 2) := by decide +kernel
theorem dX10_fills_180 : decode cX10_fills 180 = .ok (.iload 7, 2) := by decide +kernel
theorem dX10_fills_182 : decode cX10_fills 182 = .ok (.invokevirtual 137, 3) := by decide +kernel
theorem dX10_fills_185 : decode cX10_fills 185 = .ok (.iadd, 1) := by decide +kernel
theorem dX10_fills_186 : decode cX10_fills 186 = .ok (.iaload, 1) := by decide +kernel
theorem dX10_fills_187 : decode cX10_fills 187 = .ok (.invokevirtual 177, 3) := by decide +kernel
theorem dX10_fills_190 : decode cX10_fills 190 = .ok (.iastore, 1) := by decide +kernel
theorem dX10_fills_191 : decode cX10_fills 191 = .ok (.iinc 9 1, 3) := by decide +kernel
theorem dX10_fills_194 : decode cX10_fills 194 = .ok (.goto (-83), 3) := by decide +kernel
theorem dX10_fills_197 : decode cX10_fills 197 = .ok (.aload_n 0, 1) := by decide +kernel
theorem dX10_fills_198 : decode cX10_fills 198 = .ok (.getfield 26, 3) := by decide +kernel
theorem dX10_fills_201 : decode cX10_fills 201 = .ok (.sipush 201, 3) := by decide +kernel
theorem dX10_fills_204 : decode cX10_fills 204 = .ok (.iload 6, 2) := by decide +kernel
theorem dX10_fills_206 : decode cX10_fills 206 = .ok (.imul, 1) := by decide +kernel
theorem dX10_fills_207 : decode cX10_fills 207 = .ok (.aload_n 0, 1) := by decide +kernel
theorem dX10_fills_208 : decode cX10_fills 208 = .ok (.getfield 7, 3) := by decide +kernel
theorem dX10_fills_211 : decode cX10_fills 211 = .ok (.iconst 2, 1) := by decide +kernel
theorem dX10_fills_212 : decode cX10_fills 212 = .ok (.iaload, 1) := by decide +kernel
theorem dX10_fills_213 : decode cX10_fills 213 = .ok (.iadd, 1) := by decide +kernel
theorem dX10_fills_214 : decode cX10_fills 214 = .ok (.ldc 176, 2) := by decide +kernel
theorem dX10_fills_216 : decode cX10_fills 216 = .ok (.iastore, 1) := by decide +kernel
theorem dX10_fills_217 : decode cX10_fills 217 = .ok (.iinc 6 (-1), 3) := by decide +kernel
theorem dX10_fills_220 : decode cX10_fills 220 = .ok (.goto (-155), 3) := by decide +kernel
theorem dX10_fills_223 : decode cX10_fills 223 = .ok (.return_, 1) := by decide +kernel
theorem dX10_oddsBy_0 : decode cX10_oddsBy 0 = .ok (.aload_n 0, 1) := by decide +kernel
theorem dX10_oddsBy_1 : decode cX10_oddsBy 1 = .ok (.aload_n 0, 1) := by decide +kernel
theorem dX10_oddsBy_2 : decode cX10_oddsBy 2 = .ok (.getfield 7, 3) := by decide +kernel
theorem dX10_oddsBy_5 : decode cX10_oddsBy 5 = .ok (.bipush 6, 2) := by decide +kernel
theorem dX10_oddsBy_7 : decode cX10_oddsBy 7 = .ok (.iaload, 1) := by decide +kernel
theorem dX10_oddsBy_8 : decode cX10_oddsBy 8 = .ok (.aload_n 0, 1) := by decide +kernel
theorem dX10_oddsBy_9 : decode cX10_oddsBy 9 = .ok (.getfield 7, 3) := by decide +kernel
theorem dX10_oddsBy_12 : decode cX10_oddsBy 12 = .ok (.bipush 6, 2) := by decide +kernel
theorem dX10_oddsBy_14 : decode cX10_oddsBy 14 = .ok (.iaload, 1) := by decide +kernel
theorem dX10_oddsBy_15 : decode cX10_oddsBy 15 = .ok (.aload_n 0, 1) := by decide +kernel
theorem dX10_oddsBy_16 : decode cX10_oddsBy 16 = .ok (.getfield 7, 3) := by decide +kernel
theorem dX10_oddsBy_19 : decode cX10_oddsBy 19 = .ok (.bipush 9, 2) := by decide +kernel
theorem dX10_oddsBy_21 : decode cX10_oddsBy 21 = .ok (.iaload, 1) := by decide +kernel
theorem dX10_oddsBy_22 : decode cX10_oddsBy 22 = .ok (.iload_n 1, 1) := by decide +kernel
theorem dX10_oddsBy_23 : decode cX10_oddsBy 23 = .ok (.iload_n 2, 1) := by decide +kernel
theorem dX10_oddsBy_24 : decode cX10_oddsBy 24 = .ok (.invokevirtual 180, 3) := by decide +kernel
theorem dX10_oddsBy_27 : decode cX10_oddsBy 27 = .ok (.aload_n 0, 1) := by decide +kernel
theorem dX10_oddsBy_28 : decode cX10_oddsBy 28 = .ok (.getfield 26, 3) := by decide +kernel
theorem dX10_oddsBy_31 : decode cX10_oddsBy 31 = .ok (.sipush 201, 3) := by decide +kernel
theorem dX10_oddsBy_34 : decode cX10_oddsBy 34 = .ok (.aload_n 0, 1) := by decide +kernel
theorem dX10_oddsBy_35 : decode cX10_oddsBy 35 = .ok (.getfield 7, 3) := by decide +kernel
theorem dX10_oddsBy_38 : decode cX10_oddsBy 38 = .ok (.bipush 6, 2) := by decide +kernel
theorem dX10_oddsBy_40 : decode cX10_oddsBy 40 = .ok (.iaload, 1) := by decide +kernel
theorem dX10_oddsBy_41 : decode cX10_oddsBy 41 = .ok (.imul, 1) := by decide +kernel
theorem dX10_oddsBy_42 : decode cX10_oddsBy 42 = .ok (.aload_n 0, 1) := by decide +kernel
theorem dX10_oddsBy_43 : decode cX10_oddsBy 43 = .ok (.getfield 7, 3) := by decide +kernel
theorem dX10_oddsBy_46 : decode cX10_oddsBy 46 = .ok (.bipush 7, 2) := by decide +kernel
theorem dX10_oddsBy_48 : decode cX10_oddsBy 48 = .ok (.iaload, 1) := by decide +kernel
theorem dX10_oddsBy_49 : decode cX10_oddsBy 49 = .ok (.iadd, 1) := by decide +kernel
theorem dX10_oddsBy_50 : decode cX10_oddsBy 50 = .ok (.iaload, 1) := by decide +kernel
theorem dX10_oddsBy_51 : decode cX10_oddsBy 51 = .ok (.ireturn, 1) := by decide +kernel
theorem dX10_odds_0 : decode cX10_odds 0 = .ok (.aload_n 0, 1) := by decide +kernel
theorem dX10_odds_1 : decode cX10_odds 1 = .ok (.iconst (-1), 1) := by decide +kernel
theorem dX10_odds_2 : decode cX10_odds 2 = .ok (.iconst 0, 1) := by decide +kernel
theorem dX10_odds_3 : decode cX10_odds 3 = .ok (.invokevirtual 184, 3) := by decide +kernel
theorem dX10_odds_6 : decode cX10_odds 6 = .ok (.ireturn, 1) := by decide +kernel
theorem dX10_oddsAt_0 : decode cX10_oddsAt 0 = .ok (.iload_n 1, 1) := by decide +kernel
theorem dX10_oddsAt_1 : decode cX10_oddsAt 1 = .ok (.i2l, 1) := by decide +kernel
theorem dX10_oddsAt_2 : decode cX10_oddsAt 2 = .ok (.lconst 0, 1) := by decide +kernel
theorem dX10_oddsAt_3 : decode cX10_oddsAt 3 = .ok (.aload_n 0, 1) := by decide +kernel
theorem dX10_oddsAt_4 : decode cX10_oddsAt 4 = .ok (.getfield 7, 3) := by decide +kernel
theorem dX10_oddsAt_7 : decode cX10_oddsAt 7 = .ok (.iconst 3, 1) := by decide +kernel
theorem dX10_oddsAt_8 : decode cX10_oddsAt 8 = .ok (.iaload, 1) := by decide +kernel
theorem dX10_oddsAt_9 : decode cX10_oddsAt 9 = .ok (.i2l, 1) := by decide +kernel
theorem dX10_oddsAt_10 : decode cX10_oddsAt 10 = .ok (.invokestatic 51, 3) := by decide +kernel
theorem dX10_oddsAt_13 : decode cX10_oddsAt 13 = .ok (.ifCond .eq 19, 3) := by decide +kernel
theorem dX10_oddsAt_16 : decode cX10_oddsAt 16 = .ok (.iload_n 2, 1) := by decide +kernel
theorem dX10_oddsAt_17 : decode cX10_oddsAt 17 = .ok (.i2l, 1) := by decide +kernel
theorem dX10_oddsAt_18 : decode cX10_oddsAt 18 = .ok (.lconst 0, 1) := by decide +kernel
theorem dX10_oddsAt_19 : decode cX10_oddsAt 19 = .ok (.aload_n 0, 1) := by decide +kernel
theorem dX10_oddsAt_20 : decode cX10_oddsAt 20 = .ok (.getfield 7, 3) := by decide +kernel
theorem dX10_oddsAt_23 : decode cX10_oddsAt 23 = .ok (.iconst 2, 1) := by decide +kernel
theorem dX10_oddsAt_24 : decode cX10_oddsAt 24 = .ok (.iaload, 1) := by decide +kernel
theorem dX10_oddsAt_25 : decode cX10_oddsAt 25 = .ok (.i2l, 1) := by decide +kernel
theorem dX10_oddsAt_26 : decode cX10_oddsAt 26 = .ok (.invokestatic 51, 3) := by decide +kernel
theorem dX10_oddsAt_29 : decode cX10_oddsAt 29 = .ok (.ifCond .ne 5, 3) := by decide +kernel
theorem dX10_oddsAt_32 : decode cX10_oddsAt 32 = .ok (.iconst (-1), 1) := by decide +kernel
theorem dX10_oddsAt_33 : decode cX10_oddsAt 33 = .ok (.ireturn, 1) := by decide +kernel
theorem dX10_oddsAt_34 : decode cX10_oddsAt 34 = .ok (.aload_n 0, 1) := by decide +kernel
theorem dX10_oddsAt_35 : decode cX10_oddsAt 35 = .ok (.iload_n 1, 1) := by decide +kernel
theorem dX10_oddsAt_36 : decode cX10_oddsAt 36 = .ok (.iconst (-1), 1) := by decide +kernel
theorem dX10_oddsAt_37 : decode cX10_oddsAt 37 = .ok (.iconst 0, 1) := by decide +kernel
theorem dX10_oddsAt_38 : decode cX10_oddsAt 38 = .ok (.iconst (-1), 1) := by decide +kernel
theorem dX10_oddsAt_39 : decode cX10_oddsAt 39 = .ok (.iconst 0, 1) := by decide +kernel
theorem dX10_oddsAt_40 : decode cX10_oddsAt 40 = .ok (.invokevirtual 180, 3) := by decide +kernel
theorem dX10_oddsAt_43 : decode cX10_oddsAt 43 = .ok (.aload_n 0, 1) := by decide +kernel
theorem dX10_oddsAt_44 : decode cX10_oddsAt 44 = .ok (.getfield 26, 3) := by decide +kernel
theorem dX10_oddsAt_47 : decode cX10_oddsAt 47 = .ok (.sipush 201, 3) := by decide +kernel
theorem dX10_oddsAt_50 : decode cX10_oddsAt 50 = .ok (.iload_n 1, 1) := by decide +kernel
theorem dX10_oddsAt_51 : decode cX10_oddsAt 51 = .ok (.imul, 1) := by decide +kernel
theorem dX10_oddsAt_52 : decode cX10_oddsAt 52 = .ok (.iload_n 2, 1) := by decide +kernel
theorem dX10_oddsAt_53 : decode cX10_oddsAt 53 = .ok (.iadd, 1) := by decide +kernel
theorem dX10_oddsAt_54 : decode cX10_oddsAt 54 = .ok (.iaload, 1) := by decide +kernel
theorem dX10_oddsAt_55 : decode cX10_oddsAt 55 = .ok (.ireturn, 1) := by decide +kernel
theorem dX10_isPart_0 : decode cX10_isPart 0 = .ok (.iload_n 0, 1) := by decide +kernel
theorem dX10_isPart_1 : decode cX10_isPart 1 = .ok (.i2l, 1) := by decide +kernel
theorem dX10_isPart_2 : decode cX10_isPart 2 = .ok (.lconst 0, 1) := by decide +kernel
theorem dX10_isPart_3 : decode cX10_isPart 3 = .ok (.ldc2_w 187, 3) := by decide +kernel
theorem dX10_isPart_6 : decode cX10_isPart 6 = .ok (.invokestatic 51, 3) := by decide +kernel
theorem dX10_isPart_9 : decode cX10_isPart 9 = .ok (.ireturn, 1) := by decide +kernel
theorem dX10_sure_0 : decode cX10_sure 0 = .ok (.iload_n 1, 1) := by decide +kernel
theorem dX10_sure_1 : decode cX10_sure 1 = .ok (.invokestatic 189, 3) := by decide +kernel
theorem dX10_sure_4 : decode cX10_sure 4 = .ok (.ifCond .ne 5, 3) := by decide +kernel
theorem dX10_sure_7 : decode cX10_sure 7 = .ok (.iconst (-1), 1) := by decide +kernel
theorem dX10_sure_8 : decode cX10_sure 8 = .ok (.ireturn, 1) := by decide +kernel
theorem dX10_sure_9 : decode cX10_sure 9 = .ok (.aload_n 0, 1) := by decide +kernel
theorem dX10_sure_10 : decode cX10_sure 10 = .ok (.iconst (-1), 1) := by decide +kernel
theorem dX10_sure_11 : decode cX10_sure 11 = .ok (.iconst 0, 1) := by decide +kernel
theorem dX10_sure_12 : decode cX10_sure 12 = .ok (.invokevirtual 184, 3) := by decide +kernel
theorem dX10_sure_15 : decode cX10_sure 15 = .ok (.pop, 1) := by decide +kernel
theorem dX10_sure_16 : decode cX10_sure 16 = .ok (.aload_n 0, 1) := by decide +kernel
theorem dX10_sure_17 : decode cX10_sure 17 = .ok (.getfield 7, 3) := by decide +kernel
theorem dX10_sure_20 : decode cX10_sure 20 = .ok (.bipush 7, 2) := by decide +kernel
theorem dX10_sure_22 : decode cX10_sure 22 = .ok (.iaload, 1) := by decide +kernel
theorem dX10_sure_23 : decode cX10_sure 23 = .ok (.istore_n 2, 1) := by decide +kernel
theorem dX10_sure_24 : decode cX10_sure 24 = .ok (.aload_n 0, 1) := by decide +kernel
theorem dX10_sure_25 : decode cX10_sure 25 = .ok (.getfield 7, 3) := by decide +kernel
theorem dX10_sure_28 : decode cX10_sure 28 = .ok (.bipush 6, 2) := by decide +kernel
theorem dX10_sure_30 : decode cX10_sure 30 = .ok (.iaload, 1) := by decide +kernel
theorem dX10_sure_31 : decode cX10_sure 31 = .ok (.istore_n 3, 1) := by decide +kernel
theorem dX10_sure_32 : decode cX10_sure 32 = .ok (.iload_n 3, 1) := by decide +kernel
theorem dX10_sure_33 : decode cX10_sure 33 = .ok (.aload_n 0, 1) := by decide +kernel
theorem dX10_sure_34 : decode cX10_sure 34 = .ok (.getfield 7, 3) := by decide +kernel
theorem dX10_sure_37 : decode cX10_sure 37 = .ok (.iconst 3, 1) := by decide +kernel
theorem dX10_sure_38 : decode cX10_sure 38 = .ok (.iaload, 1) := by decide +kernel
theorem dX10_sure_39 : decode cX10_sure 39 = .ok (.if_icmp .gt 56, 3) := by decide +kernel
theorem dX10_sure_42 : decode cX10_sure 42 = .ok (.aload_n 0, 1) := by decide +kernel
theorem dX10_sure_43 : decode cX10_sure 43 = .ok (.getfield 26, 3) := by decide +kernel
theorem dX10_sure_46 : decode cX10_sure 46 = .ok (.sipush 201, 3) := by decide +kernel
theorem dX10_sure_49 : decode cX10_sure 49 = .ok (.iload_n 3, 1) := by decide +kernel
theorem dX10_sure_50 : decode cX10_sure 50 = .ok (.imul, 1) := by decide +kernel
theorem dX10_sure_51 : decode cX10_sure 51 = .ok (.iload_n 2, 1) := by decide +kernel
theorem dX10_sure_52 : decode cX10_sure 52 = .ok (.iadd, 1) := by decide +kernel
theorem dX10_sure_53 : decode cX10_sure 53 = .ok (.iaload, 1) := by decide +kernel
theorem dX10_sure_54 : decode cX10_sure 54 = .ok (.iload_n 1, 1) := by decide +kernel
theorem dX10_sure_55 : decode cX10_sure 55 = .ok (.if_icmp .lt 5, 3) := by decide +kernel
theorem dX10_sure_58 : decode cX10_sure 58 = .ok (.iload_n 3, 1) := by decide +kernel
theorem dX10_sure_59 : decode cX10_sure 59 = .ok (.ireturn, 1) := by decide +kernel
theorem dX10_sure_60 : decode cX10_sure 60 = .ok (.aload_n 0, 1) := by decide +kernel
theorem dX10_sure_61 : decode cX10_sure 61 = .ok (.iconst 0, 1) := by decide +kernel
theorem dX10_sure_62 : decode cX10_sure 62 = .ok (.iload_n 2, 1) := by decide +kernel
theorem dX10_sure_63 : decode cX10_sure 63 = .ok (.iload_n 3, 1) := by decide +kernel
theorem dX10_sure_64 : decode cX10_sure 64 = .ok (.aload_n 0, 1) := by decide +kernel
theorem dX10_sure_65 : decode cX10_sure 65 = .ok (.getfield 7, 3) := by decide +kernel
theorem dX10_sure_68 : decode cX10_sure 68 = .ok (.bipush 6, 2) := by decide +kernel
theorem dX10_sure_70 : decode cX10_sure 70 = .ok (.iaload, 1) := by decide +kernel
theorem dX10_sure_71 : decode cX10_sure 71 = .ok (.if_icmp .ne 13, 3) := by decide +kernel
theorem dX10_sure_74 : decode cX10_sure 74 = .ok (.aload_n 0, 1) := by decide +kernel
theorem dX10_sure_75 : decode cX10_sure 75 = .ok (.getfield 7, 3) := by decide +kernel
theorem dX10_sure_78 : decode cX10_sure 78 = .ok (.bipush 9, 2) := by decide +kernel
theorem dX10_sure_80 : decode cX10_sure 80 = .ok (.iaload, 1) := by decide +kernel
theorem dX10_sure_81 : decode cX10_sure 81 = .ok (.goto 4, 3) := by decide +kernel
theorem dX10_sure_84 : decode cX10_sure 84 = .ok (.iconst 0, 1) := by decide +kernel
theorem dX10_sure_85 : decode cX10_sure 85 = .ok (.invokevirtual 137, 3) := by decide +kernel
theorem dX10_sure_88 : decode cX10_sure 88 = .ok (.istore_n 2, 1) := by decide +kernel
theorem dX10_sure_89 : decode cX10_sure 89 = .ok (.iinc 3 1, 3) := by decide +kernel
theorem dX10_sure_92 : decode cX10_sure 92 = .ok (.goto (-60), 3) := by decide +kernel
theorem dX10_sure_95 : decode cX10_sure 95 = .ok (.bipush (-4), 2) := by decide +kernel
theorem dX10_sure_97 : decode cX10_sure 97 = .ok (.ireturn, 1) := by decide +kernel
theorem dX10_pace_0 : decode cX10_pace 0 = .ok (.aload_n 0, 1) := by decide +kernel
theorem dX10_pace_1 : decode cX10_pace 1 = .ok (.iload_n 1, 1) := by decide +kernel
theorem dX10_pace_2 : decode cX10_pace 2 = .ok (.invokevirtual 75, 3) := by decide +kernel
theorem dX10_pace_5 : decode cX10_pace 5 = .ok (.ifCond .eq 10, 3) := by decide +kernel
theorem dX10_pace_8 : decode cX10_pace 8 = .ok (.iload_n 2, 1) := by decide +kernel
theorem dX10_pace_9 : decode cX10_pace 9 = .ok (.invokestatic 189, 3) := by decide +kernel
theorem dX10_pace_12 : decode cX10_pace 12 = .ok (.ifCond .ne 5, 3) := by decide +kernel
theorem dX10_pace_15 : decode cX10_pace 15 = .ok (.iconst (-1), 1) := by decide +kernel
theorem dX10_pace_16 : decode cX10_pace 16 = .ok (.ireturn, 1) := by decide +kernel
theorem dX10_pace_17 : decode cX10_pace 17 = .ok (.bipush (-4), 2) := by decide +kernel
theorem dX10_pace_19 : decode cX10_pace 19 = .ok (.istore_n 3, 1) := by decide +kernel
theorem dX10_pace_20 : decode cX10_pace 20 = .ok (.iconst 0, 1) := by decide +kernel
theorem dX10_pace_21 : decode cX10_pace 21 = .ok (.istore 4, 2) := by decide +kernel
theorem dX10_pace_23 : decode cX10_pace 23 = .ok (.iload 4, 2) := by decide +kernel
theorem dX10_pace_25 : decode cX10_pace 25 = .ok (.bipush 21, 2) := by decide +kernel
theorem dX10_pace_27 : decode cX10_pace 27 = .ok (.if_icmp .ge 42, 3) := by decide +kernel
theorem dX10_pace_30 : decode cX10_pace 30 = .ok (.iload_n 3, 1) := by decide +kernel
theorem dX10_pace_31 : decode cX10_pace 31 = .ok (.bipush (-4), 2) := by decide +kernel
theorem dX10_pace_33 : decode cX10_pace 33 = .ok (.if_icmp .ne 36, 3) := by decide +kernel
theorem dX10_pace_36 : decode cX10_pace 36 = .ok (.aload_n 0, 1) := by decide +kernel
theorem dX10_pace_37 : decode cX10_pace 37 = .ok (.iload_n 1, 1) := by decide +kernel
theorem dX10_pace_38 : decode cX10_pace 38 = .ok (.putfield 13, 3) := by decide +kernel
theorem dX10_pace_41 : decode cX10_pace 41 = .ok (.aload_n 0, 1) := by decide +kernel
theorem dX10_pace_42 : decode cX10_pace 42 = .ok (.iload 4, 2) := by decide +kernel
theorem dX10_pace_44 : decode cX10_pace 44 = .ok (.putfield 57, 3) := by decide +kernel
theorem dX10_pace_47 : decode cX10_pace 47 = .ok (.aload_n 0, 1) := by decide +kernel
theorem dX10_pace_48 : decode cX10_pace 48 = .ok (.invokevirtual 192, 3) := by decide +kernel
theorem dX10_pace_51 : decode cX10_pace 51 = .ok (.iload_n 2, 1) := by decide +kernel
theorem dX10_pace_52 : decode cX10_pace 52 = .ok (.if_icmp .lt 8, 3) := by decide +kernel
theorem dX10_pace_55 : decode cX10_pace 55 = .ok (.iload 4, 2) := by decide +kernel
theorem dX10_pace_57 : decode cX10_pace 57 = .ok (.goto 5, 3) := by decide +kernel
theorem dX10_pace_60 : decode cX10_pace 60 = .ok (.bipush (-4), 2) := by decide +kernel
theorem dX10_pace_62 : decode cX10_pace 62 = .ok (.istore_n 3, 1) := by decide +kernel
theorem dX10_pace_63 : decode cX10_pace 63 = .ok (.iinc 4 1, 3) := by decide +kernel
theorem dX10_pace_66 : decode cX10_pace 66 = .ok (.goto (-43), 3) := by decide +kernel
theorem dX10_pace_69 : decode cX10_pace 69 = .ok (.aload_n 0, 1) := by decide +kernel
theorem dX10_pace_70 : decode cX10_pace 70 = .ok (.iconst (-1), 1) := by decide +kernel
theorem dX10_pace_71 : decode cX10_pace 71 = .ok (.putfield 13, 3) := by decide +kernel
theorem dX10_pace_74 : decode cX10_pace 74 = .ok (.iload_n 3, 1) := by decide +kernel
theorem dX10_pace_75 : decode cX10_pace 75 = .ok (.ireturn, 1) := by decide +kernel
theorem dX10_many_0 : decode cX10_many 0 = .ok (.iconst 0, 1) := by decide +kernel
theorem dX10_many_1 : decode cX10_many 1 = .ok (.istore_n 1, 1) := by decide +kernel
theorem dX10_many_2 : decode cX10_many 2 = .ok (.iload_n 0, 1) := by decide +kernel
theorem dX10_many_3 : decode cX10_many 3 = .ok (.istore_n 2, 1) := by decide +kernel
theorem dX10_many_4 : decode cX10_many 4 = .ok (.iload_n 2, 1) := by decide +kernel
theorem dX10_many_5 : decode cX10_many 5 = .ok (.ifCond .eq 15, 3) := by decide +kernel
theorem dX10_many_8 : decode cX10_many 8 = .ok (.iinc 1 1, 3) := by decide +kernel
theorem dX10_many_11 : decode cX10_many 11 = .ok (.iload_n 2, 1) := by decide +kernel
theorem dX10_many_12 : decode cX10_many 12 = .ok (.iload_n 2, 1) := by decide +kernel
theorem dX10_many_13 : decode cX10_many 13 = .ok (.iconst 1, 1) := by decide +kernel
theorem dX10_many_14 : decode cX10_many 14 = .ok (.isub, 1) := by decide +kernel
theorem dX10_many_15 : decode cX10_many 15 = .ok (.iand, 1) := by decide +kernel
theorem dX10_many_16 : decode cX10_many 16 = .ok (.istore_n 2, 1) := by decide +kernel
theorem dX10_many_17 : decode cX10_many 17 = .ok (.goto (-13), 3) := by decide +kernel
theorem dX10_many_20 : decode cX10_many 20 = .ok (.iload_n 1, 1) := by decide +kernel
theorem dX10_many_21 : decode cX10_many 21 = .ok (.ireturn, 1) := by decide +kernel
theorem dX10_plan_0 : decode cX10_plan 0 = .ok (.iload_n 1, 1) := by decide +kernel
theorem dX10_plan_1 : decode cX10_plan 1 = .ok (.invokestatic 189, 3) := by decide +kernel
theorem dX10_plan_4 : decode cX10_plan 4 = .ok (.ifCond .eq 13, 3) := by decide +kernel
theorem dX10_plan_7 : decode cX10_plan 7 = .ok (.iload_n 2, 1) := by decide +kernel
theorem dX10_plan_8 : decode cX10_plan 8 = .ok (.i2l, 1) := by decide +kernel
theorem dX10_plan_9 : decode cX10_plan 9 = .ok (.lconst 0, 1) := by decide +kernel
theorem dX10_plan_10 : decode cX10_plan 10 = .ok (.lconst 1, 1) := by decide +kernel
theorem dX10_plan_11 : decode cX10_plan 11 = .ok (.invokestatic 51, 3) := by decide +kernel
theorem dX10_plan_14 : decode cX10_plan 14 = .ok (.ifCond .ne 5, 3) := by decide +kernel
theorem dX10_plan_17 : decode cX10_plan 17 = .ok (.iconst (-1), 1) := by decide +kernel
theorem dX10_plan_18 : decode cX10_plan 18 = .ok (.ireturn, 1) := by decide +kernel
theorem dX10_plan_19 : decode cX10_plan 19 = .ok (.bipush (-4), 2) := by decide +kernel
theorem dX10_plan_21 : decode cX10_plan 21 = .ok (.istore_n 3, 1) := by decide +kernel
theorem dX10_plan_22 : decode cX10_plan 22 = .ok (.iconst 0, 1) := by decide +kernel
theorem dX10_plan_23 : decode cX10_plan 23 = .ok (.istore 4, 2) := by decide +kernel
theorem dX10_plan_25 : decode cX10_plan 25 = .ok (.iload 4, 2) := by decide +kernel
theorem dX10_plan_27 : decode cX10_plan 27 = .ok (.iconst 1, 1) := by decide +kernel
theorem dX10_plan_28 : decode cX10_plan 28 = .ok (.aload_n 0, 1) := by decide +kernel
theorem dX10_plan_29 : decode cX10_plan 29 = .ok (.getfield 7, 3) := by decide +kernel
theorem dX10_plan_32 : decode cX10_plan 32 = .ok (.iconst 1, 1) := by decide +kernel
theorem dX10_plan_33 : decode cX10_plan 33 = .ok (.iaload, 1) := by decide +kernel
theorem dX10_plan_34 : decode cX10_plan 34 = .ok (.ishl, 1) := by decide +kernel
theorem dX10_plan_35 : decode cX10_plan 35 = .ok (.if_icmp .ge 159, 3) := by decide +kernel
theorem dX10_plan_38 : decode cX10_plan 38 = .ok (.iconst 0, 1) := by decide +kernel
theorem dX10_plan_39 : decode cX10_plan 39 = .ok (.istore 5, 2) := by decide +kernel
theorem dX10_plan_41 : decode cX10_plan 41 = .ok (.iload_n 3, 1) := by decide +kernel
theorem dX10_plan_42 : decode cX10_plan 42 = .ok (.bipush (-4), 2) := by decide +kernel
theorem dX10_plan_44 : decode cX10_plan 44 = .ok (.if_icmp .eq 15, 3) := by decide +kernel
theorem dX10_plan_47 : decode cX10_plan 47 = .ok (.iload 4, 2) := by decide +kernel
theorem dX10_plan_49 : decode cX10_plan 49 = .ok (.invokestatic 195, 3) := by decide +kernel
theorem dX10_plan_52 : decode cX10_plan 52 = .ok (.iload_n 3, 1) := by decide +kernel
theorem dX10_plan_53 : decode cX10_plan 53 = .ok (.invokestatic 195, 3) := by decide +kernel
theorem dX10_plan_56 : decode cX10_plan 56 = .ok (.if_icmp .ge 7, 3) := by decide +kernel
theorem dX10_plan_59 : decode cX10_plan 59 = .ok (.iconst 1, 1) := by decide +kernel
theorem dX10_plan_60 : decode cX10_plan 60 = .ok (.goto 4, 3) := by decide +kernel
theorem dX10_plan_63 : decode cX10_plan 63 = .ok (.iconst 0, 1) := by decide +kernel
theorem dX10_plan_64 : decode cX10_plan 64 = .ok (.istore 6, 2) := by decide +kernel
theorem dX10_plan_66 : decode cX10_plan 66 = .ok (.iconst 0, 1) := by decide +kernel
theorem dX10_plan_67 : decode cX10_plan 67 = .ok (.istore 7, 2) := by decide +kernel
theorem dX10_plan_69 : decode cX10_plan 69 = .ok (.iload 7, 2) := by decide +kernel
theorem dX10_plan_71 : decode cX10_plan 71 = .ok (.aload_n 0, 1) := by decide +kernel
theorem dX10_plan_72 : decode cX10_plan 72 = .ok (.getfield 7, 3) := by decide +kernel
theorem dX10_plan_75 : decode cX10_plan 75 = .ok (.iconst 1, 1) := by decide +kernel
theorem dX10_plan_76 : decode cX10_plan 76 = .ok (.iaload, 1) := by decide +kernel
theorem dX10_plan_77 : decode cX10_plan 77 = .ok (.if_icmp .ge 82, 3) := by decide +kernel
theorem dX10_plan_80 : decode cX10_plan 80 = .ok (.iload 4, 2) := by decide +kernel
theorem dX10_plan_82 : decode cX10_plan 82 = .ok (.iload 7, 2) := by decide +kernel
theorem dX10_plan_84 : decode cX10_plan 84 = .ok (.ishr, 1) := by decide +kernel
theorem dX10_plan_85 : decode cX10_plan 85 = .ok (.iconst 1, 1) := by decide +kernel
theorem dX10_plan_86 : decode cX10_plan 86 = .ok (.iand, 1) := by decide +kernel
theorem dX10_plan_87 : decode cX10_plan 87 = .ok (.iconst 1, 1) := by decide +kernel
theorem dX10_plan_88 : decode cX10_plan 88 = .ok (.if_icmp .ne 7, 3) := by decide +kernel
theorem dX10_plan_91 : decode cX10_plan 91 = .ok (.iconst 1, 1) := by decide +kernel
theorem dX10_plan_92 : decode cX10_plan 92 = .ok (.goto 4, 3) := by decide +kernel
theorem dX10_plan_95 : decode cX10_plan 95 = .ok (.iconst 0, 1) := by decide +kernel
theorem dX10_plan_96 : decode cX10_plan 96 = .ok (.istore 8, 2) := by decide +kernel
theorem dX10_plan_98 : decode cX10_plan 98 = .ok (.iload 5, 2) := by decide +kernel
theorem dX10_plan_100 : decode cX10_plan 100 = .ok (.iload 8, 2) := by decide +kernel
theorem dX10_plan_102 : decode cX10_plan 102 = .ok (.ifCond .eq 12, 3) := by decide +kernel
theorem dX10_plan_105 : decode cX10_plan 105 = .ok (.aload_n 0, 1) := by decide +kernel
theorem dX10_plan_106 : decode cX10_plan 106 = .ok (.iload 7, 2) := by decide +kernel
theorem dX10_plan_108 : decode cX10_plan 108 = .ok (.invokevirtual 163, 3) := by decide +kernel
theorem dX10_plan_111 : decode cX10_plan 111 = .ok (.goto 4, 3) := by decide +kernel
theorem dX10_plan_114 : decode cX10_plan 114 = .ok (.iconst 0, 1) := by decide +kernel
theorem dX10_plan_115 : decode cX10_plan 115 = .ok (.iadd, 1) := by decide +kernel
theorem dX10_plan_116 : decode cX10_plan 116 = .ok (.istore 5, 2) := by decide +kernel
theorem dX10_plan_118 : decode cX10_plan 118 = .ok (.iload 6, 2) := by decide +kernel
theorem dX10_plan_120 : decode cX10_plan 120 = .ok (.ifCond .eq 30, 3) := by decide +kernel
theorem dX10_plan_123 : decode cX10_plan 123 = .ok (.iload 8, 2) := by decide +kernel
theorem dX10_plan_125 : decode cX10_plan 125 = .ok (.ifCond .eq 21, 3) := by decide +kernel
theorem dX10_plan_128 : decode cX10_plan 128 = .ok (.aload_n 0, 1) := by decide +kernel
theorem dX10_plan_129 : decode cX10_plan 129 = .ok (.iload 7, 2) := by decide +kernel
theorem dX10_plan_131 : decode cX10_plan 131 = .ok (.invokevirtual 160, 3) := by decide +kernel
theorem dX10_plan_134 : decode cX10_plan 134 = .ok (.ifCond .ne 16, 3) := by decide +kernel
theorem dX10_plan_137 : decode cX10_plan 137 = .ok (.aload_n 0, 1) := by decide +kernel
theorem dX10_plan_138 : decode cX10_plan 138 = .ok (.iload 7, 2) := by decide +kernel
theorem dX10_plan_140 : decode cX10_plan 140 = .ok (.invokevirtual 166, 3) := by decide +kernel
theorem dX10_plan_143 : decode cX10_plan 143 = .ok (.ifCond .ne 7, 3) := by decide +kernel
theorem dX10_plan_146 : decode cX10_plan 146 = .ok (.iconst 1, 1) := by decide +kernel
theorem dX10_plan_147 : decode cX10_plan 147 = .ok (.goto 4, 3) := by decide +kernel
theorem dX10_plan_150 : decode cX10_plan 150 = .ok (.iconst 0, 1) := by decide +kernel
theorem dX10_plan_151 : decode cX10_plan 151 = .ok (.istore 6, 2) := by decide +kernel
theorem dX10_plan_153 : decode cX10_plan 153 = .ok (.iinc 7 1, 3) := by decide +kernel
theorem dX10_plan_156 : decode cX10_plan 156 = .ok (.goto (-87), 3) := by decide +kernel
theorem dX10_plan_159 : decode cX10_plan 159 = .ok (.iload 6, 2) := by decide +kernel
theorem dX10_plan_161 : decode cX10_plan 161 = .ok (.ifCond .eq 25, 3) := by decide +kernel
theorem dX10_plan_164 : decode cX10_plan 164 = .ok (.aload_n 0, 1) := by decide +kernel
theorem dX10_plan_165 : decode cX10_plan 165 = .ok (.aload_n 0, 1) := by decide +kernel
theorem dX10_plan_166 : decode cX10_plan 166 = .ok (.getfield 7, 3) := by decide +kernel
theorem dX10_plan_169 : decode cX10_plan 169 = .ok (.bipush 6, 2) := by decide +kernel
theorem dX10_plan_171 : decode cX10_plan 171 = .ok (.iaload, 1) := by decide +kernel
theorem dX10_plan_172 : decode cX10_plan 172 = .ok (.iload 5, 2) := by decide +kernel
theorem dX10_plan_174 : decode cX10_plan 174 = .ok (.invokevirtual 184, 3) := by decide +kernel
theorem dX10_plan_177 : decode cX10_plan 177 = .ok (.iload_n 1, 1) := by decide +kernel
theorem dX10_plan_178 : decode cX10_plan 178 = .ok (.if_icmp .gt 8, 3) := by decide +kernel
theorem dX10_plan_181 : decode cX10_plan 181 = .ok (.iload 4, 2) := by decide +kernel
theorem dX10_plan_183 : decode cX10_plan 183 = .ok (.goto 4, 3) := by decide +kernel
theorem dX10_plan_186 : decode cX10_plan 186 = .ok (.iload_n 3, 1) := by decide +kernel
theorem dX10_plan_187 : decode cX10_plan 187 = .ok (.istore_n 3, 1) := by decide +kernel
theorem dX10_plan_188 : decode cX10_plan 188 = .ok (.iinc 4 1, 3) := by decide +kernel
theorem dX10_plan_191 : decode cX10_plan 191 = .ok (.goto (-166), 3) := by decide +kernel
theorem dX10_plan_194 : decode cX10_plan 194 = .ok (.iload_n 2, 1) := by decide +kernel
theorem dX10_plan_195 : decode cX10_plan 195 = .ok (.iconst 1, 1) := by decide +kernel
theorem dX10_plan_196 : decode cX10_plan 196 = .ok (.if_icmp .eq 9, 3) := by decide +kernel
theorem dX10_plan_199 : decode cX10_plan 199 = .ok (.iload_n 3, 1) := by decide +kernel
theorem dX10_plan_200 : decode cX10_plan 200 = .ok (.bipush (-4), 2) := by decide +kernel
theorem dX10_plan_202 : decode cX10_plan 202 = .ok (.if_icmp .ne 7, 3) := by decide +kernel
theorem dX10_plan_205 : decode cX10_plan 205 = .ok (.iload_n 3, 1) := by decide +kernel
theorem dX10_plan_206 : decode cX10_plan 206 = .ok (.goto 7, 3) := by decide +kernel
theorem dX10_plan_209 : decode cX10_plan 209 = .ok (.iload_n 3, 1) := by decide +kernel
theorem dX10_plan_210 : decode cX10_plan 210 = .ok (.invokestatic 195, 3) := by decide +kernel
theorem dX10_plan_213 : decode cX10_plan 213 = .ok (.ireturn, 1) := by decide +kernel
theorem dX10_best_0 : decode cX10_best 0 = .ok (.aload_n 0, 1) := by decide +kernel
theorem dX10_best_1 : decode cX10_best 1 = .ok (.iload_n 1, 1) := by decide +kernel
theorem dX10_best_2 : decode cX10_best 2 = .ok (.invokevirtual 157, 3) := by decide +kernel
theorem dX10_best_5 : decode cX10_best 5 = .ok (.ifCond .eq 13, 3) := by decide +kernel
theorem dX10_best_8 : decode cX10_best 8 = .ok (.iload_n 2, 1) := by decide +kernel
theorem dX10_best_9 : decode cX10_best 9 = .ok (.i2l, 1) := by decide +kernel
theorem dX10_best_10 : decode cX10_best 10 = .ok (.lconst 0, 1) := by decide +kernel
theorem dX10_best_11 : decode cX10_best 11 = .ok (.lconst 1, 1) := by decide +kernel
theorem dX10_best_12 : decode cX10_best 12 = .ok (.invokestatic 51, 3) := by decide +kernel
theorem dX10_best_15 : decode cX10_best 15 = .ok (.ifCond .ne 5, 3) := by decide +kernel
theorem dX10_best_18 : decode cX10_best 18 = .ok (.iconst (-1), 1) := by decide +kernel
theorem dX10_best_19 : decode cX10_best 19 = .ok (.ireturn, 1) := by decide +kernel
theorem dX10_best_20 : decode cX10_best 20 = .ok (.aload_n 0, 1) := by decide +kernel
theorem dX10_best_21 : decode cX10_best 21 = .ok (.iload_n 1, 1) := by decide +kernel
theorem dX10_best_22 : decode cX10_best 22 = .ok (.invokevirtual 160, 3) := by decide +kernel
theorem dX10_best_25 : decode cX10_best 25 = .ok (.ifCond .eq 6, 3) := by decide +kernel
theorem dX10_best_28 : decode cX10_best 28 = .ok (.bipush (-2), 2) := by decide +kernel
theorem dX10_best_30 : decode cX10_best 30 = .ok (.ireturn, 1) := by decide +kernel
theorem dX10_best_31 : decode cX10_best 31 = .ok (.bipush (-4), 2) := by decide +kernel
theorem dX10_best_33 : decode cX10_best 33 = .ok (.istore_n 3, 1) := by decide +kernel
theorem dX10_best_34 : decode cX10_best 34 = .ok (.bipush (-4), 2) := by decide +kernel
theorem dX10_best_36 : decode cX10_best 36 = .ok (.istore 4, 2) := by decide +kernel
theorem dX10_best_38 : decode cX10_best 38 = .ok (.aload_n 0, 1) := by decide +kernel
theorem dX10_best_39 : decode cX10_best 39 = .ok (.getfield 7, 3) := by decide +kernel
theorem dX10_best_42 : decode cX10_best 42 = .ok (.bipush 6, 2) := by decide +kernel
theorem dX10_best_44 : decode cX10_best 44 = .ok (.iaload, 1) := by decide +kernel
theorem dX10_best_45 : decode cX10_best 45 = .ok (.istore 5, 2) := by decide +kernel
theorem dX10_best_47 : decode cX10_best 47 = .ok (.iload 5, 2) := by decide +kernel
theorem dX10_best_49 : decode cX10_best 49 = .ok (.aload_n 0, 1) := by decide +kernel
theorem dX10_best_50 : decode cX10_best 50 = .ok (.getfield 7, 3) := by decide +kernel
theorem dX10_best_53 : decode cX10_best 53 = .ok (.iconst 3, 1) := by decide +kernel
theorem dX10_best_54 : decode cX10_best 54 = .ok (.iaload, 1) := by decide +kernel
theorem dX10_best_55 : decode cX10_best 55 = .ok (.if_icmp .ge 68, 3) := by decide +kernel
theorem dX10_best_58 : decode cX10_best 58 = .ok (.aload_n 0, 1) := by decide +kernel
theorem dX10_best_59 : decode cX10_best 59 = .ok (.iload 5, 2) := by decide +kernel
theorem dX10_best_61 : decode cX10_best 61 = .ok (.aload_n 0, 1) := by decide +kernel
theorem dX10_best_62 : decode cX10_best 62 = .ok (.iload_n 1, 1) := by decide +kernel
theorem dX10_best_63 : decode cX10_best 63 = .ok (.invokevirtual 163, 3) := by decide +kernel
theorem dX10_best_66 : decode cX10_best 66 = .ok (.invokevirtual 184, 3) := by decide +kernel
theorem dX10_best_69 : decode cX10_best 69 = .ok (.istore 6, 2) := by decide +kernel
theorem dX10_best_71 : decode cX10_best 71 = .ok (.iload_n 3, 1) := by decide +kernel
theorem dX10_best_72 : decode cX10_best 72 = .ok (.bipush (-4), 2) := by decide +kernel
theorem dX10_best_74 : decode cX10_best 74 = .ok (.if_icmp .eq 10, 3) := by decide +kernel
theorem dX10_best_77 : decode cX10_best 77 = .ok (.iload 6, 2) := by decide +kernel
theorem dX10_best_79 : decode cX10_best 79 = .ok (.iload 4, 2) := by decide +kernel
theorem dX10_best_81 : decode cX10_best 81 = .ok (.if_icmp .ge 7, 3) := by decide +kernel
theorem dX10_best_84 : decode cX10_best 84 = .ok (.iconst 1, 1) := by decide +kernel
theorem dX10_best_85 : decode cX10_best 85 = .ok (.goto 4, 3) := by decide +kernel
theorem dX10_best_88 : decode cX10_best 88 = .ok (.iconst 0, 1) := by decide +kernel
theorem dX10_best_89 : decode cX10_best 89 = .ok (.istore 7, 2) := by decide +kernel
theorem dX10_best_91 : decode cX10_best 91 = .ok (.iload 7, 2) := by decide +kernel
theorem dX10_best_93 : decode cX10_best 93 = .ok (.ifCond .eq 8, 3) := by decide +kernel
theorem dX10_best_96 : decode cX10_best 96 = .ok (.iload 5, 2) := by decide +kernel
theorem dX10_best_98 : decode cX10_best 98 = .ok (.goto 4, 3) := by decide +kernel
theorem dX10_best_101 : decode cX10_best 101 = .ok (.iload_n 3, 1) := by decide +kernel
theorem dX10_best_102 : decode cX10_best 102 = .ok (.istore_n 3, 1) := by decide +kernel
theorem dX10_best_103 : decode cX10_best 103 = .ok (.iload 7, 2) := by decide +kernel
theorem dX10_best_105 : decode cX10_best 105 = .ok (.ifCond .eq 8, 3) := by decide +kernel
theorem dX10_best_108 : decode cX10_best 108 = .ok (.iload 6, 2) := by decide +kernel
theorem dX10_best_110 : decode cX10_best 110 = .ok (.goto 5, 3) := by decide +kernel
theorem dX10_best_113 : decode cX10_best 113 = .ok (.iload 4, 2) := by decide +kernel
theorem dX10_best_115 : decode cX10_best 115 = .ok (.istore 4, 2) := by decide +kernel
theorem dX10_best_117 : decode cX10_best 117 = .ok (.iinc 5 1, 3) := by decide +kernel
theorem dX10_best_120 : decode cX10_best 120 = .ok (.goto (-73), 3) := by decide +kernel
theorem dX10_best_123 : decode cX10_best 123 = .ok (.iload_n 2, 1) := by decide +kernel
theorem dX10_best_124 : decode cX10_best 124 = .ok (.ifCond .ne 7, 3) := by decide +kernel
theorem dX10_best_127 : decode cX10_best 127 = .ok (.iload_n 3, 1) := by decide +kernel
theorem dX10_best_128 : decode cX10_best 128 = .ok (.goto 5, 3) := by decide +kernel
theorem dX10_best_131 : decode cX10_best 131 = .ok (.iload 4, 2) := by decide +kernel
theorem dX10_best_133 : decode cX10_best 133 = .ok (.ireturn, 1) := by decide +kernel
theorem dX10_soonest_0 : decode cX10_soonest 0 = .ok (.iload_n 1, 1) := by decide +kernel
theorem dX10_soonest_1 : decode cX10_soonest 1 = .ok (.invokestatic 140, 3) := by decide +kernel
theorem dX10_soonest_4 : decode cX10_soonest 4 = .ok (.ifCond .ne 5, 3) := by decide +kernel
theorem dX10_soonest_7 : decode cX10_soonest 7 = .ok (.iconst (-1), 1) := by decide +kernel
theorem dX10_soonest_8 : decode cX10_soonest 8 = .ok (.ireturn, 1) := by decide +kernel
theorem dX10_soonest_9 : decode cX10_soonest 9 = .ok (.aload_n 0, 1) := by decide +kernel
theorem dX10_soonest_10 : decode cX10_soonest 10 = .ok (.getfield 7, 3) := by decide +kernel
theorem dX10_soonest_13 : decode cX10_soonest 13 = .ok (.bipush 7, 2) := by decide +kernel
theorem dX10_soonest_15 : decode cX10_soonest 15 = .ok (.iaload, 1) := by decide +kernel
theorem dX10_soonest_16 : decode cX10_soonest 16 = .ok (.istore_n 2, 1) := by decide +kernel
theorem dX10_soonest_17 : decode cX10_soonest 17 = .ok (.iconst 0, 1) := by decide +kernel
theorem dX10_soonest_18 : decode cX10_soonest 18 = .ok (.istore_n 3, 1) := by decide +kernel
theorem dX10_soonest_19 : decode cX10_soonest 19 = .ok (.iload_n 3, 1) := by decide +kernel
theorem dX10_soonest_20 : decode cX10_soonest 20 = .ok (.bipush 100, 2) := by decide +kernel
theorem dX10_soonest_22 : decode cX10_soonest 22 = .ok (.if_icmp .ge 43, 3) := by decide +kernel
theorem dX10_soonest_25 : decode cX10_soonest 25 = .ok (.iload_n 2, 1) := by decide +kernel
theorem dX10_soonest_26 : decode cX10_soonest 26 = .ok (.aload_n 0, 1) := by decide +kernel
theorem dX10_soonest_27 : decode cX10_soonest 27 = .ok (.getfield 7, 3) := by decide +kernel
theorem dX10_soonest_30 : decode cX10_soonest 30 = .ok (.iconst 2, 1) := by decide +kernel
theorem dX10_soonest_31 : decode cX10_soonest 31 = .ok (.iaload, 1) := by decide +kernel
theorem dX10_soonest_32 : decode cX10_soonest 32 = .ok (.if_icmp .ne 5, 3) := by decide +kernel
theorem dX10_soonest_35 : decode cX10_soonest 35 = .ok (.iload_n 3, 1) := by decide +kernel
theorem dX10_soonest_36 : decode cX10_soonest 36 = .ok (.ireturn, 1) := by decide +kernel
theorem dX10_soonest_37 : decode cX10_soonest 37 = .ok (.aload_n 0, 1) := by decide +kernel
theorem dX10_soonest_38 : decode cX10_soonest 38 = .ok (.iload_n 1, 1) := by decide +kernel
theorem dX10_soonest_39 : decode cX10_soonest 39 = .ok (.iload_n 2, 1) := by decide +kernel
theorem dX10_soonest_40 : decode cX10_soonest 40 = .ok (.iload_n 3, 1) := by decide +kernel
theorem dX10_soonest_41 : decode cX10_soonest 41 = .ok (.ifCond .ne 13, 3) := by decide +kernel
theorem dX10_soonest_44 : decode cX10_soonest 44 = .ok (.aload_n 0, 1) := by decide +kernel
theorem dX10_soonest_45 : decode cX10_soonest 45 = .ok (.getfield 7, 3) := by decide +kernel
theorem dX10_soonest_48 : decode cX10_soonest 48 = .ok (.bipush 9, 2) := by decide +kernel
theorem dX10_soonest_50 : decode cX10_soonest 50 = .ok (.iaload, 1) := by decide +kernel
theorem dX10_soonest_51 : decode cX10_soonest 51 = .ok (.goto 4, 3) := by decide +kernel
theorem dX10_soonest_54 : decode cX10_soonest 54 = .ok (.iconst 0, 1) := by decide +kernel
theorem dX10_soonest_55 : decode cX10_soonest 55 = .ok (.invokevirtual 137, 3) := by decide +kernel
theorem dX10_soonest_58 : decode cX10_soonest 58 = .ok (.istore_n 2, 1) := by decide +kernel
theorem dX10_soonest_59 : decode cX10_soonest 59 = .ok (.iinc 3 1, 3) := by decide +kernel
theorem dX10_soonest_62 : decode cX10_soonest 62 = .ok (.goto (-43), 3) := by decide +kernel
theorem dX10_soonest_65 : decode cX10_soonest 65 = .ok (.bipush (-4), 2) := by decide +kernel
theorem dX10_soonest_67 : decode cX10_soonest 67 = .ok (.ireturn, 1) := by decide +kernel
theorem dX10_shares_0 : decode cX10_shares 0 = .ok (.iconst 0, 1) := by decide +kernel
theorem dX10_shares_1 : decode cX10_shares 1 = .ok (.istore_n 2, 1) := by decide +kernel
theorem dX10_shares_2 : decode cX10_shares 2 = .ok (.iload_n 2, 1) := by decide +kernel
theorem dX10_shares_3 : decode cX10_shares 3 = .ok (.sipush 201, 3) := by decide +kernel
theorem dX10_shares_6 : decode cX10_shares 6 = .ok (.if_icmp .ge 16, 3) := by decide +kernel
theorem dX10_shares_9 : decode cX10_shares 9 = .ok (.aload_n 0, 1) := by decide +kernel
theorem dX10_shares_10 : decode cX10_shares 10 = .ok (.getfield 32, 3) := by decide +kernel
theorem dX10_shares_13 : decode cX10_shares 13 = .ok (.iload_n 2, 1) := by decide +kernel
theorem dX10_shares_14 : decode cX10_shares 14 = .ok (.iconst 0, 1) := by decide +kernel
theorem dX10_shares_15 : decode cX10_shares 15 = .ok (.iastore, 1) := by decide +kernel
theorem dX10_shares_16 : decode cX10_shares 16 = .ok (.iinc 2 1, 3) := by decide +kernel
theorem dX10_shares_19 : decode cX10_shares 19 = .ok (.goto (-17), 3) := by decide +kernel
theorem dX10_shares_22 : decode cX10_shares 22 = .ok (.iconst 0, 1) := by decide +kernel
theorem dX10_shares_23 : decode cX10_shares 23 = .ok (.istore_n 2, 1) := by decide +kernel
theorem dX10_shares_24 : decode cX10_shares 24 = .ok (.iload_n 2, 1) := by decide +kernel
theorem dX10_shares_25 : decode cX10_shares 25 = .ok (.aload_n 0, 1) := by decide +kernel
theorem dX10_shares_26 : decode cX10_shares 26 = .ok (.getfield 7, 3) := by decide +kernel
theorem dX10_shares_29 : decode cX10_shares 29 = .ok (.iconst 2, 1) := by decide +kernel
theorem dX10_shares_30 : decode cX10_shares 30 = .ok (.iaload, 1) := by decide +kernel
theorem dX10_shares_31 : decode cX10_shares 31 = .ok (.if_icmp .gt 114, 3) := by decide +kernel
theorem dX10_shares_34 : decode cX10_shares 34 = .ok (.iconst 0, 1) := by decide +kernel
theorem dX10_shares_35 : decode cX10_shares 35 = .ok (.istore_n 3, 1) := by decide +kernel
theorem dX10_shares_36 : decode cX10_shares 36 = .ok (.iload_n 3, 1) := by decide +kernel
theorem dX10_shares_37 : decode cX10_shares 37 = .ok (.iconst 3, 1) := by decide +kernel
theorem dX10_shares_38 : decode cX10_shares 38 = .ok (.if_icmp .ge 101, 3) := by decide +kernel
theorem dX10_shares_41 : decode cX10_shares 41 = .ok (.aload_n 0, 1) := by decide +kernel
theorem dX10_shares_42 : decode cX10_shares 42 = .ok (.getfield 29, 3) := by decide +kernel
theorem dX10_shares_45 : decode cX10_shares 45 = .ok (.iload_n 2, 1) := by decide +kernel
theorem dX10_shares_46 : decode cX10_shares 46 = .ok (.iaload, 1) := by decide +kernel
theorem dX10_shares_47 : decode cX10_shares 47 = .ok (.ifCond .le 92, 3) := by decide +kernel
theorem dX10_shares_50 : decode cX10_shares 50 = .ok (.iload_n 3, 1) := by decide +kernel
theorem dX10_shares_51 : decode cX10_shares 51 = .ok (.ifCond .ne 22, 3) := by decide +kernel
theorem dX10_shares_54 : decode cX10_shares 54 = .ok (.bipush 10, 2) := by decide +kernel
theorem dX10_shares_56 : decode cX10_shares 56 = .ok (.aload_n 0, 1) := by decide +kernel
theorem dX10_shares_57 : decode cX10_shares 57 = .ok (.getfield 7, 3) := by decide +kernel
theorem dX10_shares_60 : decode cX10_shares 60 = .ok (.iconst 4, 1) := by decide +kernel
theorem dX10_shares_61 : decode cX10_shares 61 = .ok (.iaload, 1) := by decide +kernel
theorem dX10_shares_62 : decode cX10_shares 62 = .ok (.isub, 1) := by decide +kernel
theorem dX10_shares_63 : decode cX10_shares 63 = .ok (.aload_n 0, 1) := by decide +kernel
theorem dX10_shares_64 : decode cX10_shares 64 = .ok (.getfield 7, 3) := by decide +kernel
theorem dX10_shares_67 : decode cX10_shares 67 = .ok (.iconst 5, 1) := by decide +kernel
theorem dX10_shares_68 : decode cX10_shares 68 = .ok (.iaload, 1) := by decide +kernel
theorem dX10_shares_69 : decode cX10_shares 69 = .ok (.isub, 1) := by decide +kernel
theorem dX10_shares_70 : decode cX10_shares 70 = .ok (.goto 23, 3) := by decide +kernel
theorem dX10_shares_73 : decode cX10_shares 73 = .ok (.iload_n 3, 1) := by decide +kernel
theorem dX10_shares_74 : decode cX10_shares 74 = .ok (.iconst 1, 1) := by decide +kernel
theorem dX10_shares_75 : decode cX10_shares 75 = .ok (.if_icmp .ne 12, 3) := by decide +kernel
theorem dX10_shares_78 : decode cX10_shares 78 = .ok (.aload_n 0, 1) := by decide +kernel
theorem dX10_shares_79 : decode cX10_shares 79 = .ok (.getfield 7, 3) := by decide +kernel
theorem dX10_shares_82 : decode cX10_shares 82 = .ok (.iconst 4, 1) := by decide +kernel
theorem dX10_shares_83 : decode cX10_shares 83 = .ok (.iaload, 1) := by decide +kernel
theorem dX10_shares_84 : decode cX10_shares 84 = .ok (.goto 9, 3) := by decide +kernel
theorem dX10_shares_87 : decode cX10_shares 87 = .ok (.aload_n 0, 1) := by decide +kernel
theorem dX10_shares_88 : decode cX10_shares 88 = .ok (.getfield 7, 3) := by decide +kernel
theorem dX10_shares_91 : decode cX10_shares 91 = .ok (.iconst 5, 1) := by decide +kernel
theorem dX10_shares_92 : decode cX10_shares 92 = .ok (.iaload, 1) := by decide +kernel
theorem dX10_shares_93 : decode cX10_shares 93 = .ok (.istore 4, 2) := by decide +kernel
theorem dX10_shares_95 : decode cX10_shares 95 = .ok (.aload_n 0, 1) := by decide +kernel
theorem dX10_shares_96 : decode cX10_shares 96 = .ok (.getfield 32, 3) := by decide +kernel
theorem dX10_shares_99 : decode cX10_shares 99 = .ok (.aload_n 0, 1) := by decide +kernel
theorem dX10_shares_100 : decode cX10_shares 100 = .ok (.iload_n 3, 1) := by decide +kernel
theorem dX10_shares_101 : decode cX10_shares 101 = .ok (.iload_n 2, 1) := by decide +kernel
theorem dX10_shares_102 : decode cX10_shares 102 = .ok (.iload_n 1, 1) := by decide +kernel
theorem dX10_shares_103 : decode cX10_shares 103 = .ok (.ifCond .ne 13, 3) := by decide +kernel
theorem dX10_shares_106 : decode cX10_shares 106 = .ok (.aload_n 0, 1) := by decide +kernel
theorem dX10_shares_107 : decode cX10_shares 107 = .ok (.getfield 7, 3) := by decide +kernel
theorem dX10_shares_110 : decode cX10_shares 110 = .ok (.bipush 9, 2) := by decide +kernel
theorem dX10_shares_112 : decode cX10_shares 112 = .ok (.iaload, 1) := by decide +kernel
theorem dX10_shares_113 : decode cX10_shares 113 = .ok (.goto 4, 3) := by decide +kernel
theorem dX10_shares_116 : decode cX10_shares 116 = .ok (.iconst 0, 1) := by decide +kernel
theorem dX10_shares_117 : decode cX10_shares 117 = .ok (.invokevirtual 137, 3) := by decide +kernel
theorem dX10_shares_120 : decode cX10_shares 120 = .ok (.dup2, 1) := by decide +kernel
theorem dX10_shares_121 : decode cX10_shares 121 = .ok (.iaload, 1) := by decide +kernel
theorem dX10_shares_122 : decode cX10_shares 122 = .ok (.aload_n 0, 1) := by decide +kernel
theorem dX10_shares_123 : decode cX10_shares 123 = .ok (.getfield 29, 3) := by decide +kernel
theorem dX10_shares_126 : decode cX10_shares 126 = .ok (.iload_n 2, 1) := by decide +kernel
theorem dX10_shares_127 : decode cX10_shares 127 = .ok (.iaload, 1) := by decide +kernel
theorem dX10_shares_128 : decode cX10_shares 128 = .ok (.iload 4, 2) := by decide +kernel
theorem dX10_shares_130 : decode cX10_shares 130 = .ok (.imul, 1) := by decide +kernel
theorem dX10_shares_131 : decode cX10_shares 131 = .ok (.iadd, 1) := by decide +kernel
theorem dX10_shares_132 : decode cX10_shares 132 = .ok (.iastore, 1) := by decide +kernel
theorem dX10_shares_133 : decode cX10_shares 133 = .ok (.iinc 3 1, 3) := by decide +kernel
theorem dX10_shares_136 : decode cX10_shares 136 = .ok (.goto (-100), 3) := by decide +kernel
theorem dX10_shares_139 : decode cX10_shares 139 = .ok (.iinc 2 1, 3) := by decide +kernel
theorem dX10_shares_142 : decode cX10_shares 142 = .ok (.goto (-118), 3) := by decide +kernel
theorem dX10_shares_145 : decode cX10_shares 145 = .ok (.iconst 0, 1) := by decide +kernel
theorem dX10_shares_146 : decode cX10_shares 146 = .ok (.istore_n 2, 1) := by decide +kernel
theorem dX10_shares_147 : decode cX10_shares 147 = .ok (.iload_n 2, 1) := by decide +kernel
theorem dX10_shares_148 : decode cX10_shares 148 = .ok (.sipush 201, 3) := by decide +kernel
theorem dX10_shares_151 : decode cX10_shares 151 = .ok (.if_icmp .ge 21, 3) := by decide +kernel
theorem dX10_shares_154 : decode cX10_shares 154 = .ok (.aload_n 0, 1) := by decide +kernel
theorem dX10_shares_155 : decode cX10_shares 155 = .ok (.getfield 29, 3) := by decide +kernel
theorem dX10_shares_158 : decode cX10_shares 158 = .ok (.iload_n 2, 1) := by decide +kernel
theorem dX10_shares_159 : decode cX10_shares 159 = .ok (.aload_n 0, 1) := by decide +kernel
theorem dX10_shares_160 : decode cX10_shares 160 = .ok (.getfield 32, 3) := by decide +kernel
theorem dX10_shares_163 : decode cX10_shares 163 = .ok (.iload_n 2, 1) := by decide +kernel
theorem dX10_shares_164 : decode cX10_shares 164 = .ok (.iaload, 1) := by decide +kernel
theorem dX10_shares_165 : decode cX10_shares 165 = .ok (.iastore, 1) := by decide +kernel
theorem dX10_shares_166 : decode cX10_shares 166 = .ok (.iinc 2 1, 3) := by decide +kernel
theorem dX10_shares_169 : decode cX10_shares 169 = .ok (.goto (-22), 3) := by decide +kernel
theorem dX10_shares_172 : decode cX10_shares 172 = .ok (.return_, 1) := by decide +kernel
theorem dX10_mean_0 : decode cX10_mean 0 = .ok (.iload_n 1, 1) := by decide +kernel
theorem dX10_mean_1 : decode cX10_mean 1 = .ok (.i2l, 1) := by decide +kernel
theorem dX10_mean_2 : decode cX10_mean 2 = .ok (.lconst 0, 1) := by decide +kernel
theorem dX10_mean_3 : decode cX10_mean 3 = .ok (.ldc2_w 79, 3) := by decide +kernel
theorem dX10_mean_6 : decode cX10_mean 6 = .ok (.invokestatic 51, 3) := by decide +kernel
theorem dX10_mean_9 : decode cX10_mean 9 = .ok (.ifCond .eq 31, 3) := by decide +kernel
theorem dX10_mean_12 : decode cX10_mean 12 = .ok (.iload_n 1, 1) := by decide +kernel
theorem dX10_mean_13 : decode cX10_mean 13 = .ok (.aload_n 0, 1) := by decide +kernel
theorem dX10_mean_14 : decode cX10_mean 14 = .ok (.getfield 7, 3) := by decide +kernel
theorem dX10_mean_17 : decode cX10_mean 17 = .ok (.iconst 3, 1) := by decide +kernel
theorem dX10_mean_18 : decode cX10_mean 18 = .ok (.iaload, 1) := by decide +kernel
theorem dX10_mean_19 : decode cX10_mean 19 = .ok (.aload_n 0, 1) := by decide +kernel
theorem dX10_mean_20 : decode cX10_mean 20 = .ok (.getfield 7, 3) := by decide +kernel
theorem dX10_mean_23 : decode cX10_mean 23 = .ok (.bipush 6, 2) := by decide +kernel
theorem dX10_mean_25 : decode cX10_mean 25 = .ok (.iaload, 1) := by decide +kernel
theorem dX10_mean_26 : decode cX10_mean 26 = .ok (.isub, 1) := by decide +kernel
theorem dX10_mean_27 : decode cX10_mean 27 = .ok (.if_icmp .gt 13, 3) := by decide +kernel
theorem dX10_mean_30 : decode cX10_mean 30 = .ok (.iload_n 2, 1) := by decide +kernel
theorem dX10_mean_31 : decode cX10_mean 31 = .ok (.i2l, 1) := by decide +kernel
theorem dX10_mean_32 : decode cX10_mean 32 = .ok (.lconst 0, 1) := by decide +kernel
theorem dX10_mean_33 : decode cX10_mean 33 = .ok (.lconst 1, 1) := by decide +kernel
theorem dX10_mean_34 : decode cX10_mean 34 = .ok (.invokestatic 51, 3) := by decide +kernel
theorem dX10_mean_37 : decode cX10_mean 37 = .ok (.ifCond .ne 5, 3) := by decide +kernel
theorem dX10_mean_40 : decode cX10_mean 40 = .ok (.iconst (-1), 1) := by decide +kernel
theorem dX10_mean_41 : decode cX10_mean 41 = .ok (.ireturn, 1) := by decide +kernel
theorem dX10_mean_42 : decode cX10_mean 42 = .ok (.iconst 0, 1) := by decide +kernel
theorem dX10_mean_43 : decode cX10_mean 43 = .ok (.istore_n 3, 1) := by decide +kernel
theorem dX10_mean_44 : decode cX10_mean 44 = .ok (.iload_n 3, 1) := by decide +kernel
theorem dX10_mean_45 : decode cX10_mean 45 = .ok (.sipush 201, 3) := by decide +kernel
theorem dX10_mean_48 : decode cX10_mean 48 = .ok (.if_icmp .ge 31, 3) := by decide +kernel
theorem dX10_mean_51 : decode cX10_mean 51 = .ok (.aload_n 0, 1) := by decide +kernel
theorem dX10_mean_52 : decode cX10_mean 52 = .ok (.getfield 29, 3) := by decide +kernel
theorem dX10_mean_55 : decode cX10_mean 55 = .ok (.iload_n 3, 1) := by decide +kernel
theorem dX10_mean_56 : decode cX10_mean 56 = .ok (.iload_n 3, 1) := by decide +kernel
theorem dX10_mean_57 : decode cX10_mean 57 = .ok (.aload_n 0, 1) := by decide +kernel
theorem dX10_mean_58 : decode cX10_mean 58 = .ok (.getfield 7, 3) := by decide +kernel
theorem dX10_mean_61 : decode cX10_mean 61 = .ok (.bipush 7, 2) := by decide +kernel
theorem dX10_mean_63 : decode cX10_mean 63 = .ok (.iaload, 1) := by decide +kernel
theorem dX10_mean_64 : decode cX10_mean 64 = .ok (.if_icmp .ne 7, 3) := by decide +kernel
theorem dX10_mean_67 : decode cX10_mean 67 = .ok (.iconst 1, 1) := by decide +kernel
theorem dX10_mean_68 : decode cX10_mean 68 = .ok (.goto 4, 3) := by decide +kernel
theorem dX10_mean_71 : decode cX10_mean 71 = .ok (.iconst 0, 1) := by decide +kernel
theorem dX10_mean_72 : decode cX10_mean 72 = .ok (.iastore, 1) := by decide +kernel
theorem dX10_mean_73 : decode cX10_mean 73 = .ok (.iinc 3 1, 3) := by decide +kernel
theorem dX10_mean_76 : decode cX10_mean 76 = .ok (.goto (-32), 3) := by decide +kernel
theorem dX10_mean_79 : decode cX10_mean 79 = .ok (.iconst 1, 1) := by decide +kernel
theorem dX10_mean_80 : decode cX10_mean 80 = .ok (.istore_n 3, 1) := by decide +kernel
theorem dX10_mean_81 : decode cX10_mean 81 = .ok (.iconst 0, 1) := by decide +kernel
theorem dX10_mean_82 : decode cX10_mean 82 = .ok (.istore 4, 2) := by decide +kernel
theorem dX10_mean_84 : decode cX10_mean 84 = .ok (.iload 4, 2) := by decide +kernel
theorem dX10_mean_86 : decode cX10_mean 86 = .ok (.iload_n 1, 1) := by decide +kernel
theorem dX10_mean_87 : decode cX10_mean 87 = .ok (.if_icmp .ge 20, 3) := by decide +kernel
theorem dX10_mean_90 : decode cX10_mean 90 = .ok (.aload_n 0, 1) := by decide +kernel
theorem dX10_mean_91 : decode cX10_mean 91 = .ok (.iload 4, 2) := by decide +kernel
theorem dX10_mean_93 : decode cX10_mean 93 = .ok (.invokevirtual 198, 3) := by decide +kernel
theorem dX10_mean_96 : decode cX10_mean 96 = .ok (.iload_n 3, 1) := by decide +kernel
theorem dX10_mean_97 : decode cX10_mean 97 = .ok (.bipush 10, 2) := by decide +kernel
theorem dX10_mean_99 : decode cX10_mean 99 = .ok (.imul, 1) := by decide +kernel
theorem dX10_mean_100 : decode cX10_mean 100 = .ok (.istore_n 3, 1) := by decide +kernel
theorem dX10_mean_101 : decode cX10_mean 101 = .ok (.iinc 4 1, 3) := by decide +kernel
theorem dX10_mean_104 : decode cX10_mean 104 = .ok (.goto (-20), 3) := by decide +kernel
theorem dX10_mean_107 : decode cX10_mean 107 = .ok (.iconst 0, 1) := by decide +kernel
theorem dX10_mean_108 : decode cX10_mean 108 = .ok (.istore 4, 2) := by decide +kernel
theorem dX10_mean_110 : decode cX10_mean 110 = .ok (.iconst 0, 1) := by decide +kernel
theorem dX10_mean_111 : decode cX10_mean 111 = .ok (.istore 5, 2) := by decide +kernel
theorem dX10_mean_113 : decode cX10_mean 113 = .ok (.iload 5, 2) := by decide +kernel
theorem dX10_mean_115 : decode cX10_mean 115 = .ok (.sipush 201, 3) := by decide +kernel
theorem dX10_mean_118 : decode cX10_mean 118 = .ok (.if_icmp .ge 24, 3) := by decide +kernel
theorem dX10_mean_121 : decode cX10_mean 121 = .ok (.iload 4, 2) := by decide +kernel
theorem dX10_mean_123 : decode cX10_mean 123 = .ok (.iload 5, 2) := by decide +kernel
theorem dX10_mean_125 : decode cX10_mean 125 = .ok (.aload_n 0, 1) := by decide +kernel
theorem dX10_mean_126 : decode cX10_mean 126 = .ok (.getfield 29, 3) := by decide +kernel
theorem dX10_mean_129 : decode cX10_mean 129 = .ok (.iload 5, 2) := by decide +kernel
theorem dX10_mean_131 : decode cX10_mean 131 = .ok (.iaload, 1) := by decide +kernel
theorem dX10_mean_132 : decode cX10_mean 132 = .ok (.imul, 1) := by decide +kernel
theorem dX10_mean_133 : decode cX10_mean 133 = .ok (.iadd, 1) := by decide +kernel
theorem dX10_mean_134 : decode cX10_mean 134 = .ok (.istore 4, 2) := by decide +kernel
theorem dX10_mean_136 : decode cX10_mean 136 = .ok (.iinc 5 1, 3) := by decide +kernel
theorem dX10_mean_139 : decode cX10_mean 139 = .ok (.goto (-26), 3) := by decide +kernel
theorem dX10_mean_142 : decode cX10_mean 142 = .ok (.iload 4, 2) := by decide +kernel
theorem dX10_mean_144 : decode cX10_mean 144 = .ok (.istore 5, 2) := by decide +kernel
theorem dX10_mean_146 : decode cX10_mean 146 = .ok (.iload_n 3, 1) := by decide +kernel
theorem dX10_mean_147 : decode cX10_mean 147 = .ok (.istore 6, 2) := by decide +kernel
theorem dX10_mean_149 : decode cX10_mean 149 = .ok (.iload 6, 2) := by decide +kernel
theorem dX10_mean_151 : decode cX10_mean 151 = .ok (.ifCond .eq 21, 3) := by decide +kernel
theorem dX10_mean_154 : decode cX10_mean 154 = .ok (.iload 5, 2) := by decide +kernel
theorem dX10_mean_156 : decode cX10_mean 156 = .ok (.iload 6, 2) := by decide +kernel
theorem dX10_mean_158 : decode cX10_mean 158 = .ok (.irem, 1) := by decide +kernel
theorem dX10_mean_159 : decode cX10_mean 159 = .ok (.istore 7, 2) := by decide +kernel
theorem dX10_mean_161 : decode cX10_mean 161 = .ok (.iload 6, 2) := by decide +kernel
theorem dX10_mean_163 : decode cX10_mean 163 = .ok (.istore 5, 2) := by decide +kernel
theorem dX10_mean_165 : decode cX10_mean 165 = .ok (.iload 7, 2) := by decide +kernel
theorem dX10_mean_167 : decode cX10_mean 167 = .ok (.istore 6, 2) := by decide +kernel
theorem dX10_mean_169 : decode cX10_mean 169 = .ok (.goto (-20), 3) := by decide +kernel
theorem dX10_mean_172 : decode cX10_mean 172 = .ok (.iload_n 2, 1) := by decide +kernel
theorem dX10_mean_173 : decode cX10_mean 173 = .ok (.ifCond .ne 11, 3) := by decide +kernel
theorem dX10_mean_176 : decode cX10_mean 176 = .ok (.iload 4, 2) := by decide +kernel
theorem dX10_mean_178 : decode cX10_mean 178 = .ok (.iload 5, 2) := by decide +kernel
theorem dX10_mean_180 : decode cX10_mean 180 = .ok (.idiv, 1) := by decide +kernel
theorem dX10_mean_181 : decode cX10_mean 181 = .ok (.goto 7, 3) := by decide +kernel
theorem dX10_mean_184 : decode cX10_mean 184 = .ok (.iload_n 3, 1) := by decide +kernel
theorem dX10_mean_185 : decode cX10_mean 185 = .ok (.iload 5, 2) := by decide +kernel
theorem dX10_mean_187 : decode cX10_mean 187 = .ok (.idiv, 1) := by decide +kernel
theorem dX10_mean_188 : decode cX10_mean 188 = .ok (.ireturn, 1) := by decide +kernel
theorem dX10_image_0 : decode cX10_image 0 = .ok (.iconst 0, 1) := by decide +kernel
theorem dX10_image_1 : decode cX10_image 1 = .ok (.istore_n 1, 1) := by decide +kernel
theorem dX10_image_2 : decode cX10_image 2 = .ok (.iload_n 1, 1) := by decide +kernel
theorem dX10_image_3 : decode cX10_image 3 = .ok (.bipush 37, 2) := by decide +kernel
theorem dX10_image_5 : decode cX10_image 5 = .ok (.if_icmp .ge 21, 3) := by decide +kernel
theorem dX10_image_8 : decode cX10_image 8 = .ok (.aload_n 0, 1) := by decide +kernel
theorem dX10_image_9 : decode cX10_image 9 = .ok (.getfield 35, 3) := by decide +kernel
theorem dX10_image_12 : decode cX10_image 12 = .ok (.iload_n 1, 1) := by decide +kernel
theorem dX10_image_13 : decode cX10_image 13 = .ok (.aload_n 0, 1) := by decide +kernel
theorem dX10_image_14 : decode cX10_image 14 = .ok (.getfield 7, 3) := by decide +kernel
theorem dX10_image_17 : decode cX10_image 17 = .ok (.iload_n 1, 1) := by decide +kernel
theorem dX10_image_18 : decode cX10_image 18 = .ok (.iaload, 1) := by decide +kernel
theorem dX10_image_19 : decode cX10_image 19 = .ok (.iastore, 1) := by decide +kernel
theorem dX10_image_20 : decode cX10_image 20 = .ok (.iinc 1 1, 3) := by decide +kernel
theorem dX10_image_23 : decode cX10_image 23 = .ok (.goto (-21), 3) := by decide +kernel
theorem dX10_image_26 : decode cX10_image 26 = .ok (.iconst 0, 1) := by decide +kernel
theorem dX10_image_27 : decode cX10_image 27 = .ok (.istore_n 1, 1) := by decide +kernel
theorem dX10_image_28 : decode cX10_image 28 = .ok (.iload_n 1, 1) := by decide +kernel
theorem dX10_image_29 : decode cX10_image 29 = .ok (.bipush 48, 2) := by decide +kernel
theorem dX10_image_31 : decode cX10_image 31 = .ok (.if_icmp .ge 24, 3) := by decide +kernel
theorem dX10_image_34 : decode cX10_image 34 = .ok (.aload_n 0, 1) := by decide +kernel
theorem dX10_image_35 : decode cX10_image 35 = .ok (.getfield 35, 3) := by decide +kernel
theorem dX10_image_38 : decode cX10_image 38 = .ok (.bipush 37, 2) := by decide +kernel
theorem dX10_image_40 : decode cX10_image 40 = .ok (.iload_n 1, 1) := by decide +kernel
theorem dX10_image_41 : decode cX10_image 41 = .ok (.iadd, 1) := by decide +kernel
theorem dX10_image_42 : decode cX10_image 42 = .ok (.aload_n 0, 1) := by decide +kernel
theorem dX10_image_43 : decode cX10_image 43 = .ok (.getfield 23, 3) := by decide +kernel
theorem dX10_image_46 : decode cX10_image 46 = .ok (.iload_n 1, 1) := by decide +kernel
theorem dX10_image_47 : decode cX10_image 47 = .ok (.iaload, 1) := by decide +kernel
theorem dX10_image_48 : decode cX10_image 48 = .ok (.iastore, 1) := by decide +kernel
theorem dX10_image_49 : decode cX10_image 49 = .ok (.iinc 1 1, 3) := by decide +kernel
theorem dX10_image_52 : decode cX10_image 52 = .ok (.goto (-24), 3) := by decide +kernel
theorem dX10_image_55 : decode cX10_image 55 = .ok (.aload_n 0, 1) := by decide +kernel
theorem dX10_image_56 : decode cX10_image 56 = .ok (.aload_n 0, 1) := by decide +kernel
theorem dX10_image_57 : decode cX10_image 57 = .ok (.getfield 72, 3) := by decide +kernel
theorem dX10_image_60 : decode cX10_image 60 = .ok (.putfield 201, 3) := by decide +kernel
theorem dX10_image_63 : decode cX10_image 63 = .ok (.aload_n 0, 1) := by decide +kernel
theorem dX10_image_64 : decode cX10_image 64 = .ok (.iconst 1, 1) := by decide +kernel
theorem dX10_image_65 : decode cX10_image 65 = .ok (.putfield 204, 3) := by decide +kernel
theorem dX10_image_68 : decode cX10_image 68 = .ok (.iconst 1, 1) := by decide +kernel
theorem dX10_image_69 : decode cX10_image 69 = .ok (.ireturn, 1) := by decide +kernel
theorem dX10_restore_0 : decode cX10_restore 0 = .ok (.aload_n 0, 1) := by decide +kernel
theorem dX10_restore_1 : decode cX10_restore 1 = .ok (.getfield 204, 3) := by decide +kernel
theorem dX10_restore_4 : decode cX10_restore 4 = .ok (.ifCond .ne 6, 3) := by decide +kernel
theorem dX10_restore_7 : decode cX10_restore 7 = .ok (.bipush (-4), 2) := by decide +kernel
theorem dX10_restore_9 : decode cX10_restore 9 = .ok (.ireturn, 1) := by decide +kernel
theorem dX10_restore_10 : decode cX10_restore 10 = .ok (.iconst 0, 1) := by decide +kernel
theorem dX10_restore_11 : decode cX10_restore 11 = .ok (.istore_n 1, 1) := by decide +kernel
theorem dX10_restore_12 : decode cX10_restore 12 = .ok (.iload_n 1, 1) := by decide +kernel
theorem dX10_restore_13 : decode cX10_restore 13 = .ok (.bipush 37, 2) := by decide +kernel
theorem dX10_restore_15 : decode cX10_restore 15 = .ok (.if_icmp .ge 21, 3) := by decide +kernel
theorem dX10_restore_18 : decode cX10_restore 18 = .ok (.aload_n 0, 1) := by decide +kernel
theorem dX10_restore_19 : decode cX10_restore 19 = .ok (.getfield 7, 3) := by decide +kernel
theorem dX10_restore_22 : decode cX10_restore 22 = .ok (.iload_n 1, 1) := by decide +kernel
theorem dX10_restore_23 : decode cX10_restore 23 = .ok (.aload_n 0, 1) := by decide +kernel
theorem dX10_restore_24 : decode cX10_restore 24 = .ok (.getfield 35, 3) := by decide +kernel
theorem dX10_restore_27 : decode cX10_restore 27 = .ok (.iload_n 1, 1) := by decide +kernel
theorem dX10_restore_28 : decode cX10_restore 28 = .ok (.iaload, 1) := by decide +kernel
theorem dX10_restore_29 : decode cX10_restore 29 = .ok (.iastore, 1) := by decide +kernel
theorem dX10_restore_30 : decode cX10_restore 30 = .ok (.iinc 1 1, 3) := by decide +kernel
theorem dX10_restore_33 : decode cX10_restore 33 = .ok (.goto (-21), 3) := by decide +kernel
theorem dX10_restore_36 : decode cX10_restore 36 = .ok (.iconst 0, 1) := by decide +kernel
theorem dX10_restore_37 : decode cX10_restore 37 = .ok (.istore_n 1, 1) := by decide +kernel
theorem dX10_restore_38 : decode cX10_restore 38 = .ok (.iload_n 1, 1) := by decide +kernel
theorem dX10_restore_39 : decode cX10_restore 39 = .ok (.bipush 48, 2) := by decide +kernel
theorem dX10_restore_41 : decode cX10_restore 41 = .ok (.if_icmp .ge 24, 3) := by decide +kernel
theorem dX10_restore_44 : decode cX10_restore 44 = .ok (.aload_n 0, 1) := by decide +kernel
theorem dX10_restore_45 : decode cX10_restore 45 = .ok (.getfield 23, 3) := by decide +kernel
theorem dX10_restore_48 : decode cX10_restore 48 = .ok (.iload_n 1, 1) := by decide +kernel
theorem dX10_restore_49 : decode cX10_restore 49 = .ok (.aload_n 0, 1) := by decide +kernel
theorem dX10_restore_50 : decode cX10_restore 50 = .ok (.getfield 35, 3) := by decide +kernel
theorem dX10_restore_53 : decode cX10_restore 53 = .ok (.bipush 37, 2) := by decide +kernel
theorem dX10_restore_55 : decode cX10_restore 55 = .ok (.iload_n 1, 1) := by decide +kernel
theorem dX10_restore_56 : decode cX10_restore 56 = .ok (.iadd, 1) := by decide +kernel
theorem dX10_restore_57 : decode cX10_restore 57 = .ok (.iaload, 1) := by decide +kernel
theorem dX10_restore_58 : decode cX10_restore 58 = .ok (.iastore, 1) := by decide +kernel
theorem dX10_restore_59 : decode cX10_restore 59 = .ok (.iinc 1 1, 3) := by decide +kernel
theorem dX10_restore_62 : decode cX10_restore 62 = .ok (.goto (-24), 3) := by decide +kernel
theorem dX10_restore_65 : decode cX10_restore 65 = .ok (.aload_n 0, 1) := by decide +kernel
theorem dX10_restore_66 : decode cX10_restore 66 = .ok (.aload_n 0, 1) := by decide +kernel
theorem dX10_restore_67 : decode cX10_restore 67 = .ok (.getfield 201, 3) := by decide +kernel
theorem dX10_restore_70 : decode cX10_restore 70 = .ok (.putfield 72, 3) := by decide +kernel
theorem dX10_restore_73 : decode cX10_restore 73 = .ok (.iconst 1, 1) := by decide +kernel
theorem dX10_restore_74 : decode cX10_restore 74 = .ok (.ireturn, 1) := by decide +kernel
theorem dX10_isSheet_0 : decode cX10_isSheet 0 = .ok (.iload_n 0, 1) := by decide +kernel
theorem dX10_isSheet_1 : decode cX10_isSheet 1 = .ok (.i2l, 1) := by decide +kernel
theorem dX10_isSheet_2 : decode cX10_isSheet 2 = .ok (.lconst 0, 1) := by decide +kernel
theorem dX10_isSheet_3 : decode cX10_isSheet 3 = .ok (.ldc2_w 87, 3) := by decide +kernel
theorem dX10_isSheet_6 : decode cX10_isSheet 6 = .ok (.invokestatic 51, 3) := by decide +kernel
theorem dX10_isSheet_9 : decode cX10_isSheet 9 = .ok (.ireturn, 1) := by decide +kernel
theorem dX10_isLane_0 : decode cX10_isLane 0 = .ok (.iload_n 0, 1) := by decide +kernel
theorem dX10_isLane_1 : decode cX10_isLane 1 = .ok (.i2l, 1) := by decide +kernel
theorem dX10_isLane_2 : decode cX10_isLane 2 = .ok (.lconst 0, 1) := by decide +kernel
theorem dX10_isLane_3 : decode cX10_isLane 3 = .ok (.ldc2_w 87, 3) := by decide +kernel
theorem dX10_isLane_6 : decode cX10_isLane 6 = .ok (.invokestatic 51, 3) := by decide +kernel
theorem dX10_isLane_9 : decode cX10_isLane 9 = .ok (.ireturn, 1) := by decide +kernel
theorem dX10_why_0 : decode cX10_why 0 = .ok (.aload_n 0, 1) := by decide +kernel
theorem dX10_why_1 : decode cX10_why 1 = .ok (.getfield 38, 3) := by decide +kernel
theorem dX10_why_4 : decode cX10_why 4 = .ok (.iload_n 1, 1) := by decide +kernel
theorem dX10_why_5 : decode cX10_why 5 = .ok (.iaload, 1) := by decide +kernel
theorem dX10_why_6 : decode cX10_why 6 = .ok (.ifCond .ge 6, 3) := by decide +kernel
theorem dX10_why_9 : decode cX10_why 9 = .ok (.bipush (-11), 2) := by decide +kernel
theorem dX10_why_11 : decode cX10_why 11 = .ok (.ireturn, 1) := by decide +kernel
theorem dX10_why_12 : decode cX10_why 12 = .ok (.aload_n 0, 1) := by decide +kernel
theorem dX10_why_13 : decode cX10_why 13 = .ok (.getfield 38, 3) := by decide +kernel
theorem dX10_why_16 : decode cX10_why 16 = .ok (.iload_n 1, 1) := by decide +kernel
theorem dX10_why_17 : decode cX10_why 17 = .ok (.iaload, 1) := by decide +kernel
theorem dX10_why_18 : decode cX10_why 18 = .ok (.iload_n 2, 1) := by decide +kernel
theorem dX10_why_19 : decode cX10_why 19 = .ok (.if_icmp .eq 6, 3) := by decide +kernel
theorem dX10_why_22 : decode cX10_why 22 = .ok (.bipush (-12), 2) := by decide +kernel
theorem dX10_why_24 : decode cX10_why 24 = .ok (.ireturn, 1) := by decide +kernel
theorem dX10_why_25 : decode cX10_why 25 = .ok (.iload_n 3, 1) := by decide +kernel
theorem dX10_why_26 : decode cX10_why 26 = .ok (.ifCond .lt 25, 3) := by decide +kernel
theorem dX10_why_29 : decode cX10_why 29 = .ok (.iload 4, 2) := by decide +kernel
theorem dX10_why_31 : decode cX10_why 31 = .ok (.ifCond .lt 20, 3) := by decide +kernel
theorem dX10_why_34 : decode cX10_why 34 = .ok (.iload_n 3, 1) := by decide +kernel
theorem dX10_why_35 : decode cX10_why 35 = .ok (.i2l, 1) := by decide +kernel
theorem dX10_why_36 : decode cX10_why 36 = .ok (.iload 4, 2) := by decide +kernel
theorem dX10_why_38 : decode cX10_why 38 = .ok (.i2l, 1) := by decide +kernel
theorem dX10_why_39 : decode cX10_why 39 = .ok (.ladd, 1) := by decide +kernel
theorem dX10_why_40 : decode cX10_why 40 = .ok (.aload_n 0, 1) := by decide +kernel
theorem dX10_why_41 : decode cX10_why 41 = .ok (.getfield 41, 3) := by decide +kernel
theorem dX10_why_44 : decode cX10_why 44 = .ok (.iload_n 1, 1) := by decide +kernel
theorem dX10_why_45 : decode cX10_why 45 = .ok (.iaload, 1) := by decide +kernel
theorem dX10_why_46 : decode cX10_why 46 = .ok (.i2l, 1) := by decide +kernel
theorem dX10_why_47 : decode cX10_why 47 = .ok (.lcmp, 1) := by decide +kernel
theorem dX10_why_48 : decode cX10_why 48 = .ok (.ifCond .le 8, 3) := by decide +kernel
theorem dX10_why_51 : decode cX10_why 51 = .ok (.bipush (-13), 2) := by decide +kernel
theorem dX10_why_53 : decode cX10_why 53 = .ok (.goto 4, 3) := by decide +kernel
theorem dX10_why_56 : decode cX10_why 56 = .ok (.iconst 0, 1) := by decide +kernel
theorem dX10_why_57 : decode cX10_why 57 = .ok (.ireturn, 1) := by decide +kernel
theorem dX10_weather_0 : decode cX10_weather 0 = .ok (.iload_n 1, 1) := by decide +kernel
theorem dX10_weather_1 : decode cX10_weather 1 = .ok (.invokestatic 207, 3) := by decide +kernel
theorem dX10_weather_4 : decode cX10_weather 4 = .ok (.ifCond .eq 40, 3) := by decide +kernel
theorem dX10_weather_7 : decode cX10_weather 7 = .ok (.iload_n 2, 1) := by decide +kernel
theorem dX10_weather_8 : decode cX10_weather 8 = .ok (.invokestatic 210, 3) := by decide +kernel
theorem dX10_weather_11 : decode cX10_weather 11 = .ok (.ifCond .eq 33, 3) := by decide +kernel
theorem dX10_weather_14 : decode cX10_weather 14 = .ok (.iload 4, 2) := by decide +kernel
theorem dX10_weather_16 : decode cX10_weather 16 = .ok (.i2l, 1) := by decide +kernel
theorem dX10_weather_17 : decode cX10_weather 17 = .ok (.lconst 1, 1) := by decide +kernel
theorem dX10_weather_18 : decode cX10_weather 18 = .ok (.ldc2_w 213, 3) := by decide +kernel
theorem dX10_weather_21 : decode cX10_weather 21 = .ok (.invokestatic 51, 3) := by decide +kernel
theorem dX10_weather_24 : decode cX10_weather 24 = .ok (.ifCond .eq 20, 3) := by decide +kernel
theorem dX10_weather_27 : decode cX10_weather 27 = .ok (.iload 5, 2) := by decide +kernel
theorem dX10_weather_29 : decode cX10_weather 29 = .ok (.i2l, 1) := by decide +kernel
theorem dX10_weather_30 : decode cX10_weather 30 = .ok (.ldc2_w 215, 3) := by decide +kernel
theorem dX10_weather_33 : decode cX10_weather 33 = .ok (.iload 4, 2) := by decide +kernel
theorem dX10_weather_35 : decode cX10_weather 35 = .ok (.iconst 1, 1) := by decide +kernel
theorem dX10_weather_36 : decode cX10_weather 36 = .ok (.isub, 1) := by decide +kernel
theorem dX10_weather_37 : decode cX10_weather 37 = .ok (.i2l, 1) := by decide +kernel
theorem dX10_weather_38 : decode cX10_weather 38 = .ok (.invokestatic 51, 3) := by decide +kernel
theorem dX10_weather_41 : decode cX10_weather 41 = .ok (.ifCond .ne 5, 3) := by decide +kernel
theorem dX10_weather_44 : decode cX10_weather 44 = .ok (.iconst (-1), 1) := by decide +kernel
theorem dX10_weather_45 : decode cX10_weather 45 = .ok (.ireturn, 1) := by decide +kernel
theorem dX10_weather_46 : decode cX10_weather 46 = .ok (.aload_n 0, 1) := by decide +kernel
theorem dX10_weather_47 : decode cX10_weather 47 = .ok (.iload_n 1, 1) := by decide +kernel
theorem dX10_weather_48 : decode cX10_weather 48 = .ok (.iload_n 2, 1) := by decide +kernel
theorem dX10_weather_49 : decode cX10_weather 49 = .ok (.iload_n 3, 1) := by decide +kernel
theorem dX10_weather_50 : decode cX10_weather 50 = .ok (.iload 4, 2) := by decide +kernel
theorem dX10_weather_52 : decode cX10_weather 52 = .ok (.invokevirtual 217, 3) := by decide +kernel
theorem dX10_weather_55 : decode cX10_weather 55 = .ok (.istore 6, 2) := by decide +kernel
theorem dX10_weather_57 : decode cX10_weather 57 = .ok (.iload 6, 2) := by decide +kernel
theorem dX10_weather_59 : decode cX10_weather 59 = .ok (.ifCond .ge 6, 3) := by decide +kernel
theorem dX10_weather_62 : decode cX10_weather 62 = .ok (.iload 6, 2) := by decide +kernel
theorem dX10_weather_64 : decode cX10_weather 64 = .ok (.ireturn, 1) := by decide +kernel
theorem dX10_weather_65 : decode cX10_weather 65 = .ok (.iload 4, 2) := by decide +kernel
theorem dX10_weather_67 : decode cX10_weather 67 = .ok (.aload_n 0, 1) := by decide +kernel
theorem dX10_weather_68 : decode cX10_weather 68 = .ok (.getfield 7, 3) := by decide +kernel
theorem dX10_weather_71 : decode cX10_weather 71 = .ok (.iconst 3, 1) := by decide +kernel
theorem dX10_weather_72 : decode cX10_weather 72 = .ok (.iaload, 1) := by decide +kernel
theorem dX10_weather_73 : decode cX10_weather 73 = .ok (.aload_n 0, 1) := by decide +kernel
theorem dX10_weather_74 : decode cX10_weather 74 = .ok (.getfield 7, 3) := by decide +kernel
theorem dX10_weather_77 : decode cX10_weather 77 = .ok (.bipush 6, 2) := by decide +kernel
theorem dX10_weather_79 : decode cX10_weather 79 = .ok (.iaload, 1) := by decide +kernel
theorem dX10_weather_80 : decode cX10_weather 80 = .ok (.isub, 1) := by decide +kernel
theorem dX10_weather_81 : decode cX10_weather 81 = .ok (.if_icmp .le 6, 3) := by decide +kernel
theorem dX10_weather_84 : decode cX10_weather 84 = .ok (.bipush (-2), 2) := by decide +kernel
theorem dX10_weather_86 : decode cX10_weather 86 = .ok (.ireturn, 1) := by decide +kernel
theorem dX10_weather_87 : decode cX10_weather 87 = .ok (.aload_n 0, 1) := by decide +kernel
theorem dX10_weather_88 : decode cX10_weather 88 = .ok (.getfield 7, 3) := by decide +kernel
theorem dX10_weather_91 : decode cX10_weather 91 = .ok (.bipush 7, 2) := by decide +kernel
theorem dX10_weather_93 : decode cX10_weather 93 = .ok (.iaload, 1) := by decide +kernel
theorem dX10_weather_94 : decode cX10_weather 94 = .ok (.istore 7, 2) := by decide +kernel
theorem dX10_weather_96 : decode cX10_weather 96 = .ok (.iconst 1, 1) := by decide +kernel
theorem dX10_weather_97 : decode cX10_weather 97 = .ok (.istore 8, 2) := by decide +kernel
theorem dX10_weather_99 : decode cX10_weather 99 = .ok (.iconst 0, 1) := by decide +kernel
theorem dX10_weather_100 : decode cX10_weather 100 = .ok (.istore 9, 2) := by decide +kernel
theorem dX10_weather_102 : decode cX10_weather 102 = .ok (.iconst 0, 1) := by decide +kernel
theorem dX10_weather_103 : decode cX10_weather 103 = .ok (.istore 10, 2) := by decide +kernel
theorem dX10_weather_105 : decode cX10_weather 105 = .ok (.iload 10, 2) := by decide +kernel
theorem dX10_weather_107 : decode cX10_weather 107 = .ok (.iload 4, 2) := by decide +kernel
theorem dX10_weather_109 : decode cX10_weather 109 = .ok (.if_icmp .ge 133, 3) := by decide +kernel
theorem dX10_weather_112 : decode cX10_weather 112 = .ok (.iload 8, 2) := by decide +kernel
theorem dX10_weather_114 : decode cX10_weather 114 = .ok (.ifCond .le 128, 3) := by decide +kernel
theorem dX10_weather_117 : decode cX10_weather 117 = .ok (.aload_n 0, 1) := by decide +kernel
theorem dX10_weather_118 : decode cX10_weather 118 = .ok (.getfield 44, 3) := by decide +kernel
theorem dX10_weather_121 : decode cX10_weather 121 = .ok (.bipush 24, 2) := by decide +kernel
theorem dX10_weather_123 : decode cX10_weather 123 = .ok (.iload_n 1, 1) := by decide +kernel
theorem dX10_weather_124 : decode cX10_weather 124 = .ok (.imul, 1) := by decide +kernel
theorem dX10_weather_125 : decode cX10_weather 125 = .ok (.iload_n 3, 1) := by decide +kernel
theorem dX10_weather_126 : decode cX10_weather 126 = .ok (.iadd, 1) := by decide +kernel
theorem dX10_weather_127 : decode cX10_weather 127 = .ok (.iload 10, 2) := by decide +kernel
theorem dX10_weather_129 : decode cX10_weather 129 = .ok (.iadd, 1) := by decide +kernel
theorem dX10_weather_130 : decode cX10_weather 130 = .ok (.laload, 1) := by decide +kernel
theorem dX10_weather_131 : decode cX10_weather 131 = .ok (.lstore 11, 2) := by decide +kernel
theorem dX10_weather_133 : decode cX10_weather 133 = .ok (.iconst 0, 1) := by decide +kernel
theorem dX10_weather_134 : decode cX10_weather 134 = .ok (.istore 13, 2) := by decide +kernel
theorem dX10_weather_136 : decode cX10_weather 136 = .ok (.iconst 0, 1) := by decide +kernel
theorem dX10_weather_137 : decode cX10_weather 137 = .ok (.istore 14, 2) := by decide +kernel
theorem dX10_weather_139 : decode cX10_weather 139 = .ok (.iload 14, 2) := by decide +kernel
theorem dX10_weather_141 : decode cX10_weather 141 = .ok (.iconst 3, 1) := by decide +kernel
theorem dX10_weather_142 : decode cX10_weather 142 = .ok (.if_icmp .ge 53, 3) := by decide +kernel
theorem dX10_weather_145 : decode cX10_weather 145 = .ok (.iload 13, 2) := by decide +kernel
theorem dX10_weather_147 : decode cX10_weather 147 = .ok (.aload_n 0, 1) := by decide +kernel
theorem dX10_weather_148 : decode cX10_weather 148 = .ok (.iload 14, 2) := by decide +kernel
theorem dX10_weather_150 : decode cX10_weather 150 = .ok (.iload 7, 2) := by decide +kernel
theorem dX10_weather_152 : decode cX10_weather 152 = .ok (.iload 10, 2) := by decide +kernel
theorem dX10_weather_154 : decode cX10_weather 154 = .ok (.ifCond .ne 13, 3) := by decide +kernel
theorem dX10_weather_157 : decode cX10_weather 157 = .ok (.aload_n 0, 1) := by decide +kernel
theorem dX10_weather_158 : decode cX10_weather 158 = .ok (.getfield 7, 3) := by decide +kernel
theorem dX10_weather_161 : decode cX10_weather 161 = .ok (.bipush 9, 2) := by decide +kernel
theorem dX10_weather_163 : decode cX10_weather 163 = .ok (.iaload, 1) := by decide +kernel
theorem dX10_weather_164 : decode cX10_weather 164 = .ok (.goto 4, 3) := by decide +kernel
theorem dX10_weather_167 : decode cX10_weather 167 = .ok (.iconst 0, 1) := by decide +kernel
theorem dX10_weather_168 : decode cX10_weather 168 = .ok (.invokevirtual 137, 3) := by decide +kernel
theorem dX10_weather_171 : decode cX10_weather 171 = .ok (.i2l, 1) := by decide +kernel
theorem dX10_weather_172 : decode cX10_weather 172 = .ok (.lload 11, 2) := by decide +kernel
theorem dX10_weather_174 : decode cX10_weather 174 = .ok (.lcmp, 1) := by decide +kernel
theorem dX10_weather_175 : decode cX10_weather 175 = .ok (.ifCond .ne 10, 3) := by decide +kernel
theorem dX10_weather_178 : decode cX10_weather 178 = .ok (.iconst 1, 1) := by decide +kernel
theorem dX10_weather_179 : decode cX10_weather 179 = .ok (.iload 14, 2) := by decide +kernel
theorem dX10_weather_181 : decode cX10_weather 181 = .ok (.ishl, 1) := by decide +kernel
theorem dX10_weather_182 : decode cX10_weather 182 = .ok (.goto 4, 3) := by decide +kernel
theorem dX10_weather_185 : decode cX10_weather 185 = .ok (.iconst 0, 1) := by decide +kernel
theorem dX10_weather_186 : decode cX10_weather 186 = .ok (.ior, 1) := by decide +kernel
theorem dX10_weather_187 : decode cX10_weather 187 = .ok (.istore 13, 2) := by decide +kernel
theorem dX10_weather_189 : decode cX10_weather 189 = .ok (.iinc 14 1, 3) := by decide +kernel
theorem dX10_weather_192 : decode cX10_weather 192 = .ok (.goto (-53), 3) := by decide +kernel
theorem dX10_weather_195 : decode cX10_weather 195 = .ok (.iload 10, 2) := by decide +kernel
theorem dX10_weather_197 : decode cX10_weather 197 = .ok (.iload 5, 2) := by decide +kernel
theorem dX10_weather_199 : decode cX10_weather 199 = .ok (.if_icmp .ne 8, 3) := by decide +kernel
theorem dX10_weather_202 : decode cX10_weather 202 = .ok (.iload 13, 2) := by decide +kernel
theorem dX10_weather_204 : decode cX10_weather 204 = .ok (.goto 5, 3) := by decide +kernel
theorem dX10_weather_207 : decode cX10_weather 207 = .ok (.iload 9, 2) := by decide +kernel
theorem dX10_weather_209 : decode cX10_weather 209 = .ok (.istore 9, 2) := by decide +kernel
theorem dX10_weather_211 : decode cX10_weather 211 = .ok (.iload 8, 2) := by decide +kernel
theorem dX10_weather_213 : decode cX10_weather 213 = .ok (.iload 13, 2) := by decide +kernel
theorem dX10_weather_215 : decode cX10_weather 215 = .ok (.invokestatic 195, 3) := by decide +kernel
theorem dX10_weather_218 : decode cX10_weather 218 = .ok (.imul, 1) := by decide +kernel
theorem dX10_weather_219 : decode cX10_weather 219 = .ok (.istore 8, 2) := by decide +kernel
theorem dX10_weather_221 : decode cX10_weather 221 = .ok (.iload 8, 2) := by decide +kernel
theorem dX10_weather_223 : decode cX10_weather 223 = .ok (.ifCond .le 9, 3) := by decide +kernel
theorem dX10_weather_226 : decode cX10_weather 226 = .ok (.lload 11, 2) := by decide +kernel
theorem dX10_weather_228 : decode cX10_weather 228 = .ok (.l2i, 1) := by decide +kernel
theorem dX10_weather_229 : decode cX10_weather 229 = .ok (.goto 5, 3) := by decide +kernel
theorem dX10_weather_232 : decode cX10_weather 232 = .ok (.iload 7, 2) := by decide +kernel
theorem dX10_weather_234 : decode cX10_weather 234 = .ok (.istore 7, 2) := by decide +kernel
theorem dX10_weather_236 : decode cX10_weather 236 = .ok (.iinc 10 1, 3) := by decide +kernel
theorem dX10_weather_239 : decode cX10_weather 239 = .ok (.goto (-134), 3) := by decide +kernel
theorem dX10_weather_242 : decode cX10_weather 242 = .ok (.iload 5, 2) := by decide +kernel
theorem dX10_weather_244 : decode cX10_weather 244 = .ok (.ifCond .ge 8, 3) := by decide +kernel
theorem dX10_weather_247 : decode cX10_weather 247 = .ok (.iload 8, 2) := by decide +kernel
theorem dX10_weather_249 : decode cX10_weather 249 = .ok (.goto 14, 3) := by decide +kernel
theorem dX10_weather_252 : decode cX10_weather 252 = .ok (.iload 8, 2) := by decide +kernel
theorem dX10_weather_254 : decode cX10_weather 254 = .ok (.ifCond .ne 7, 3) := by decide +kernel
theorem dX10_weather_257 : decode cX10_weather 257 = .ok (.iconst 0, 1) := by decide +kernel
theorem dX10_weather_258 : decode cX10_weather 258 = .ok (.goto 5, 3) := by decide +kernel
theorem dX10_weather_261 : decode cX10_weather 261 = .ok (.iload 9, 2) := by decide +kernel
theorem dX10_weather_263 : decode cX10_weather 263 = .ok (.ireturn, 1) := by decide +kernel
theorem dX10_film_0 : decode cX10_film 0 = .ok (.iload_n 1, 1) := by decide +kernel
theorem dX10_film_1 : decode cX10_film 1 = .ok (.invokestatic 140, 3) := by decide +kernel
theorem dX10_film_4 : decode cX10_film 4 = .ok (.ifCond .eq 30, 3) := by decide +kernel
theorem dX10_film_7 : decode cX10_film 7 = .ok (.iload_n 2, 1) := by decide +kernel
theorem dX10_film_8 : decode cX10_film 8 = .ok (.i2l, 1) := by decide +kernel
theorem dX10_film_9 : decode cX10_film 9 = .ok (.lconst 1, 1) := by decide +kernel
theorem dX10_film_10 : decode cX10_film 10 = .ok (.ldc2_w 221, 3) := by decide +kernel
theorem dX10_film_13 : decode cX10_film 13 = .ok (.invokestatic 51, 3) := by decide +kernel
theorem dX10_film_16 : decode cX10_film 16 = .ok (.ifCond .eq 18, 3) := by decide +kernel
theorem dX10_film_19 : decode cX10_film 19 = .ok (.iload_n 3, 1) := by decide +kernel
theorem dX10_film_20 : decode cX10_film 20 = .ok (.invokestatic 207, 3) := by decide +kernel
theorem dX10_film_23 : decode cX10_film 23 = .ok (.ifCond .eq 11, 3) := by decide +kernel
theorem dX10_film_26 : decode cX10_film 26 = .ok (.iload 4, 2) := by decide +kernel
theorem dX10_film_28 : decode cX10_film 28 = .ok (.invokestatic 210, 3) := by decide +kernel
theorem dX10_film_31 : decode cX10_film 31 = .ok (.ifCond .ne 5, 3) := by decide +kernel
theorem dX10_film_34 : decode cX10_film 34 = .ok (.iconst (-1), 1) := by decide +kernel
theorem dX10_film_35 : decode cX10_film 35 = .ok (.ireturn, 1) := by decide +kernel
theorem dX10_film_36 : decode cX10_film 36 = .ok (.aload_n 0, 1) := by decide +kernel
theorem dX10_film_37 : decode cX10_film 37 = .ok (.iload_n 3, 1) := by decide +kernel
theorem dX10_film_38 : decode cX10_film 38 = .ok (.iload 4, 2) := by decide +kernel
theorem dX10_film_40 : decode cX10_film 40 = .ok (.iload 5, 2) := by decide +kernel
theorem dX10_film_42 : decode cX10_film 42 = .ok (.iload_n 2, 1) := by decide +kernel
theorem dX10_film_43 : decode cX10_film 43 = .ok (.invokevirtual 217, 3) := by decide +kernel
theorem dX10_film_46 : decode cX10_film 46 = .ok (.istore 6, 2) := by decide +kernel
theorem dX10_film_48 : decode cX10_film 48 = .ok (.iload 6, 2) := by decide +kernel
theorem dX10_film_50 : decode cX10_film 50 = .ok (.ifCond .ge 6, 3) := by decide +kernel
theorem dX10_film_53 : decode cX10_film 53 = .ok (.iload 6, 2) := by decide +kernel
theorem dX10_film_55 : decode cX10_film 55 = .ok (.ireturn, 1) := by decide +kernel
theorem dX10_film_56 : decode cX10_film 56 = .ok (.aload_n 0, 1) := by decide +kernel
theorem dX10_film_57 : decode cX10_film 57 = .ok (.getfield 7, 3) := by decide +kernel
theorem dX10_film_60 : decode cX10_film 60 = .ok (.bipush 7, 2) := by decide +kernel
theorem dX10_film_62 : decode cX10_film 62 = .ok (.iaload, 1) := by decide +kernel
theorem dX10_film_63 : decode cX10_film 63 = .ok (.istore 7, 2) := by decide +kernel
theorem dX10_film_65 : decode cX10_film 65 = .ok (.iconst 0, 1) := by decide +kernel
theorem dX10_film_66 : decode cX10_film 66 = .ok (.istore 8, 2) := by decide +kernel
theorem dX10_film_68 : decode cX10_film 68 = .ok (.iload 8, 2) := by decide +kernel
theorem dX10_film_70 : decode cX10_film 70 = .ok (.iload_n 2, 1) := by decide +kernel
theorem dX10_film_71 : decode cX10_film 71 = .ok (.if_icmp .ge 64, 3) := by decide +kernel
theorem dX10_film_74 : decode cX10_film 74 = .ok (.aload_n 0, 1) := by decide +kernel
theorem dX10_film_75 : decode cX10_film 75 = .ok (.iload_n 1, 1) := by decide +kernel
theorem dX10_film_76 : decode cX10_film 76 = .ok (.iload 7, 2) := by decide +kernel
theorem dX10_film_78 : decode cX10_film 78 = .ok (.iload 8, 2) := by decide +kernel
theorem dX10_film_80 : decode cX10_film 80 = .ok (.ifCond .ne 13, 3) := by decide +kernel
theorem dX10_film_83 : decode cX10_film 83 = .ok (.aload_n 0, 1) := by decide +kernel
theorem dX10_film_84 : decode cX10_film 84 = .ok (.getfield 7, 3) := by decide +kernel
theorem dX10_film_87 : decode cX10_film 87 = .ok (.bipush 9, 2) := by decide +kernel
theorem dX10_film_89 : decode cX10_film 89 = .ok (.iaload, 1) := by decide +kernel
theorem dX10_film_90 : decode cX10_film 90 = .ok (.goto 4, 3) := by decide +kernel
theorem dX10_film_93 : decode cX10_film 93 = .ok (.iconst 0, 1) := by decide +kernel
theorem dX10_film_94 : decode cX10_film 94 = .ok (.invokevirtual 137, 3) := by decide +kernel
theorem dX10_film_97 : decode cX10_film 97 = .ok (.istore 7, 2) := by decide +kernel
theorem dX10_film_99 : decode cX10_film 99 = .ok (.aload_n 0, 1) := by decide +kernel
theorem dX10_film_100 : decode cX10_film 100 = .ok (.getfield 44, 3) := by decide +kernel
theorem dX10_film_103 : decode cX10_film 103 = .ok (.bipush 24, 2) := by decide +kernel
theorem dX10_film_105 : decode cX10_film 105 = .ok (.iload_n 3, 1) := by decide +kernel
theorem dX10_film_106 : decode cX10_film 106 = .ok (.imul, 1) := by decide +kernel
theorem dX10_film_107 : decode cX10_film 107 = .ok (.iload 5, 2) := by decide +kernel
theorem dX10_film_109 : decode cX10_film 109 = .ok (.iadd, 1) := by decide +kernel
theorem dX10_film_110 : decode cX10_film 110 = .ok (.iload 8, 2) := by decide +kernel
theorem dX10_film_112 : decode cX10_film 112 = .ok (.iadd, 1) := by decide +kernel
theorem dX10_film_113 : decode cX10_film 113 = .ok (.iload 4, 2) := by decide +kernel
theorem dX10_film_115 : decode cX10_film 115 = .ok (.ifCond .ne 10, 3) := by decide +kernel
theorem dX10_film_118 : decode cX10_film 118 = .ok (.iload 7, 2) := by decide +kernel
theorem dX10_film_120 : decode cX10_film 120 = .ok (.i2b, 1) := by decide +kernel
theorem dX10_film_121 : decode cX10_film 121 = .ok (.i2l, 1) := by decide +kernel
theorem dX10_film_122 : decode cX10_film 122 = .ok (.goto 6, 3) := by decide +kernel
theorem dX10_film_125 : decode cX10_film 125 = .ok (.iload 7, 2) := by decide +kernel
theorem dX10_film_127 : decode cX10_film 127 = .ok (.i2l, 1) := by decide +kernel
theorem dX10_film_128 : decode cX10_film 128 = .ok (.lastore, 1) := by decide +kernel
theorem dX10_film_129 : decode cX10_film 129 = .ok (.iinc 8 1, 3) := by decide +kernel
theorem dX10_film_132 : decode cX10_film 132 = .ok (.goto (-64), 3) := by decide +kernel
theorem dX10_film_135 : decode cX10_film 135 = .ok (.iload_n 2, 1) := by decide +kernel
theorem dX10_film_136 : decode cX10_film 136 = .ok (.ireturn, 1) := by decide +kernel
theorem dX10_sheet_0 : decode cX10_sheet 0 = .ok (.iload_n 1, 1) := by decide +kernel
theorem dX10_sheet_1 : decode cX10_sheet 1 = .ok (.invokestatic 207, 3) := by decide +kernel
theorem dX10_sheet_4 : decode cX10_sheet 4 = .ok (.ifCond .eq 16, 3) := by decide +kernel
theorem dX10_sheet_7 : decode cX10_sheet 7 = .ok (.iload_n 2, 1) := by decide +kernel
theorem dX10_sheet_8 : decode cX10_sheet 8 = .ok (.invokestatic 210, 3) := by decide +kernel
theorem dX10_sheet_11 : decode cX10_sheet 11 = .ok (.ifCond .eq 9, 3) := by decide +kernel
theorem dX10_sheet_14 : decode cX10_sheet 14 = .ok (.iload_n 3, 1) := by decide +kernel
theorem dX10_sheet_15 : decode cX10_sheet 15 = .ok (.bipush 24, 2) := by decide +kernel
theorem dX10_sheet_17 : decode cX10_sheet 17 = .ok (.if_icmp .le 5, 3) := by decide +kernel
theorem dX10_sheet_20 : decode cX10_sheet 20 = .ok (.iconst (-1), 1) := by decide +kernel
theorem dX10_sheet_21 : decode cX10_sheet 21 = .ok (.ireturn, 1) := by decide +kernel
theorem dX10_sheet_22 : decode cX10_sheet 22 = .ok (.iload_n 3, 1) := by decide +kernel
theorem dX10_sheet_23 : decode cX10_sheet 23 = .ok (.ifCond .ge 6, 3) := by decide +kernel
theorem dX10_sheet_26 : decode cX10_sheet 26 = .ok (.bipush (-14), 2) := by decide +kernel
theorem dX10_sheet_28 : decode cX10_sheet 28 = .ok (.ireturn, 1) := by decide +kernel
theorem dX10_sheet_29 : decode cX10_sheet 29 = .ok (.aload_n 0, 1) := by decide +kernel
theorem dX10_sheet_30 : decode cX10_sheet 30 = .ok (.getfield 38, 3) := by decide +kernel
theorem dX10_sheet_33 : decode cX10_sheet 33 = .ok (.iload_n 1, 1) := by decide +kernel
theorem dX10_sheet_34 : decode cX10_sheet 34 = .ok (.iload_n 2, 1) := by decide +kernel
theorem dX10_sheet_35 : decode cX10_sheet 35 = .ok (.iastore, 1) := by decide +kernel
theorem dX10_sheet_36 : decode cX10_sheet 36 = .ok (.aload_n 0, 1) := by decide +kernel
theorem dX10_sheet_37 : decode cX10_sheet 37 = .ok (.getfield 41, 3) := by decide +kernel
theorem dX10_sheet_40 : decode cX10_sheet 40 = .ok (.iload_n 1, 1) := by decide +kernel
theorem dX10_sheet_41 : decode cX10_sheet 41 = .ok (.iload_n 3, 1) := by decide +kernel
theorem dX10_sheet_42 : decode cX10_sheet 42 = .ok (.iastore, 1) := by decide +kernel
theorem dX10_sheet_43 : decode cX10_sheet 43 = .ok (.iconst 0, 1) := by decide +kernel
theorem dX10_sheet_44 : decode cX10_sheet 44 = .ok (.istore 4, 2) := by decide +kernel
theorem dX10_sheet_46 : decode cX10_sheet 46 = .ok (.iload 4, 2) := by decide +kernel
theorem dX10_sheet_48 : decode cX10_sheet 48 = .ok (.bipush 24, 2) := by decide +kernel
theorem dX10_sheet_50 : decode cX10_sheet 50 = .ok (.if_icmp .ge 22, 3) := by decide +kernel
theorem dX10_sheet_53 : decode cX10_sheet 53 = .ok (.aload_n 0, 1) := by decide +kernel
theorem dX10_sheet_54 : decode cX10_sheet 54 = .ok (.getfield 44, 3) := by decide +kernel
theorem dX10_sheet_57 : decode cX10_sheet 57 = .ok (.bipush 24, 2) := by decide +kernel
theorem dX10_sheet_59 : decode cX10_sheet 59 = .ok (.iload_n 1, 1) := by decide +kernel
theorem dX10_sheet_60 : decode cX10_sheet 60 = .ok (.imul, 1) := by decide +kernel
theorem dX10_sheet_61 : decode cX10_sheet 61 = .ok (.iload 4, 2) := by decide +kernel
theorem dX10_sheet_63 : decode cX10_sheet 63 = .ok (.iadd, 1) := by decide +kernel
theorem dX10_sheet_64 : decode cX10_sheet 64 = .ok (.lconst 0, 1) := by decide +kernel
theorem dX10_sheet_65 : decode cX10_sheet 65 = .ok (.lastore, 1) := by decide +kernel
theorem dX10_sheet_66 : decode cX10_sheet 66 = .ok (.iinc 4 1, 3) := by decide +kernel
theorem dX10_sheet_69 : decode cX10_sheet 69 = .ok (.goto (-23), 3) := by decide +kernel
theorem dX10_sheet_72 : decode cX10_sheet 72 = .ok (.iload_n 3, 1) := by decide +kernel
theorem dX10_sheet_73 : decode cX10_sheet 73 = .ok (.ireturn, 1) := by decide +kernel
theorem dX10_drop_0 : decode cX10_drop 0 = .ok (.iload_n 1, 1) := by decide +kernel
theorem dX10_drop_1 : decode cX10_drop 1 = .ok (.invokestatic 207, 3) := by decide +kernel
theorem dX10_drop_4 : decode cX10_drop 4 = .ok (.ifCond .ne 5, 3) := by decide +kernel
theorem dX10_drop_7 : decode cX10_drop 7 = .ok (.iconst (-1), 1) := by decide +kernel
theorem dX10_drop_8 : decode cX10_drop 8 = .ok (.ireturn, 1) := by decide +kernel
theorem dX10_drop_9 : decode cX10_drop 9 = .ok (.aload_n 0, 1) := by decide +kernel
theorem dX10_drop_10 : decode cX10_drop 10 = .ok (.getfield 38, 3) := by decide +kernel
theorem dX10_drop_13 : decode cX10_drop 13 = .ok (.iload_n 1, 1) := by decide +kernel
theorem dX10_drop_14 : decode cX10_drop 14 = .ok (.iaload, 1) := by decide +kernel
theorem dX10_drop_15 : decode cX10_drop 15 = .ok (.ifCond .ge 6, 3) := by decide +kernel
theorem dX10_drop_18 : decode cX10_drop 18 = .ok (.bipush (-11), 2) := by decide +kernel
theorem dX10_drop_20 : decode cX10_drop 20 = .ok (.ireturn, 1) := by decide +kernel
theorem dX10_drop_21 : decode cX10_drop 21 = .ok (.aload_n 0, 1) := by decide +kernel
theorem dX10_drop_22 : decode cX10_drop 22 = .ok (.getfield 38, 3) := by decide +kernel
theorem dX10_drop_25 : decode cX10_drop 25 = .ok (.iload_n 1, 1) := by decide +kernel
theorem dX10_drop_26 : decode cX10_drop 26 = .ok (.iconst (-1), 1) := by decide +kernel
theorem dX10_drop_27 : decode cX10_drop 27 = .ok (.iastore, 1) := by decide +kernel
theorem dX10_drop_28 : decode cX10_drop 28 = .ok (.aload_n 0, 1) := by decide +kernel
theorem dX10_drop_29 : decode cX10_drop 29 = .ok (.getfield 41, 3) := by decide +kernel
theorem dX10_drop_32 : decode cX10_drop 32 = .ok (.iload_n 1, 1) := by decide +kernel
theorem dX10_drop_33 : decode cX10_drop 33 = .ok (.iaload, 1) := by decide +kernel
theorem dX10_drop_34 : decode cX10_drop 34 = .ok (.ireturn, 1) := by decide +kernel
theorem dX10_item_0 : decode cX10_item 0 = .ok (.iload_n 1, 1) := by decide +kernel
theorem dX10_item_1 : decode cX10_item 1 = .ok (.invokestatic 207, 3) := by decide +kernel
theorem dX10_item_4 : decode cX10_item 4 = .ok (.ifCond .eq 10, 3) := by decide +kernel
theorem dX10_item_7 : decode cX10_item 7 = .ok (.iload_n 2, 1) := by decide +kernel
theorem dX10_item_8 : decode cX10_item 8 = .ok (.invokestatic 210, 3) := by decide +kernel
theorem dX10_item_11 : decode cX10_item 11 = .ok (.ifCond .ne 5, 3) := by decide +kernel
theorem dX10_item_14 : decode cX10_item 14 = .ok (.iconst (-1), 1) := by decide +kernel
theorem dX10_item_15 : decode cX10_item 15 = .ok (.ireturn, 1) := by decide +kernel
theorem dX10_item_16 : decode cX10_item 16 = .ok (.aload_n 0, 1) := by decide +kernel
theorem dX10_item_17 : decode cX10_item 17 = .ok (.iload_n 1, 1) := by decide +kernel
theorem dX10_item_18 : decode cX10_item 18 = .ok (.iload_n 2, 1) := by decide +kernel
theorem dX10_item_19 : decode cX10_item 19 = .ok (.iload_n 3, 1) := by decide +kernel
theorem dX10_item_20 : decode cX10_item 20 = .ok (.iconst 1, 1) := by decide +kernel
theorem dX10_item_21 : decode cX10_item 21 = .ok (.invokevirtual 217, 3) := by decide +kernel
theorem dX10_item_24 : decode cX10_item 24 = .ok (.istore 6, 2) := by decide +kernel
theorem dX10_item_26 : decode cX10_item 26 = .ok (.iload 6, 2) := by decide +kernel
theorem dX10_item_28 : decode cX10_item 28 = .ok (.ifCond .ge 6, 3) := by decide +kernel
theorem dX10_item_31 : decode cX10_item 31 = .ok (.iload 6, 2) := by decide +kernel
theorem dX10_item_33 : decode cX10_item 33 = .ok (.ireturn, 1) := by decide +kernel
theorem dX10_item_34 : decode cX10_item 34 = .ok (.aload_n 0, 1) := by decide +kernel
theorem dX10_item_35 : decode cX10_item 35 = .ok (.getfield 44, 3) := by decide +kernel
theorem dX10_item_38 : decode cX10_item 38 = .ok (.bipush 24, 2) := by decide +kernel
theorem dX10_item_40 : decode cX10_item 40 = .ok (.iload_n 1, 1) := by decide +kernel
theorem dX10_item_41 : decode cX10_item 41 = .ok (.imul, 1) := by decide +kernel
theorem dX10_item_42 : decode cX10_item 42 = .ok (.iload_n 3, 1) := by decide +kernel
theorem dX10_item_43 : decode cX10_item 43 = .ok (.iadd, 1) := by decide +kernel
theorem dX10_item_44 : decode cX10_item 44 = .ok (.iload_n 2, 1) := by decide +kernel
theorem dX10_item_45 : decode cX10_item 45 = .ok (.ifCond .ne 11, 3) := by decide +kernel
theorem dX10_item_48 : decode cX10_item 48 = .ok (.lload 4, 2) := by decide +kernel
theorem dX10_item_50 : decode cX10_item 50 = .ok (.l2i, 1) := by decide +kernel
theorem dX10_item_51 : decode cX10_item 51 = .ok (.i2b, 1) := by decide +kernel
theorem dX10_item_52 : decode cX10_item 52 = .ok (.i2l, 1) := by decide +kernel
theorem dX10_item_53 : decode cX10_item 53 = .ok (.goto 30, 3) := by decide +kernel
theorem dX10_item_56 : decode cX10_item 56 = .ok (.iload_n 2, 1) := by decide +kernel
theorem dX10_item_57 : decode cX10_item 57 = .ok (.iconst 1, 1) := by decide +kernel
theorem dX10_item_58 : decode cX10_item 58 = .ok (.if_icmp .ne 11, 3) := by decide +kernel
theorem dX10_item_61 : decode cX10_item 61 = .ok (.lload 4, 2) := by decide +kernel
theorem dX10_item_63 : decode cX10_item 63 = .ok (.l2i, 1) := by decide +kernel
theorem dX10_item_64 : decode cX10_item 64 = .ok (.i2s, 1) := by decide +kernel
theorem dX10_item_65 : decode cX10_item 65 = .ok (.i2l, 1) := by decide +kernel
theorem dX10_item_66 : decode cX10_item 66 = .ok (.goto 17, 3) := by decide +kernel
theorem dX10_item_69 : decode cX10_item 69 = .ok (.iload_n 2, 1) := by decide +kernel
theorem dX10_item_70 : decode cX10_item 70 = .ok (.iconst 2, 1) := by decide +kernel
theorem dX10_item_71 : decode cX10_item 71 = .ok (.if_icmp .ne 10, 3) := by decide +kernel
theorem dX10_item_74 : decode cX10_item 74 = .ok (.lload 4, 2) := by decide +kernel
theorem dX10_item_76 : decode cX10_item 76 = .ok (.l2i, 1) := by decide +kernel
theorem dX10_item_77 : decode cX10_item 77 = .ok (.i2l, 1) := by decide +kernel
theorem dX10_item_78 : decode cX10_item 78 = .ok (.goto 5, 3) := by decide +kernel
theorem dX10_item_81 : decode cX10_item 81 = .ok (.lload 4, 2) := by decide +kernel
theorem dX10_item_83 : decode cX10_item 83 = .ok (.lastore, 1) := by decide +kernel
theorem dX10_item_84 : decode cX10_item 84 = .ok (.iconst 1, 1) := by decide +kernel
theorem dX10_item_85 : decode cX10_item 85 = .ok (.ireturn, 1) := by decide +kernel
theorem dX10_copy_0 : decode cX10_copy 0 = .ok (.iload_n 1, 1) := by decide +kernel
theorem dX10_copy_1 : decode cX10_copy 1 = .ok (.invokestatic 207, 3) := by decide +kernel
theorem dX10_copy_4 : decode cX10_copy 4 = .ok (.ifCond .eq 10, 3) := by decide +kernel
theorem dX10_copy_7 : decode cX10_copy 7 = .ok (.iload_n 3, 1) := by decide +kernel
theorem dX10_copy_8 : decode cX10_copy 8 = .ok (.invokestatic 207, 3) := by decide +kernel
theorem dX10_copy_11 : decode cX10_copy 11 = .ok (.ifCond .ne 5, 3) := by decide +kernel
theorem dX10_copy_14 : decode cX10_copy 14 = .ok (.iconst (-1), 1) := by decide +kernel
theorem dX10_copy_15 : decode cX10_copy 15 = .ok (.ireturn, 1) := by decide +kernel
theorem dX10_copy_16 : decode cX10_copy 16 = .ok (.aload_n 0, 1) := by decide +kernel
theorem dX10_copy_17 : decode cX10_copy 17 = .ok (.getfield 38, 3) := by decide +kernel
theorem dX10_copy_20 : decode cX10_copy 20 = .ok (.iload_n 1, 1) := by decide +kernel
theorem dX10_copy_21 : decode cX10_copy 21 = .ok (.iaload, 1) := by decide +kernel
theorem dX10_copy_22 : decode cX10_copy 22 = .ok (.ifCond .lt 12, 3) := by decide +kernel
theorem dX10_copy_25 : decode cX10_copy 25 = .ok (.aload_n 0, 1) := by decide +kernel
theorem dX10_copy_26 : decode cX10_copy 26 = .ok (.getfield 38, 3) := by decide +kernel
theorem dX10_copy_29 : decode cX10_copy 29 = .ok (.iload_n 3, 1) := by decide +kernel
theorem dX10_copy_30 : decode cX10_copy 30 = .ok (.iaload, 1) := by decide +kernel
theorem dX10_copy_31 : decode cX10_copy 31 = .ok (.ifCond .ge 6, 3) := by decide +kernel
theorem dX10_copy_34 : decode cX10_copy 34 = .ok (.bipush (-11), 2) := by decide +kernel
theorem dX10_copy_36 : decode cX10_copy 36 = .ok (.ireturn, 1) := by decide +kernel
theorem dX10_copy_37 : decode cX10_copy 37 = .ok (.aload_n 0, 1) := by decide +kernel
theorem dX10_copy_38 : decode cX10_copy 38 = .ok (.iload_n 3, 1) := by decide +kernel
theorem dX10_copy_39 : decode cX10_copy 39 = .ok (.aload_n 0, 1) := by decide +kernel
theorem dX10_copy_40 : decode cX10_copy 40 = .ok (.getfield 38, 3) := by decide +kernel
theorem dX10_copy_43 : decode cX10_copy 43 = .ok (.iload_n 1, 1) := by decide +kernel
theorem dX10_copy_44 : decode cX10_copy 44 = .ok (.iaload, 1) := by decide +kernel
theorem dX10_copy_45 : decode cX10_copy 45 = .ok (.iload 4, 2) := by decide +kernel
theorem dX10_copy_47 : decode cX10_copy 47 = .ok (.iload 5, 2) := by decide +kernel
theorem dX10_copy_49 : decode cX10_copy 49 = .ok (.invokevirtual 217, 3) := by decide +kernel
theorem dX10_copy_52 : decode cX10_copy 52 = .ok (.istore 6, 2) := by decide +kernel
theorem dX10_copy_54 : decode cX10_copy 54 = .ok (.iload 6, 2) := by decide +kernel
theorem dX10_copy_56 : decode cX10_copy 56 = .ok (.ifCond .ne 20, 3) := by decide +kernel
theorem dX10_copy_59 : decode cX10_copy 59 = .ok (.aload_n 0, 1) := by decide +kernel
theorem dX10_copy_60 : decode cX10_copy 60 = .ok (.iload_n 1, 1) := by decide +kernel
theorem dX10_copy_61 : decode cX10_copy 61 = .ok (.aload_n 0, 1) := by decide +kernel
theorem dX10_copy_62 : decode cX10_copy 62 = .ok (.getfield 38, 3) := by decide +kernel
theorem dX10_copy_65 : decode cX10_copy 65 = .ok (.iload_n 1, 1) := by decide +kernel
theorem dX10_copy_66 : decode cX10_copy 66 = .ok (.iaload, 1) := by decide +kernel
theorem dX10_copy_67 : decode cX10_copy 67 = .ok (.iload_n 2, 1) := by decide +kernel
theorem dX10_copy_68 : decode cX10_copy 68 = .ok (.iload 5, 2) := by decide +kernel
theorem dX10_copy_70 : decode cX10_copy 70 = .ok (.invokevirtual 217, 3) := by decide +kernel
theorem dX10_copy_73 : decode cX10_copy 73 = .ok (.goto 5, 3) := by decide +kernel
theorem dX10_copy_76 : decode cX10_copy 76 = .ok (.iload 6, 2) := by decide +kernel
theorem dX10_copy_78 : decode cX10_copy 78 = .ok (.istore 6, 2) := by decide +kernel
theorem dX10_copy_80 : decode cX10_copy 80 = .ok (.iload 6, 2) := by decide +kernel
theorem dX10_copy_82 : decode cX10_copy 82 = .ok (.ifCond .ge 6, 3) := by decide +kernel
theorem dX10_copy_85 : decode cX10_copy 85 = .ok (.iload 6, 2) := by decide +kernel
theorem dX10_copy_87 : decode cX10_copy 87 = .ok (.ireturn, 1) := by decide +kernel
theorem dX10_copy_88 : decode cX10_copy 88 = .ok (.iconst 0, 1) := by decide +kernel
theorem dX10_copy_89 : decode cX10_copy 89 = .ok (.istore 7, 2) := by decide +kernel
theorem dX10_copy_91 : decode cX10_copy 91 = .ok (.iload 7, 2) := by decide +kernel
theorem dX10_copy_93 : decode cX10_copy 93 = .ok (.iload 5, 2) := by decide +kernel
theorem dX10_copy_95 : decode cX10_copy 95 = .ok (.if_icmp .ge 30, 3) := by decide +kernel
theorem dX10_copy_98 : decode cX10_copy 98 = .ok (.aload_n 0, 1) := by decide +kernel
theorem dX10_copy_99 : decode cX10_copy 99 = .ok (.getfield 48, 3) := by decide +kernel
theorem dX10_copy_102 : decode cX10_copy 102 = .ok (.iload 7, 2) := by decide +kernel
theorem dX10_copy_104 : decode cX10_copy 104 = .ok (.aload_n 0, 1) := by decide +kernel
theorem dX10_copy_105 : decode cX10_copy 105 = .ok (.getfield 44, 3) := by decide +kernel
theorem dX10_copy_108 : decode cX10_copy 108 = .ok (.bipush 24, 2) := by decide +kernel
theorem dX10_copy_110 : decode cX10_copy 110 = .ok (.iload_n 1, 1) := by decide +kernel
theorem dX10_copy_111 : decode cX10_copy 111 = .ok (.imul, 1) := by decide +kernel
theorem dX10_copy_112 : decode cX10_copy 112 = .ok (.iload_n 2, 1) := by decide +kernel
theorem dX10_copy_113 : decode cX10_copy 113 = .ok (.iadd, 1) := by decide +kernel
theorem dX10_copy_114 : decode cX10_copy 114 = .ok (.iload 7, 2) := by decide +kernel
theorem dX10_copy_116 : decode cX10_copy 116 = .ok (.iadd, 1) := by decide +kernel
theorem dX10_copy_117 : decode cX10_copy 117 = .ok (.laload, 1) := by decide +kernel
theorem dX10_copy_118 : decode cX10_copy 118 = .ok (.lastore, 1) := by decide +kernel
theorem dX10_copy_119 : decode cX10_copy 119 = .ok (.iinc 7 1, 3) := by decide +kernel
theorem dX10_copy_122 : decode cX10_copy 122 = .ok (.goto (-31), 3) := by decide +kernel
theorem dX10_copy_125 : decode cX10_copy 125 = .ok (.iconst 0, 1) := by decide +kernel
theorem dX10_copy_126 : decode cX10_copy 126 = .ok (.istore 7, 2) := by decide +kernel
theorem dX10_copy_128 : decode cX10_copy 128 = .ok (.iload 7, 2) := by decide +kernel
theorem dX10_copy_130 : decode cX10_copy 130 = .ok (.iload 5, 2) := by decide +kernel
theorem dX10_copy_132 : decode cX10_copy 132 = .ok (.if_icmp .ge 31, 3) := by decide +kernel
theorem dX10_copy_135 : decode cX10_copy 135 = .ok (.aload_n 0, 1) := by decide +kernel
theorem dX10_copy_136 : decode cX10_copy 136 = .ok (.getfield 44, 3) := by decide +kernel
theorem dX10_copy_139 : decode cX10_copy 139 = .ok (.bipush 24, 2) := by decide +kernel
theorem dX10_copy_141 : decode cX10_copy 141 = .ok (.iload_n 3, 1) := by decide +kernel
theorem dX10_copy_142 : decode cX10_copy 142 = .ok (.imul, 1) := by decide +kernel
theorem dX10_copy_143 : decode cX10_copy 143 = .ok (.iload 4, 2) := by decide +kernel
theorem dX10_copy_145 : decode cX10_copy 145 = .ok (.iadd, 1) := by decide +kernel
theorem dX10_copy_146 : decode cX10_copy 146 = .ok (.iload 7, 2) := by decide +kernel
theorem dX10_copy_148 : decode cX10_copy 148 = .ok (.iadd, 1) := by decide +kernel
theorem dX10_copy_149 : decode cX10_copy 149 = .ok (.aload_n 0, 1) := by decide +kernel
theorem dX10_copy_150 : decode cX10_copy 150 = .ok (.getfield 48, 3) := by decide +kernel
theorem dX10_copy_153 : decode cX10_copy 153 = .ok (.iload 7, 2) := by decide +kernel
theorem dX10_copy_155 : decode cX10_copy 155 = .ok (.laload, 1) := by decide +kernel
theorem dX10_copy_156 : decode cX10_copy 156 = .ok (.lastore, 1) := by decide +kernel
theorem dX10_copy_157 : decode cX10_copy 157 = .ok (.iinc 7 1, 3) := by decide +kernel
theorem dX10_copy_160 : decode cX10_copy 160 = .ok (.goto (-32), 3) := by decide +kernel
theorem dX10_copy_163 : decode cX10_copy 163 = .ok (.iload 5, 2) := by decide +kernel
theorem dX10_copy_165 : decode cX10_copy 165 = .ok (.ireturn, 1) := by decide +kernel
