theorem dX1_tellLateKind_47 : decode cX1_tellLateKind 47 = .ok (.invokevirtual 166, 3) := by decide +kernel
theorem dX1_tellLateKind_50 : decode cX1_tellLateKind 50 = .ok (.istore 5, 2) := by decide +kernel
theorem dX1_tellLateKind_52 : decode cX1_tellLateKind 52 = .ok (.aload_n 0, 1) := by decide +kernel
theorem dX1_tellLateKind_53 : decode cX1_tellLateKind 53 = .ok (.lconst 1, 1) := by decide +kernel
theorem dX1_tellLateKind_54 : decode cX1_tellLateKind 54 = .ok (.lload_n 1, 1) := by decide +kernel
theorem dX1_tellLateKind_55 : decode cX1_tellLateKind 55 = .ok (.lload_n 3, 1) := by decide +kernel
theorem dX1_tellLateKind_56 : decode cX1_tellLateKind 56 = .ok (.invokevirtual 176, 3) := by decide +kernel
theorem dX1_tellLateKind_59 : decode cX1_tellLateKind 59 = .ok (.ifCond .eq 30, 3) := by decide +kernel
theorem dX1_tellLateKind_62 : decode cX1_tellLateKind 62 = .ok (.aload_n 0, 1) := by decide +kernel
theorem dX1_tellLateKind_63 : decode cX1_tellLateKind 63 = .ok (.bipush 7, 2) := by decide +kernel
theorem dX1_tellLateKind_65 : decode cX1_tellLateKind 65 = .ok (.aload_n 0, 1) := by decide +kernel
theorem dX1_tellLateKind_66 : decode cX1_tellLateKind 66 = .ok (.getfield 27, 3) := by decide +kernel
theorem dX1_tellLateKind_69 : decode cX1_tellLateKind 69 = .ok (.bipush 6, 2) := by decide +kernel
theorem dX1_tellLateKind_71 : decode cX1_tellLateKind 71 = .ok (.isub, 1) := by decide +kernel
theorem dX1_tellLateKind_72 : decode cX1_tellLateKind 72 = .ok (.bipush 7, 2) := by decide +kernel
theorem dX1_tellLateKind_74 : decode cX1_tellLateKind 74 = .ok (.iload 5, 2) := by decide +kernel
theorem dX1_tellLateKind_76 : decode cX1_tellLateKind 76 = .ok (.iconst (-1), 1) := by decide +kernel
theorem dX1_tellLateKind_77 : decode cX1_tellLateKind 77 = .ok (.if_icmp .ne 7, 3) := by decide +kernel
theorem dX1_tellLateKind_80 : decode cX1_tellLateKind 80 = .ok (.iconst 1, 1) := by decide +kernel
theorem dX1_tellLateKind_81 : decode cX1_tellLateKind 81 = .ok (.goto 4, 3) := by decide +kernel
theorem dX1_tellLateKind_84 : decode cX1_tellLateKind 84 = .ok (.iconst 3, 1) := by decide +kernel
theorem dX1_tellLateKind_85 : decode cX1_tellLateKind 85 = .ok (.invokevirtual 53, 3) := by decide +kernel
theorem dX1_tellLateKind_88 : decode cX1_tellLateKind 88 = .ok (.return_, 1) := by decide +kernel
theorem dX1_tellLateKind_89 : decode cX1_tellLateKind 89 = .ok (.aload_n 0, 1) := by decide +kernel
theorem dX1_tellLateKind_90 : decode cX1_tellLateKind 90 = .ok (.getfield 37, 3) := by decide +kernel
theorem dX1_tellLateKind_93 : decode cX1_tellLateKind 93 = .ok (.lconst 0, 1) := by decide +kernel
theorem dX1_tellLateKind_94 : decode cX1_tellLateKind 94 = .ok (.lconst 0, 1) := by decide +kernel
theorem dX1_tellLateKind_95 : decode cX1_tellLateKind 95 = .ok (.iload 5, 2) := by decide +kernel
theorem dX1_tellLateKind_97 : decode cX1_tellLateKind 97 = .ok (.i2l, 1) := by decide +kernel
theorem dX1_tellLateKind_98 : decode cX1_tellLateKind 98 = .ok (.aload_n 0, 1) := by decide +kernel
theorem dX1_tellLateKind_99 : decode cX1_tellLateKind 99 = .ok (.getfield 41, 3) := by decide +kernel
theorem dX1_tellLateKind_102 : decode cX1_tellLateKind 102 = .ok (.i2l, 1) := by decide +kernel
theorem dX1_tellLateKind_103 : decode cX1_tellLateKind 103 = .ok (.iconst 2, 1) := by decide +kernel
theorem dX1_tellLateKind_104 : decode cX1_tellLateKind 104 = .ok (.invokestatic 153, 3) := by decide +kernel
theorem dX1_tellLateKind_107 : decode cX1_tellLateKind 107 = .ok (.lmul, 1) := by decide +kernel
theorem dX1_tellLateKind_108 : decode cX1_tellLateKind 108 = .ok (.invokevirtual 108, 3) := by decide +kernel
theorem dX1_tellLateKind_111 : decode cX1_tellLateKind 111 = .ok (.aload_n 0, 1) := by decide +kernel
theorem dX1_tellLateKind_112 : decode cX1_tellLateKind 112 = .ok (.aload_n 0, 1) := by decide +kernel
theorem dX1_tellLateKind_113 : decode cX1_tellLateKind 113 = .ok (.getfield 37, 3) := by decide +kernel
theorem dX1_tellLateKind_116 : decode cX1_tellLateKind 116 = .ok (.getfield 88, 3) := by decide +kernel
theorem dX1_tellLateKind_119 : decode cX1_tellLateKind 119 = .ok (.iconst 4, 1) := by decide +kernel
theorem dX1_tellLateKind_120 : decode cX1_tellLateKind 120 = .ok (.invokevirtual 159, 3) := by decide +kernel
theorem dX1_tellLateKind_123 : decode cX1_tellLateKind 123 = .ok (.ifCond .ne 22, 3) := by decide +kernel
theorem dX1_tellLateKind_126 : decode cX1_tellLateKind 126 = .ok (.aload_n 0, 1) := by decide +kernel
theorem dX1_tellLateKind_127 : decode cX1_tellLateKind 127 = .ok (.bipush 8, 2) := by decide +kernel
theorem dX1_tellLateKind_129 : decode cX1_tellLateKind 129 = .ok (.aload_n 0, 1) := by decide +kernel
theorem dX1_tellLateKind_130 : decode cX1_tellLateKind 130 = .ok (.getfield 27, 3) := by decide +kernel
theorem dX1_tellLateKind_133 : decode cX1_tellLateKind 133 = .ok (.bipush 7, 2) := by decide +kernel
theorem dX1_tellLateKind_135 : decode cX1_tellLateKind 135 = .ok (.isub, 1) := by decide +kernel
theorem dX1_tellLateKind_136 : decode cX1_tellLateKind 136 = .ok (.bipush 8, 2) := by decide +kernel
theorem dX1_tellLateKind_138 : decode cX1_tellLateKind 138 = .ok (.iconst 2, 1) := by decide +kernel
theorem dX1_tellLateKind_139 : decode cX1_tellLateKind 139 = .ok (.invokevirtual 53, 3) := by decide +kernel
theorem dX1_tellLateKind_142 : decode cX1_tellLateKind 142 = .ok (.goto 19, 3) := by decide +kernel
theorem dX1_tellLateKind_145 : decode cX1_tellLateKind 145 = .ok (.aload_n 0, 1) := by decide +kernel
theorem dX1_tellLateKind_146 : decode cX1_tellLateKind 146 = .ok (.bipush 9, 2) := by decide +kernel
theorem dX1_tellLateKind_148 : decode cX1_tellLateKind 148 = .ok (.aload_n 0, 1) := by decide +kernel
theorem dX1_tellLateKind_149 : decode cX1_tellLateKind 149 = .ok (.getfield 27, 3) := by decide +kernel
theorem dX1_tellLateKind_152 : decode cX1_tellLateKind 152 = .ok (.bipush 8, 2) := by decide +kernel
theorem dX1_tellLateKind_154 : decode cX1_tellLateKind 154 = .ok (.isub, 1) := by decide +kernel
theorem dX1_tellLateKind_155 : decode cX1_tellLateKind 155 = .ok (.bipush 9, 2) := by decide +kernel
theorem dX1_tellLateKind_157 : decode cX1_tellLateKind 157 = .ok (.iconst 1, 1) := by decide +kernel
theorem dX1_tellLateKind_158 : decode cX1_tellLateKind 158 = .ok (.invokevirtual 53, 3) := by decide +kernel
theorem dX1_tellLateKind_161 : decode cX1_tellLateKind 161 = .ok (.return_, 1) := by decide +kernel
theorem dX2_init_0 : decode cX2_init 0 = .ok (.aload_n 0, 1) := by decide +kernel
theorem dX2_init_1 : decode cX2_init 1 = .ok (.invokespecial 1, 3) := by decide +kernel
theorem dX2_init_4 : decode cX2_init 4 = .ok (.aload_n 0, 1) := by decide +kernel
theorem dX2_init_5 : decode cX2_init 5 = .ok (.new 7, 3) := by decide +kernel
theorem dX2_init_8 : decode cX2_init 8 = .ok (.dup, 1) := by decide +kernel
theorem dX2_init_9 : decode cX2_init 9 = .ok (.invokespecial 9, 3) := by decide +kernel
theorem dX2_init_12 : decode cX2_init 12 = .ok (.putfield 10, 3) := by decide +kernel
theorem dX2_init_15 : decode cX2_init 15 = .ok (.aload_n 0, 1) := by decide +kernel
theorem dX2_init_16 : decode cX2_init 16 = .ok (.new 7, 3) := by decide +kernel
theorem dX2_init_19 : decode cX2_init 19 = .ok (.dup, 1) := by decide +kernel
theorem dX2_init_20 : decode cX2_init 20 = .ok (.invokespecial 9, 3) := by decide +kernel
theorem dX2_init_23 : decode cX2_init 23 = .ok (.putfield 16, 3) := by decide +kernel
theorem dX2_init_26 : decode cX2_init 26 = .ok (.aload_n 0, 1) := by decide +kernel
theorem dX2_init_27 : decode cX2_init 27 = .ok (.lconst 1, 1) := by decide +kernel
theorem dX2_init_28 : decode cX2_init 28 = .ok (.putfield 19, 3) := by decide +kernel
theorem dX2_init_31 : decode cX2_init 31 = .ok (.aload_n 0, 1) := by decide +kernel
theorem dX2_init_32 : decode cX2_init 32 = .ok (.new 23, 3) := by decide +kernel
theorem dX2_init_35 : decode cX2_init 35 = .ok (.dup, 1) := by decide +kernel
theorem dX2_init_36 : decode cX2_init 36 = .ok (.invokespecial 25, 3) := by decide +kernel
theorem dX2_init_39 : decode cX2_init 39 = .ok (.putfield 26, 3) := by decide +kernel
theorem dX2_init_42 : decode cX2_init 42 = .ok (.aload_n 0, 1) := by decide +kernel
theorem dX2_init_43 : decode cX2_init 43 = .ok (.iconst 0, 1) := by decide +kernel
theorem dX2_init_44 : decode cX2_init 44 = .ok (.putfield 30, 3) := by decide +kernel
theorem dX2_init_47 : decode cX2_init 47 = .ok (.return_, 1) := by decide +kernel
theorem dX2_hold_0 : decode cX2_hold 0 = .ok (.aload_n 0, 1) := by decide +kernel
theorem dX2_hold_1 : decode cX2_hold 1 = .ok (.getfield 10, 3) := by decide +kernel
theorem dX2_hold_4 : decode cX2_hold 4 = .ok (.aload_n 1, 1) := by decide +kernel
theorem dX2_hold_5 : decode cX2_hold 5 = .ok (.invokevirtual 34, 3) := by decide +kernel
theorem dX2_hold_8 : decode cX2_hold 8 = .ok (.aload_n 0, 1) := by decide +kernel
theorem dX2_hold_9 : decode cX2_hold 9 = .ok (.aload_n 0, 1) := by decide +kernel
theorem dX2_hold_10 : decode cX2_hold 10 = .ok (.getfield 10, 3) := by decide +kernel
theorem dX2_hold_13 : decode cX2_hold 13 = .ok (.getfield 38, 3) := by decide +kernel
theorem dX2_hold_16 : decode cX2_hold 16 = .ok (.aload_n 0, 1) := by decide +kernel
theorem dX2_hold_17 : decode cX2_hold 17 = .ok (.getfield 10, 3) := by decide +kernel
theorem dX2_hold_20 : decode cX2_hold 20 = .ok (.getfield 41, 3) := by decide +kernel
theorem dX2_hold_23 : decode cX2_hold 23 = .ok (.aload_n 0, 1) := by decide +kernel
theorem dX2_hold_24 : decode cX2_hold 24 = .ok (.getfield 10, 3) := by decide +kernel
theorem dX2_hold_27 : decode cX2_hold 27 = .ok (.getfield 44, 3) := by decide +kernel
theorem dX2_hold_30 : decode cX2_hold 30 = .ok (.aload_n 0, 1) := by decide +kernel
theorem dX2_hold_31 : decode cX2_hold 31 = .ok (.getfield 16, 3) := by decide +kernel
theorem dX2_hold_34 : decode cX2_hold 34 = .ok (.invokestatic 47, 3) := by decide +kernel
theorem dX2_hold_37 : decode cX2_hold 37 = .ok (.putfield 19, 3) := by decide +kernel
theorem dX2_hold_40 : decode cX2_hold 40 = .ok (.aload_n 0, 1) := by decide +kernel
theorem dX2_hold_41 : decode cX2_hold 41 = .ok (.iconst 0, 1) := by decide +kernel
theorem dX2_hold_42 : decode cX2_hold 42 = .ok (.putfield 30, 3) := by decide +kernel
theorem dX2_hold_45 : decode cX2_hold 45 = .ok (.return_, 1) := by decide +kernel
theorem dX2_primesOfDisc_0 : decode cX2_primesOfDisc 0 = .ok (.aload_n 0, 1) := by decide +kernel
theorem dX2_primesOfDisc_1 : decode cX2_primesOfDisc 1 = .ok (.getfield 30, 3) := by decide +kernel
theorem dX2_primesOfDisc_4 : decode cX2_primesOfDisc 4 = .ok (.ifCond .ne 22, 3) := by decide +kernel
theorem dX2_primesOfDisc_7 : decode cX2_primesOfDisc 7 = .ok (.aload_n 0, 1) := by decide +kernel
theorem dX2_primesOfDisc_8 : decode cX2_primesOfDisc 8 = .ok (.getfield 26, 3) := by decide +kernel
theorem dX2_primesOfDisc_11 : decode cX2_primesOfDisc 11 = .ok (.aload_n 0, 1) := by decide +kernel
theorem dX2_primesOfDisc_12 : decode cX2_primesOfDisc 12 = .ok (.getfield 10, 3) := by decide +kernel
theorem dX2_primesOfDisc_15 : decode cX2_primesOfDisc 15 = .ok (.getfield 44, 3) := by decide +kernel
theorem dX2_primesOfDisc_18 : decode cX2_primesOfDisc 18 = .ok (.invokevirtual 53, 3) := by decide +kernel
theorem dX2_primesOfDisc_21 : decode cX2_primesOfDisc 21 = .ok (.aload_n 0, 1) := by decide +kernel
theorem dX2_primesOfDisc_22 : decode cX2_primesOfDisc 22 = .ok (.iconst 1, 1) := by decide +kernel
theorem dX2_primesOfDisc_23 : decode cX2_primesOfDisc 23 = .ok (.putfield 30, 3) := by decide +kernel
theorem dX2_primesOfDisc_26 : decode cX2_primesOfDisc 26 = .ok (.aload_n 0, 1) := by decide +kernel
theorem dX2_primesOfDisc_27 : decode cX2_primesOfDisc 27 = .ok (.getfield 26, 3) := by decide +kernel
theorem dX2_primesOfDisc_30 : decode cX2_primesOfDisc 30 = .ok (.areturn, 1) := by decide +kernel
theorem dX3_lower_0 : decode cX3_lower 0 = .ok (.lconst 1, 1) := by decide +kernel
theorem dX3_lower_1 : decode cX3_lower 1 = .ok (.lstore 7, 2) := by decide +kernel
theorem dX3_lower_3 : decode cX3_lower 3 = .ok (.lload_n 0, 1) := by decide +kernel
theorem dX3_lower_4 : decode cX3_lower 4 = .ok (.lstore 9, 2) := by decide +kernel
theorem dX3_lower_6 : decode cX3_lower 6 = .ok (.lload_n 2, 1) := by decide +kernel
theorem dX3_lower_7 : decode cX3_lower 7 = .ok (.lstore 11, 2) := by decide +kernel
theorem dX3_lower_9 : decode cX3_lower 9 = .ok (.getstatic 7, 3) := by decide +kernel
theorem dX3_lower_12 : decode cX3_lower 12 = .ok (.astore 13, 2) := by decide +kernel
theorem dX3_lower_14 : decode cX3_lower 14 = .ok (.aload 13, 2) := by decide +kernel
theorem dX3_lower_16 : decode cX3_lower 16 = .ok (.arraylength, 1) := by decide +kernel
theorem dX3_lower_17 : decode cX3_lower 17 = .ok (.istore 14, 2) := by decide +kernel
theorem dX3_lower_19 : decode cX3_lower 19 = .ok (.iconst 0, 1) := by decide +kernel
theorem dX3_lower_20 : decode cX3_lower 20 = .ok (.istore 15, 2) := by decide +kernel
theorem dX3_lower_22 : decode cX3_lower 22 = .ok (.iload 15, 2) := by decide +kernel
theorem dX3_lower_24 : decode cX3_lower 24 = .ok (.iload 14, 2) := by decide +kernel
theorem dX3_lower_26 : decode cX3_lower 26 = .ok (.if_icmp .ge 116, 3) := by decide +kernel
theorem dX3_lower_29 : decode cX3_lower 29 = .ok (.aload 13, 2) := by decide +kernel
theorem dX3_lower_31 : decode cX3_lower 31 = .ok (.iload 15, 2) := by decide +kernel
theorem dX3_lower_33 : decode cX3_lower 33 = .ok (.iaload, 1) := by decide +kernel
theorem dX3_lower_34 : decode cX3_lower 34 = .ok (.istore 16, 2) := by decide +kernel
theorem dX3_lower_36 : decode cX3_lower 36 = .ok (.lload 9, 2) := by decide +kernel
theorem dX3_lower_38 : decode cX3_lower 38 = .ok (.lload 11, 2) := by decide +kernel
theorem dX3_lower_40 : decode cX3_lower 40 = .ok (.lload 4, 2) := by decide +kernel
theorem dX3_lower_42 : decode cX3_lower 42 = .ok (.iload 16, 2) := by decide +kernel
theorem dX3_lower_44 : decode cX3_lower 44 = .ok (.i2l, 1) := by decide +kernel
theorem dX3_lower_45 : decode cX3_lower 45 = .ok (.invokestatic 13, 3) := by decide +kernel
theorem dX3_lower_48 : decode cX3_lower 48 = .ok (.istore 17, 2) := by decide +kernel
theorem dX3_lower_50 : decode cX3_lower 50 = .ok (.iload 17, 2) := by decide +kernel
theorem dX3_lower_52 : decode cX3_lower 52 = .ok (.ifCond .le 42, 3) := by decide +kernel
theorem dX3_lower_55 : decode cX3_lower 55 = .ok (.lload 9, 2) := by decide +kernel
theorem dX3_lower_57 : decode cX3_lower 57 = .ok (.iload 16, 2) := by decide +kernel
theorem dX3_lower_59 : decode cX3_lower 59 = .ok (.i2l, 1) := by decide +kernel
theorem dX3_lower_60 : decode cX3_lower 60 = .ok (.iconst 4, 1) := by decide +kernel
theorem dX3_lower_61 : decode cX3_lower 61 = .ok (.iload 17, 2) := by decide +kernel
theorem dX3_lower_63 : decode cX3_lower 63 = .ok (.imul, 1) := by decide +kernel
theorem dX3_lower_64 : decode cX3_lower 64 = .ok (.invokestatic 19, 3) := by decide +kernel
theorem dX3_lower_67 : decode cX3_lower 67 = .ok (.lload 11, 2) := by decide +kernel
theorem dX3_lower_69 : decode cX3_lower 69 = .ok (.iload 16, 2) := by decide +kernel
theorem dX3_lower_71 : decode cX3_lower 71 = .ok (.i2l, 1) := by decide +kernel
theorem dX3_lower_72 : decode cX3_lower 72 = .ok (.bipush 6, 2) := by decide +kernel
theorem dX3_lower_74 : decode cX3_lower 74 = .ok (.iload 17, 2) := by decide +kernel
theorem dX3_lower_76 : decode cX3_lower 76 = .ok (.imul, 1) := by decide +kernel
theorem dX3_lower_77 : decode cX3_lower 77 = .ok (.invokestatic 19, 3) := by decide +kernel
theorem dX3_lower_80 : decode cX3_lower 80 = .ok (.iload 16, 2) := by decide +kernel
theorem dX3_lower_82 : decode cX3_lower 82 = .ok (.invokestatic 23, 3) := by decide +kernel
theorem dX3_lower_85 : decode cX3_lower 85 = .ok (.ifCond .ne 9, 3) := by decide +kernel
theorem dX3_lower_88 : decode cX3_lower 88 = .ok (.iinc 17 (-1), 3) := by decide +kernel
theorem dX3_lower_91 : decode cX3_lower 91 = .ok (.goto (-41), 3) := by decide +kernel
theorem dX3_lower_94 : decode cX3_lower 94 = .ok (.lload 9, 2) := by decide +kernel
theorem dX3_lower_96 : decode cX3_lower 96 = .ok (.iload 16, 2) := by decide +kernel
theorem dX3_lower_98 : decode cX3_lower 98 = .ok (.i2l, 1) := by decide +kernel
theorem dX3_lower_99 : decode cX3_lower 99 = .ok (.iconst 4, 1) := by decide +kernel
theorem dX3_lower_100 : decode cX3_lower 100 = .ok (.iload 17, 2) := by decide +kernel
theorem dX3_lower_102 : decode cX3_lower 102 = .ok (.imul, 1) := by decide +kernel
theorem dX3_lower_103 : decode cX3_lower 103 = .ok (.invokestatic 19, 3) := by decide +kernel
theorem dX3_lower_106 : decode cX3_lower 106 = .ok (.lstore 9, 2) := by decide +kernel
theorem dX3_lower_108 : decode cX3_lower 108 = .ok (.lload 11, 2) := by decide +kernel
theorem dX3_lower_110 : decode cX3_lower 110 = .ok (.iload 16, 2) := by decide +kernel
theorem dX3_lower_112 : decode cX3_lower 112 = .ok (.i2l, 1) := by decide +kernel
theorem dX3_lower_113 : decode cX3_lower 113 = .ok (.bipush 6, 2) := by decide +kernel
theorem dX3_lower_115 : decode cX3_lower 115 = .ok (.iload 17, 2) := by decide +kernel
theorem dX3_lower_117 : decode cX3_lower 117 = .ok (.imul, 1) := by decide +kernel
theorem dX3_lower_118 : decode cX3_lower 118 = .ok (.invokestatic 19, 3) := by decide +kernel
theorem dX3_lower_121 : decode cX3_lower 121 = .ok (.lstore 11, 2) := by decide +kernel
theorem dX3_lower_123 : decode cX3_lower 123 = .ok (.lload 7, 2) := by decide +kernel
theorem dX3_lower_125 : decode cX3_lower 125 = .ok (.iload 16, 2) := by decide +kernel
theorem dX3_lower_127 : decode cX3_lower 127 = .ok (.i2l, 1) := by decide +kernel
theorem dX3_lower_128 : decode cX3_lower 128 = .ok (.iload 17, 2) := by decide +kernel
theorem dX3_lower_130 : decode cX3_lower 130 = .ok (.invokestatic 27, 3) := by decide +kernel
theorem dX3_lower_133 : decode cX3_lower 133 = .ok (.lmul, 1) := by decide +kernel
theorem dX3_lower_134 : decode cX3_lower 134 = .ok (.lstore 7, 2) := by decide +kernel
theorem dX3_lower_136 : decode cX3_lower 136 = .ok (.iinc 15 1, 3) := by decide +kernel
theorem dX3_lower_139 : decode cX3_lower 139 = .ok (.goto (-117), 3) := by decide +kernel
theorem dX3_lower_142 : decode cX3_lower 142 = .ok (.lload 9, 2) := by decide +kernel
theorem dX3_lower_144 : decode cX3_lower 144 = .ok (.lload 11, 2) := by decide +kernel
theorem dX3_lower_146 : decode cX3_lower 146 = .ok (.aload 6, 2) := by decide +kernel
theorem dX3_lower_148 : decode cX3_lower 148 = .ok (.invokestatic 33, 3) := by decide +kernel
theorem dX3_lower_151 : decode cX3_lower 151 = .ok (.lload 7, 2) := by decide +kernel
theorem dX3_lower_153 : decode cX3_lower 153 = .ok (.lreturn, 1) := by decide +kernel
theorem dX3_mostShrinks_0 : decode cX3_mostShrinks 0 = .ok (.lload 4, 2) := by decide +kernel
theorem dX3_mostShrinks_2 : decode cX3_mostShrinks 2 = .ok (.lload 6, 2) := by decide +kernel
theorem dX3_mostShrinks_4 : decode cX3_mostShrinks 4 = .ok (.invokestatic 37, 3) := by decide +kernel
theorem dX3_mostShrinks_7 : decode cX3_mostShrinks 7 = .ok (.bipush 12, 2) := by decide +kernel
theorem dX3_mostShrinks_9 : decode cX3_mostShrinks 9 = .ok (.idiv, 1) := by decide +kernel
theorem dX3_mostShrinks_10 : decode cX3_mostShrinks 10 = .ok (.istore 8, 2) := by decide +kernel
theorem dX3_mostShrinks_12 : decode cX3_mostShrinks 12 = .ok (.lload_n 0, 1) := by decide +kernel
theorem dX3_mostShrinks_13 : decode cX3_mostShrinks 13 = .ok (.lconst 0, 1) := by decide +kernel
theorem dX3_mostShrinks_14 : decode cX3_mostShrinks 14 = .ok (.lcmp, 1) := by decide +kernel
theorem dX3_mostShrinks_15 : decode cX3_mostShrinks 15 = .ok (.ifCond .eq 18, 3) := by decide +kernel
theorem dX3_mostShrinks_18 : decode cX3_mostShrinks 18 = .ok (.iload 8, 2) := by decide +kernel
theorem dX3_mostShrinks_20 : decode cX3_mostShrinks 20 = .ok (.lload_n 0, 1) := by decide +kernel
theorem dX3_mostShrinks_21 : decode cX3_mostShrinks 21 = .ok (.lload 6, 2) := by decide +kernel
theorem dX3_mostShrinks_23 : decode cX3_mostShrinks 23 = .ok (.invokestatic 37, 3) := by decide +kernel
theorem dX3_mostShrinks_26 : decode cX3_mostShrinks 26 = .ok (.iconst 4, 1) := by decide +kernel
theorem dX3_mostShrinks_27 : decode cX3_mostShrinks 27 = .ok (.idiv, 1) := by decide +kernel
theorem dX3_mostShrinks_28 : decode cX3_mostShrinks 28 = .ok (.invokestatic 41, 3) := by decide +kernel
theorem dX3_mostShrinks_31 : decode cX3_mostShrinks 31 = .ok (.istore 8, 2) := by decide +kernel
theorem dX3_mostShrinks_33 : decode cX3_mostShrinks 33 = .ok (.lload_n 2, 1) := by decide +kernel
theorem dX3_mostShrinks_34 : decode cX3_mostShrinks 34 = .ok (.lconst 0, 1) := by decide +kernel
theorem dX3_mostShrinks_35 : decode cX3_mostShrinks 35 = .ok (.lcmp, 1) := by decide +kernel
theorem dX3_mostShrinks_36 : decode cX3_mostShrinks 36 = .ok (.ifCond .eq 19, 3) := by decide +kernel
theorem dX3_mostShrinks_39 : decode cX3_mostShrinks 39 = .ok (.iload 8, 2) := by decide +kernel
theorem dX3_mostShrinks_41 : decode cX3_mostShrinks 41 = .ok (.lload_n 2, 1) := by decide +kernel
theorem dX3_mostShrinks_42 : decode cX3_mostShrinks 42 = .ok (.lload 6, 2) := by decide +kernel
theorem dX3_mostShrinks_44 : decode cX3_mostShrinks 44 = .ok (.invokestatic 37, 3) := by decide +kernel
theorem dX3_mostShrinks_47 : decode cX3_mostShrinks 47 = .ok (.bipush 6, 2) := by decide +kernel
theorem dX3_mostShrinks_49 : decode cX3_mostShrinks 49 = .ok (.idiv, 1) := by decide +kernel
theorem dX3_mostShrinks_50 : decode cX3_mostShrinks 50 = .ok (.invokestatic 41, 3) := by decide +kernel
theorem dX3_mostShrinks_53 : decode cX3_mostShrinks 53 = .ok (.istore 8, 2) := by decide +kernel
theorem dX3_mostShrinks_55 : decode cX3_mostShrinks 55 = .ok (.iload 8, 2) := by decide +kernel
theorem dX3_mostShrinks_57 : decode cX3_mostShrinks 57 = .ok (.ireturn, 1) := by decide +kernel
theorem dX3_shrunk_0 : decode cX3_shrunk 0 = .ok (.lload_n 0, 1) := by decide +kernel
theorem dX3_shrunk_1 : decode cX3_shrunk 1 = .ok (.lload_n 2, 1) := by decide +kernel
theorem dX3_shrunk_2 : decode cX3_shrunk 2 = .ok (.iload 4, 2) := by decide +kernel
theorem dX3_shrunk_4 : decode cX3_shrunk 4 = .ok (.invokestatic 27, 3) := by decide +kernel
theorem dX3_shrunk_7 : decode cX3_shrunk 7 = .ok (.invokestatic 47, 3) := by decide +kernel
theorem dX3_shrunk_10 : decode cX3_shrunk 10 = .ok (.lreturn, 1) := by decide +kernel
theorem dX3_isWhole_0 : decode cX3_isWhole 0 = .ok (.iload 4, 2) := by decide +kernel
theorem dX3_isWhole_2 : decode cX3_isWhole 2 = .ok (.iconst 2, 1) := by decide +kernel
theorem dX3_isWhole_3 : decode cX3_isWhole 3 = .ok (.if_icmp .ne 60, 3) := by decide +kernel
theorem dX3_isWhole_6 : decode cX3_isWhole 6 = .ok (.lload_n 2, 1) := by decide +kernel
theorem dX3_isWhole_7 : decode cX3_isWhole 7 = .ok (.ldc2_w 51, 3) := by decide +kernel
theorem dX3_isWhole_10 : decode cX3_isWhole 10 = .ok (.invokestatic 53, 3) := by decide +kernel
theorem dX3_isWhole_13 : decode cX3_isWhole 13 = .ok (.lstore 5, 2) := by decide +kernel
theorem dX3_isWhole_15 : decode cX3_isWhole 15 = .ok (.lload_n 2, 1) := by decide +kernel
theorem dX3_isWhole_16 : decode cX3_isWhole 16 = .ok (.ldc2_w 56, 3) := by decide +kernel
theorem dX3_isWhole_19 : decode cX3_isWhole 19 = .ok (.invokestatic 53, 3) := by decide +kernel
theorem dX3_isWhole_22 : decode cX3_isWhole 22 = .ok (.ldc2_w 58, 3) := by decide +kernel
theorem dX3_isWhole_25 : decode cX3_isWhole 25 = .ok (.lcmp, 1) := by decide +kernel
theorem dX3_isWhole_26 : decode cX3_isWhole 26 = .ok (.ifCond .eq 31, 3) := by decide +kernel
theorem dX3_isWhole_29 : decode cX3_isWhole 29 = .ok (.lload_n 0, 1) := by decide +kernel
theorem dX3_isWhole_30 : decode cX3_isWhole 30 = .ok (.ldc2_w 60, 3) := by decide +kernel
theorem dX3_isWhole_33 : decode cX3_isWhole 33 = .ok (.invokestatic 53, 3) := by decide +kernel
theorem dX3_isWhole_36 : decode cX3_isWhole 36 = .ok (.lconst 0, 1) := by decide +kernel
theorem dX3_isWhole_37 : decode cX3_isWhole 37 = .ok (.lcmp, 1) := by decide +kernel
theorem dX3_isWhole_38 : decode cX3_isWhole 38 = .ok (.ifCond .ne 23, 3) := by decide +kernel
theorem dX3_isWhole_41 : decode cX3_isWhole 41 = .ok (.lload 5, 2) := by decide +kernel
theorem dX3_isWhole_43 : decode cX3_isWhole 43 = .ok (.lconst 0, 1) := by decide +kernel
theorem dX3_isWhole_44 : decode cX3_isWhole 44 = .ok (.lcmp, 1) := by decide +kernel
theorem dX3_isWhole_45 : decode cX3_isWhole 45 = .ok (.ifCond .eq 12, 3) := by decide +kernel
theorem dX3_isWhole_48 : decode cX3_isWhole 48 = .ok (.lload 5, 2) := by decide +kernel
theorem dX3_isWhole_50 : decode cX3_isWhole 50 = .ok (.ldc2_w 62, 3) := by decide +kernel
theorem dX3_isWhole_53 : decode cX3_isWhole 53 = .ok (.lcmp, 1) := by decide +kernel
theorem dX3_isWhole_54 : decode cX3_isWhole 54 = .ok (.ifCond .ne 7, 3) := by decide +kernel
theorem dX3_isWhole_57 : decode cX3_isWhole 57 = .ok (.iconst 1, 1) := by decide +kernel
theorem dX3_isWhole_58 : decode cX3_isWhole 58 = .ok (.goto 4, 3) := by decide +kernel
theorem dX3_isWhole_61 : decode cX3_isWhole 61 = .ok (.iconst 0, 1) := by decide +kernel
theorem dX3_isWhole_62 : decode cX3_isWhole 62 = .ok (.ireturn, 1) := by decide +kernel
theorem dX3_isWhole_63 : decode cX3_isWhole 63 = .ok (.iload 4, 2) := by decide +kernel
theorem dX3_isWhole_65 : decode cX3_isWhole 65 = .ok (.iconst 3, 1) := by decide +kernel
theorem dX3_isWhole_66 : decode cX3_isWhole 66 = .ok (.if_icmp .ne 27, 3) := by decide +kernel
theorem dX3_isWhole_69 : decode cX3_isWhole 69 = .ok (.lload_n 2, 1) := by decide +kernel
theorem dX3_isWhole_70 : decode cX3_isWhole 70 = .ok (.ldc2_w 64, 3) := by decide +kernel
theorem dX3_isWhole_73 : decode cX3_isWhole 73 = .ok (.invokestatic 53, 3) := by decide +kernel
theorem dX3_isWhole_76 : decode cX3_isWhole 76 = .ok (.lconst 0, 1) := by decide +kernel
theorem dX3_isWhole_77 : decode cX3_isWhole 77 = .ok (.lcmp, 1) := by decide +kernel
theorem dX3_isWhole_78 : decode cX3_isWhole 78 = .ok (.ifCond .ne 15, 3) := by decide +kernel
theorem dX3_isWhole_81 : decode cX3_isWhole 81 = .ok (.lload_n 2, 1) := by decide +kernel
theorem dX3_isWhole_82 : decode cX3_isWhole 82 = .ok (.ldc2_w 66, 3) := by decide +kernel
theorem dX3_isWhole_85 : decode cX3_isWhole 85 = .ok (.invokestatic 53, 3) := by decide +kernel
theorem dX3_isWhole_88 : decode cX3_isWhole 88 = .ok (.lconst 0, 1) := by decide +kernel
theorem dX3_isWhole_89 : decode cX3_isWhole 89 = .ok (.lcmp, 1) := by decide +kernel
theorem dX3_isWhole_90 : decode cX3_isWhole 90 = .ok (.ifCond .ne 7, 3) := by decide +kernel
theorem dX3_isWhole_93 : decode cX3_isWhole 93 = .ok (.iconst 1, 1) := by decide +kernel
theorem dX3_isWhole_94 : decode cX3_isWhole 94 = .ok (.goto 4, 3) := by decide +kernel
theorem dX3_isWhole_97 : decode cX3_isWhole 97 = .ok (.iconst 0, 1) := by decide +kernel
theorem dX3_isWhole_98 : decode cX3_isWhole 98 = .ok (.ireturn, 1) := by decide +kernel
theorem dX3_build_0 : decode cX3_build 0 = .ok (.lload_n 2, 1) := by decide +kernel
theorem dX3_build_1 : decode cX3_build 1 = .ok (.lneg, 1) := by decide +kernel
theorem dX3_build_2 : decode cX3_build 2 = .ok (.ldc2_w 68, 3) := by decide +kernel
theorem dX3_build_5 : decode cX3_build 5 = .ok (.invokestatic 53, 3) := by decide +kernel
theorem dX3_build_8 : decode cX3_build 8 = .ok (.lstore 5, 2) := by decide +kernel
theorem dX3_build_10 : decode cX3_build 10 = .ok (.lload 5, 2) := by decide +kernel
theorem dX3_build_12 : decode cX3_build 12 = .ok (.ldc2_w 70, 3) := by decide +kernel
theorem dX3_build_15 : decode cX3_build 15 = .ok (.lcmp, 1) := by decide +kernel
theorem dX3_build_16 : decode cX3_build 16 = .ok (.ifCond .le 11, 3) := by decide +kernel
theorem dX3_build_19 : decode cX3_build 19 = .ok (.lload 5, 2) := by decide +kernel
theorem dX3_build_21 : decode cX3_build 21 = .ok (.ldc2_w 68, 3) := by decide +kernel
theorem dX3_build_24 : decode cX3_build 24 = .ok (.lsub, 1) := by decide +kernel
theorem dX3_build_25 : decode cX3_build 25 = .ok (.lstore 5, 2) := by decide +kernel
theorem dX3_build_27 : decode cX3_build 27 = .ok (.lload 5, 2) := by decide +kernel
theorem dX3_build_29 : decode cX3_build 29 = .ok (.lload 5, 2) := by decide +kernel
theorem dX3_build_31 : decode cX3_build 31 = .ok (.lmul, 1) := by decide +kernel
theorem dX3_build_32 : decode cX3_build 32 = .ok (.lload_n 0, 1) := by decide +kernel
theorem dX3_build_33 : decode cX3_build 33 = .ok (.lsub, 1) := by decide +kernel
theorem dX3_build_34 : decode cX3_build 34 = .ok (.ldc2_w 72, 3) := by decide +kernel
theorem dX3_build_37 : decode cX3_build 37 = .ok (.invokestatic 47, 3) := by decide +kernel
theorem dX3_build_40 : decode cX3_build 40 = .ok (.lstore 7, 2) := by decide +kernel
theorem dX3_build_42 : decode cX3_build 42 = .ok (.lload 5, 2) := by decide +kernel
theorem dX3_build_44 : decode cX3_build 44 = .ok (.lneg, 1) := by decide +kernel
theorem dX3_build_45 : decode cX3_build 45 = .ok (.lload 5, 2) := by decide +kernel
theorem dX3_build_47 : decode cX3_build 47 = .ok (.lmul, 1) := by decide +kernel
theorem dX3_build_48 : decode cX3_build 48 = .ok (.lload 5, 2) := by decide +kernel
theorem dX3_build_50 : decode cX3_build 50 = .ok (.lmul, 1) := by decide +kernel
theorem dX3_build_51 : decode cX3_build 51 = .ok (.ldc2_w 74, 3) := by decide +kernel
theorem dX3_build_54 : decode cX3_build 54 = .ok (.lload 5, 2) := by decide +kernel
theorem dX3_build_56 : decode cX3_build 56 = .ok (.lmul, 1) := by decide +kernel
theorem dX3_build_57 : decode cX3_build 57 = .ok (.lload 7, 2) := by decide +kernel
theorem dX3_build_59 : decode cX3_build 59 = .ok (.lmul, 1) := by decide +kernel
theorem dX3_build_60 : decode cX3_build 60 = .ok (.ladd, 1) := by decide +kernel
theorem dX3_build_61 : decode cX3_build 61 = .ok (.lload_n 2, 1) := by decide +kernel
theorem dX3_build_62 : decode cX3_build 62 = .ok (.lsub, 1) := by decide +kernel
theorem dX3_build_63 : decode cX3_build 63 = .ok (.ldc2_w 76, 3) := by decide +kernel
theorem dX3_build_66 : decode cX3_build 66 = .ok (.invokestatic 47, 3) := by decide +kernel
theorem dX3_build_69 : decode cX3_build 69 = .ok (.lstore 9, 2) := by decide +kernel
theorem dX3_build_71 : decode cX3_build 71 = .ok (.lload 5, 2) := by decide +kernel
theorem dX3_build_73 : decode cX3_build 73 = .ok (.ldc2_w 78, 3) := by decide +kernel
theorem dX3_build_76 : decode cX3_build 76 = .ok (.invokestatic 53, 3) := by decide +kernel
theorem dX3_build_79 : decode cX3_build 79 = .ok (.lstore 11, 2) := by decide +kernel
theorem dX3_build_81 : decode cX3_build 81 = .ok (.lload 9, 2) := by decide +kernel
theorem dX3_build_83 : decode cX3_build 83 = .ok (.ldc2_w 78, 3) := by decide +kernel
theorem dX3_build_86 : decode cX3_build 86 = .ok (.invokestatic 53, 3) := by decide +kernel
theorem dX3_build_89 : decode cX3_build 89 = .ok (.lstore 13, 2) := by decide +kernel
theorem dX3_build_91 : decode cX3_build 91 = .ok (.aload 4, 2) := by decide +kernel
theorem dX3_build_93 : decode cX3_build 93 = .ok (.lload 11, 2) := by decide +kernel
theorem dX3_build_95 : decode cX3_build 95 = .ok (.lload 5, 2) := by decide +kernel
theorem dX3_build_97 : decode cX3_build 97 = .ok (.lload 11, 2) := by decide +kernel
theorem dX3_build_99 : decode cX3_build 99 = .ok (.lsub, 1) := by decide +kernel
theorem dX3_build_100 : decode cX3_build 100 = .ok (.ldc2_w 56, 3) := by decide +kernel
theorem dX3_build_103 : decode cX3_build 103 = .ok (.invokestatic 47, 3) := by decide +kernel
theorem dX3_build_106 : decode cX3_build 106 = .ok (.lload 13, 2) := by decide +kernel
theorem dX3_build_108 : decode cX3_build 108 = .ok (.lload 7, 2) := by decide +kernel
theorem dX3_build_110 : decode cX3_build 110 = .ok (.lload 11, 2) := by decide +kernel
theorem dX3_build_112 : decode cX3_build 112 = .ok (.lload 13, 2) := by decide +kernel
theorem dX3_build_114 : decode cX3_build 114 = .ok (.lmul, 1) := by decide +kernel
theorem dX3_build_115 : decode cX3_build 115 = .ok (.lsub, 1) := by decide +kernel
theorem dX3_build_116 : decode cX3_build 116 = .ok (.ldc2_w 78, 3) := by decide +kernel
theorem dX3_build_119 : decode cX3_build 119 = .ok (.invokestatic 47, 3) := by decide +kernel
theorem dX3_build_122 : decode cX3_build 122 = .ok (.lload 9, 2) := by decide +kernel
theorem dX3_build_124 : decode cX3_build 124 = .ok (.lload 13, 2) := by decide +kernel
theorem dX3_build_126 : decode cX3_build 126 = .ok (.lsub, 1) := by decide +kernel
theorem dX3_build_127 : decode cX3_build 127 = .ok (.ldc2_w 56, 3) := by decide +kernel
theorem dX3_build_130 : decode cX3_build 130 = .ok (.invokestatic 47, 3) := by decide +kernel
theorem dX3_build_133 : decode cX3_build 133 = .ok (.invokevirtual 80, 3) := by decide +kernel
theorem dX3_build_136 : decode cX3_build 136 = .ok (.return_, 1) := by decide +kernel
theorem dX4_quotient_0 : decode cX4_quotient 0 = .ok (.lload_n 2, 1) := by decide +kernel
theorem dX4_quotient_1 : decode cX4_quotient 1 = .ok (.lconst 0, 1) := by decide +kernel
theorem dX4_quotient_2 : decode cX4_quotient 2 = .ok (.lcmp, 1) := by decide +kernel
theorem dX4_quotient_3 : decode cX4_quotient 3 = .ok (.ifCond .ne 7, 3) := by decide +kernel
theorem dX4_quotient_6 : decode cX4_quotient 6 = .ok (.lconst 0, 1) := by decide +kernel
theorem dX4_quotient_7 : decode cX4_quotient 7 = .ok (.goto 6, 3) := by decide +kernel
theorem dX4_quotient_10 : decode cX4_quotient 10 = .ok (.lload_n 0, 1) := by decide +kernel
theorem dX4_quotient_11 : decode cX4_quotient 11 = .ok (.lload_n 2, 1) := by decide +kernel
theorem dX4_quotient_12 : decode cX4_quotient 12 = .ok (.ldiv, 1) := by decide +kernel
theorem dX4_quotient_13 : decode cX4_quotient 13 = .ok (.lreturn, 1) := by decide +kernel
theorem dX4_rest_0 : decode cX4_rest 0 = .ok (.lload_n 2, 1) := by decide +kernel
theorem dX4_rest_1 : decode cX4_rest 1 = .ok (.lconst 0, 1) := by decide +kernel
theorem dX4_rest_2 : decode cX4_rest 2 = .ok (.lcmp, 1) := by decide +kernel
theorem dX4_rest_3 : decode cX4_rest 3 = .ok (.ifCond .gt 5, 3) := by decide +kernel
theorem dX4_rest_6 : decode cX4_rest 6 = .ok (.lconst 0, 1) := by decide +kernel
theorem dX4_rest_7 : decode cX4_rest 7 = .ok (.lreturn, 1) := by decide +kernel
theorem dX4_rest_8 : decode cX4_rest 8 = .ok (.lload_n 0, 1) := by decide +kernel
theorem dX4_rest_9 : decode cX4_rest 9 = .ok (.lload_n 2, 1) := by decide +kernel
theorem dX4_rest_10 : decode cX4_rest 10 = .ok (.lrem, 1) := by decide +kernel
theorem dX4_rest_11 : decode cX4_rest 11 = .ok (.lstore 4, 2) := by decide +kernel
theorem dX4_rest_13 : decode cX4_rest 13 = .ok (.lload 4, 2) := by decide +kernel
theorem dX4_rest_15 : decode cX4_rest 15 = .ok (.lconst 0, 1) := by decide +kernel
theorem dX4_rest_16 : decode cX4_rest 16 = .ok (.lcmp, 1) := by decide +kernel
theorem dX4_rest_17 : decode cX4_rest 17 = .ok (.ifCond .ge 10, 3) := by decide +kernel
theorem dX4_rest_20 : decode cX4_rest 20 = .ok (.lload 4, 2) := by decide +kernel
theorem dX4_rest_22 : decode cX4_rest 22 = .ok (.lload_n 2, 1) := by decide +kernel
theorem dX4_rest_23 : decode cX4_rest 23 = .ok (.ladd, 1) := by decide +kernel
theorem dX4_rest_24 : decode cX4_rest 24 = .ok (.goto 5, 3) := by decide +kernel
theorem dX4_rest_27 : decode cX4_rest 27 = .ok (.lload 4, 2) := by decide +kernel
theorem dX4_rest_29 : decode cX4_rest 29 = .ok (.lreturn, 1) := by decide +kernel
theorem dX4_power_0 : decode cX4_power 0 = .ok (.lconst 1, 1) := by decide +kernel
theorem dX4_power_1 : decode cX4_power 1 = .ok (.lstore_n 3, 1) := by decide +kernel
theorem dX4_power_2 : decode cX4_power 2 = .ok (.iconst 0, 1) := by decide +kernel
theorem dX4_power_3 : decode cX4_power 3 = .ok (.istore 5, 2) := by decide +kernel
theorem dX4_power_5 : decode cX4_power 5 = .ok (.iload 5, 2) := by decide +kernel
theorem dX4_power_7 : decode cX4_power 7 = .ok (.iload_n 2, 1) := by decide +kernel
theorem dX4_power_8 : decode cX4_power 8 = .ok (.if_icmp .ge 13, 3) := by decide +kernel
theorem dX4_power_11 : decode cX4_power 11 = .ok (.lload_n 3, 1) := by decide +kernel
theorem dX4_power_12 : decode cX4_power 12 = .ok (.lload_n 0, 1) := by decide +kernel
theorem dX4_power_13 : decode cX4_power 13 = .ok (.lmul, 1) := by decide +kernel
theorem dX4_power_14 : decode cX4_power 14 = .ok (.lstore_n 3, 1) := by decide +kernel
theorem dX4_power_15 : decode cX4_power 15 = .ok (.iinc 5 1, 3) := by decide +kernel
theorem dX4_power_18 : decode cX4_power 18 = .ok (.goto (-13), 3) := by decide +kernel
theorem dX4_power_21 : decode cX4_power 21 = .ok (.lload_n 3, 1) := by decide +kernel
theorem dX4_power_22 : decode cX4_power 22 = .ok (.lreturn, 1) := by decide +kernel
theorem dX4_powerRest_0 : decode cX4_powerRest 0 = .ok (.lload 4, 2) := by decide +kernel
theorem dX4_powerRest_2 : decode cX4_powerRest 2 = .ok (.lconst 0, 1) := by decide +kernel
theorem dX4_powerRest_3 : decode cX4_powerRest 3 = .ok (.lcmp, 1) := by decide +kernel
theorem dX4_powerRest_4 : decode cX4_powerRest 4 = .ok (.ifCond .gt 5, 3) := by decide +kernel
theorem dX4_powerRest_7 : decode cX4_powerRest 7 = .ok (.lconst 0, 1) := by decide +kernel
theorem dX4_powerRest_8 : decode cX4_powerRest 8 = .ok (.lreturn, 1) := by decide +kernel
theorem dX4_powerRest_9 : decode cX4_powerRest 9 = .ok (.lconst 1, 1) := by decide +kernel
theorem dX4_powerRest_10 : decode cX4_powerRest 10 = .ok (.lstore 6, 2) := by decide +kernel
theorem dX4_powerRest_12 : decode cX4_powerRest 12 = .ok (.lload_n 0, 1) := by decide +kernel
theorem dX4_powerRest_13 : decode cX4_powerRest 13 = .ok (.lload 4, 2) := by decide +kernel
theorem dX4_powerRest_15 : decode cX4_powerRest 15 = .ok (.lrem, 1) := by decide +kernel
theorem dX4_powerRest_16 : decode cX4_powerRest 16 = .ok (.lstore 8, 2) := by decide +kernel
theorem dX4_powerRest_18 : decode cX4_powerRest 18 = .ok (.lload_n 2, 1) := by decide +kernel
theorem dX4_powerRest_19 : decode cX4_powerRest 19 = .ok (.lstore 10, 2) := by decide +kernel
theorem dX4_powerRest_21 : decode cX4_powerRest 21 = .ok (.lload 10, 2) := by decide +kernel
theorem dX4_powerRest_23 : decode cX4_powerRest 23 = .ok (.lconst 0, 1) := by decide +kernel
theorem dX4_powerRest_24 : decode cX4_powerRest 24 = .ok (.lcmp, 1) := by decide +kernel
theorem dX4_powerRest_25 : decode cX4_powerRest 25 = .ok (.ifCond .le 41, 3) := by decide +kernel
theorem dX4_powerRest_28 : decode cX4_powerRest 28 = .ok (.lload 10, 2) := by decide +kernel
theorem dX4_powerRest_30 : decode cX4_powerRest 30 = .ok (.lconst 1, 1) := by decide +kernel
theorem dX4_powerRest_31 : decode cX4_powerRest 31 = .ok (.land, 1) := by decide +kernel
theorem dX4_powerRest_32 : decode cX4_powerRest 32 = .ok (.lconst 1, 1) := by decide +kernel
theorem dX4_powerRest_33 : decode cX4_powerRest 33 = .ok (.lcmp, 1) := by decide +kernel
theorem dX4_powerRest_34 : decode cX4_powerRest 34 = .ok (.ifCond .ne 13, 3) := by decide +kernel
theorem dX4_powerRest_37 : decode cX4_powerRest 37 = .ok (.lload 6, 2) := by decide +kernel
theorem dX4_powerRest_39 : decode cX4_powerRest 39 = .ok (.lload 8, 2) := by decide +kernel
theorem dX4_powerRest_41 : decode cX4_powerRest 41 = .ok (.lmul, 1) := by decide +kernel
theorem dX4_powerRest_42 : decode cX4_powerRest 42 = .ok (.lload 4, 2) := by decide +kernel
theorem dX4_powerRest_44 : decode cX4_powerRest 44 = .ok (.lrem, 1) := by decide +kernel
theorem dX4_powerRest_45 : decode cX4_powerRest 45 = .ok (.lstore 6, 2) := by decide +kernel
theorem dX4_powerRest_47 : decode cX4_powerRest 47 = .ok (.lload 8, 2) := by decide +kernel
theorem dX4_powerRest_49 : decode cX4_powerRest 49 = .ok (.lload 8, 2) := by decide +kernel
theorem dX4_powerRest_51 : decode cX4_powerRest 51 = .ok (.lmul, 1) := by decide +kernel
theorem dX4_powerRest_52 : decode cX4_powerRest 52 = .ok (.lload 4, 2) := by decide +kernel
theorem dX4_powerRest_54 : decode cX4_powerRest 54 = .ok (.lrem, 1) := by decide +kernel
theorem dX4_powerRest_55 : decode cX4_powerRest 55 = .ok (.lstore 8, 2) := by decide +kernel
theorem dX4_powerRest_57 : decode cX4_powerRest 57 = .ok (.lload 10, 2) := by decide +kernel
theorem dX4_powerRest_59 : decode cX4_powerRest 59 = .ok (.iconst 1, 1) := by decide +kernel
theorem dX4_powerRest_60 : decode cX4_powerRest 60 = .ok (.lshr, 1) := by decide +kernel
theorem dX4_powerRest_61 : decode cX4_powerRest 61 = .ok (.lstore 10, 2) := by decide +kernel
theorem dX4_powerRest_63 : decode cX4_powerRest 63 = .ok (.goto (-42), 3) := by decide +kernel
theorem dX4_powerRest_66 : decode cX4_powerRest 66 = .ok (.lload 6, 2) := by decide +kernel
theorem dX4_powerRest_68 : decode cX4_powerRest 68 = .ok (.lload 4, 2) := by decide +kernel
theorem dX4_powerRest_70 : decode cX4_powerRest 70 = .ok (.lrem, 1) := by decide +kernel
theorem dX4_powerRest_71 : decode cX4_powerRest 71 = .ok (.lstore 6, 2) := by decide +kernel
theorem dX4_powerRest_73 : decode cX4_powerRest 73 = .ok (.lload 6, 2) := by decide +kernel
theorem dX4_powerRest_75 : decode cX4_powerRest 75 = .ok (.lconst 0, 1) := by decide +kernel
theorem dX4_powerRest_76 : decode cX4_powerRest 76 = .ok (.lcmp, 1) := by decide +kernel
theorem dX4_powerRest_77 : decode cX4_powerRest 77 = .ok (.ifCond .ge 11, 3) := by decide +kernel
theorem dX4_powerRest_80 : decode cX4_powerRest 80 = .ok (.lload 6, 2) := by decide +kernel
theorem dX4_powerRest_82 : decode cX4_powerRest 82 = .ok (.lload 4, 2) := by decide +kernel
theorem dX4_powerRest_84 : decode cX4_powerRest 84 = .ok (.ladd, 1) := by decide +kernel
theorem dX4_powerRest_85 : decode cX4_powerRest 85 = .ok (.goto 5, 3) := by decide +kernel
theorem dX4_powerRest_88 : decode cX4_powerRest 88 = .ok (.lload 6, 2) := by decide +kernel
theorem dX4_powerRest_90 : decode cX4_powerRest 90 = .ok (.lreturn, 1) := by decide +kernel
theorem dX4_times_0 : decode cX4_times 0 = .ok (.lload_n 2, 1) := by decide +kernel
theorem dX4_times_1 : decode cX4_times 1 = .ok (.ldc2_w 7, 3) := by decide +kernel
theorem dX4_times_4 : decode cX4_times 4 = .ok (.lcmp, 1) := by decide +kernel
theorem dX4_times_5 : decode cX4_times 5 = .ok (.ifCond .lt 9, 3) := by decide +kernel
theorem dX4_times_8 : decode cX4_times 8 = .ok (.lload_n 0, 1) := by decide +kernel
theorem dX4_times_9 : decode cX4_times 9 = .ok (.lconst 0, 1) := by decide +kernel
theorem dX4_times_10 : decode cX4_times 10 = .ok (.lcmp, 1) := by decide +kernel
theorem dX4_times_11 : decode cX4_times 11 = .ok (.ifCond .ne 5, 3) := by decide +kernel
theorem dX4_times_14 : decode cX4_times 14 = .ok (.iconst 0, 1) := by decide +kernel
theorem dX4_times_15 : decode cX4_times 15 = .ok (.ireturn, 1) := by decide +kernel
theorem dX4_times_16 : decode cX4_times 16 = .ok (.iconst 0, 1) := by decide +kernel
theorem dX4_times_17 : decode cX4_times 17 = .ok (.istore 4, 2) := by decide +kernel
theorem dX4_times_19 : decode cX4_times 19 = .ok (.lload_n 0, 1) := by decide +kernel
theorem dX4_times_20 : decode cX4_times 20 = .ok (.lstore 5, 2) := by decide +kernel
theorem dX4_times_22 : decode cX4_times 22 = .ok (.lload 5, 2) := by decide +kernel
theorem dX4_times_24 : decode cX4_times 24 = .ok (.lload_n 2, 1) := by decide +kernel
theorem dX4_times_25 : decode cX4_times 25 = .ok (.lrem, 1) := by decide +kernel
theorem dX4_times_26 : decode cX4_times 26 = .ok (.lconst 0, 1) := by decide +kernel
theorem dX4_times_27 : decode cX4_times 27 = .ok (.lcmp, 1) := by decide +kernel
theorem dX4_times_28 : decode cX4_times 28 = .ok (.ifCond .ne 22, 3) := by decide +kernel
theorem dX4_times_31 : decode cX4_times 31 = .ok (.iload 4, 2) := by decide +kernel
theorem dX4_times_33 : decode cX4_times 33 = .ok (.bipush 64, 2) := by decide +kernel
theorem dX4_times_35 : decode cX4_times 35 = .ok (.if_icmp .ge 15, 3) := by decide +kernel
theorem dX4_times_38 : decode cX4_times 38 = .ok (.iinc 4 1, 3) := by decide +kernel
theorem dX4_times_41 : decode cX4_times 41 = .ok (.lload 5, 2) := by decide +kernel
theorem dX4_times_43 : decode cX4_times 43 = .ok (.lload_n 2, 1) := by decide +kernel
theorem dX4_times_44 : decode cX4_times 44 = .ok (.ldiv, 1) := by decide +kernel
theorem dX4_times_45 : decode cX4_times 45 = .ok (.lstore 5, 2) := by decide +kernel
theorem dX4_times_47 : decode cX4_times 47 = .ok (.goto (-25), 3) := by decide +kernel
theorem dX4_times_50 : decode cX4_times 50 = .ok (.iload 4, 2) := by decide +kernel
theorem dX4_times_52 : decode cX4_times 52 = .ok (.ireturn, 1) := by decide +kernel
theorem dX4_isPrime_0 : decode cX4_isPrime 0 = .ok (.iload_n 0, 1) := by decide +kernel
theorem dX4_isPrime_1 : decode cX4_isPrime 1 = .ok (.iconst 4, 1) := by decide +kernel
theorem dX4_isPrime_2 : decode cX4_isPrime 2 = .ok (.if_icmp .ge 19, 3) := by decide +kernel
theorem dX4_isPrime_5 : decode cX4_isPrime 5 = .ok (.iload_n 0, 1) := by decide +kernel
theorem dX4_isPrime_6 : decode cX4_isPrime 6 = .ok (.iconst 2, 1) := by decide +kernel
theorem dX4_isPrime_7 : decode cX4_isPrime 7 = .ok (.if_icmp .eq 8, 3) := by decide +kernel
theorem dX4_isPrime_10 : decode cX4_isPrime 10 = .ok (.iload_n 0, 1) := by decide +kernel
theorem dX4_isPrime_11 : decode cX4_isPrime 11 = .ok (.iconst 3, 1) := by decide +kernel
theorem dX4_isPrime_12 : decode cX4_isPrime 12 = .ok (.if_icmp .ne 7, 3) := by decide +kernel
theorem dX4_isPrime_15 : decode cX4_isPrime 15 = .ok (.iconst 1, 1) := by decide +kernel
theorem dX4_isPrime_16 : decode cX4_isPrime 16 = .ok (.goto 4, 3) := by decide +kernel
theorem dX4_isPrime_19 : decode cX4_isPrime 19 = .ok (.iconst 0, 1) := by decide +kernel
theorem dX4_isPrime_20 : decode cX4_isPrime 20 = .ok (.ireturn, 1) := by decide +kernel
theorem dX4_isPrime_21 : decode cX4_isPrime 21 = .ok (.iload_n 0, 1) := by decide +kernel
theorem dX4_isPrime_22 : decode cX4_isPrime 22 = .ok (.iconst 2, 1) := by decide +kernel
theorem dX4_isPrime_23 : decode cX4_isPrime 23 = .ok (.irem, 1) := by decide +kernel
theorem dX4_isPrime_24 : decode cX4_isPrime 24 = .ok (.ifCond .eq 9, 3) := by decide +kernel
theorem dX4_isPrime_27 : decode cX4_isPrime 27 = .ok (.iload_n 0, 1) := by decide +kernel
theorem dX4_isPrime_28 : decode cX4_isPrime 28 = .ok (.iconst 3, 1) := by decide +kernel
theorem dX4_isPrime_29 : decode cX4_isPrime 29 = .ok (.irem, 1) := by decide +kernel
theorem dX4_isPrime_30 : decode cX4_isPrime 30 = .ok (.ifCond .ne 5, 3) := by decide +kernel
theorem dX4_isPrime_33 : decode cX4_isPrime 33 = .ok (.iconst 0, 1) := by decide +kernel
theorem dX4_isPrime_34 : decode cX4_isPrime 34 = .ok (.ireturn, 1) := by decide +kernel
theorem dX4_isPrime_35 : decode cX4_isPrime 35 = .ok (.iconst 5, 1) := by decide +kernel
theorem dX4_isPrime_36 : decode cX4_isPrime 36 = .ok (.istore_n 1, 1) := by decide +kernel
theorem dX4_isPrime_37 : decode cX4_isPrime 37 = .ok (.iload_n 1, 1) := by decide +kernel
theorem dX4_isPrime_38 : decode cX4_isPrime 38 = .ok (.ldc 9, 2) := by decide +kernel
theorem dX4_isPrime_40 : decode cX4_isPrime 40 = .ok (.if_icmp .gt 32, 3) := by decide +kernel
theorem dX4_isPrime_43 : decode cX4_isPrime 43 = .ok (.iload_n 1, 1) := by decide +kernel
theorem dX4_isPrime_44 : decode cX4_isPrime 44 = .ok (.iload_n 1, 1) := by decide +kernel
theorem dX4_isPrime_45 : decode cX4_isPrime 45 = .ok (.imul, 1) := by decide +kernel
theorem dX4_isPrime_46 : decode cX4_isPrime 46 = .ok (.iload_n 0, 1) := by decide +kernel
theorem dX4_isPrime_47 : decode cX4_isPrime 47 = .ok (.if_icmp .gt 25, 3) := by decide +kernel
theorem dX4_isPrime_50 : decode cX4_isPrime 50 = .ok (.iload_n 0, 1) := by decide +kernel
theorem dX4_isPrime_51 : decode cX4_isPrime 51 = .ok (.iload_n 1, 1) := by decide +kernel
theorem dX4_isPrime_52 : decode cX4_isPrime 52 = .ok (.irem, 1) := by decide +kernel
theorem dX4_isPrime_53 : decode cX4_isPrime 53 = .ok (.ifCond .eq 11, 3) := by decide +kernel
theorem dX4_isPrime_56 : decode cX4_isPrime 56 = .ok (.iload_n 0, 1) := by decide +kernel
theorem dX4_isPrime_57 : decode cX4_isPrime 57 = .ok (.iload_n 1, 1) := by decide +kernel
theorem dX4_isPrime_58 : decode cX4_isPrime 58 = .ok (.iconst 2, 1) := by decide +kernel
theorem dX4_isPrime_59 : decode cX4_isPrime 59 = .ok (.iadd, 1) := by decide +kernel
theorem dX4_isPrime_60 : decode cX4_isPrime 60 = .ok (.irem, 1) := by decide +kernel
theorem dX4_isPrime_61 : decode cX4_isPrime 61 = .ok (.ifCond .ne 5, 3) := by decide +kernel
theorem dX4_isPrime_64 : decode cX4_isPrime 64 = .ok (.iconst 0, 1) := by decide +kernel
theorem dX4_isPrime_65 : decode cX4_isPrime 65 = .ok (.ireturn, 1) := by decide +kernel
theorem dX4_isPrime_66 : decode cX4_isPrime 66 = .ok (.iinc 1 6, 3) := by decide +kernel
theorem dX4_isPrime_69 : decode cX4_isPrime 69 = .ok (.goto (-32), 3) := by decide +kernel
theorem dX4_isPrime_72 : decode cX4_isPrime 72 = .ok (.iconst 1, 1) := by decide +kernel
theorem dX4_isPrime_73 : decode cX4_isPrime 73 = .ok (.ireturn, 1) := by decide +kernel
theorem dX4_isSquareAt_0 : decode cX4_isSquareAt 0 = .ok (.lload_n 0, 1) := by decide +kernel
theorem dX4_isSquareAt_1 : decode cX4_isSquareAt 1 = .ok (.lload_n 2, 1) := by decide +kernel
theorem dX4_isSquareAt_2 : decode cX4_isSquareAt 2 = .ok (.lconst 1, 1) := by decide +kernel
theorem dX4_isSquareAt_3 : decode cX4_isSquareAt 3 = .ok (.lsub, 1) := by decide +kernel
theorem dX4_isSquareAt_4 : decode cX4_isSquareAt 4 = .ok (.iconst 1, 1) := by decide +kernel
theorem dX4_isSquareAt_5 : decode cX4_isSquareAt 5 = .ok (.lshr, 1) := by decide +kernel
theorem dX4_isSquareAt_6 : decode cX4_isSquareAt 6 = .ok (.lload_n 2, 1) := by decide +kernel
theorem dX4_isSquareAt_7 : decode cX4_isSquareAt 7 = .ok (.invokestatic 10, 3) := by decide +kernel
theorem dX4_isSquareAt_10 : decode cX4_isSquareAt 10 = .ok (.lconst 1, 1) := by decide +kernel
theorem dX4_isSquareAt_11 : decode cX4_isSquareAt 11 = .ok (.lcmp, 1) := by decide +kernel
theorem dX4_isSquareAt_12 : decode cX4_isSquareAt 12 = .ok (.ifCond .ne 7, 3) := by decide +kernel
theorem dX4_isSquareAt_15 : decode cX4_isSquareAt 15 = .ok (.iconst 1, 1) := by decide +kernel
theorem dX4_isSquareAt_16 : decode cX4_isSquareAt 16 = .ok (.goto 4, 3) := by decide +kernel
theorem dX4_isSquareAt_19 : decode cX4_isSquareAt 19 = .ok (.iconst 0, 1) := by decide +kernel
theorem dX4_isSquareAt_20 : decode cX4_isSquareAt 20 = .ok (.ireturn, 1) := by decide +kernel
theorem dX4_squareRoot_0 : decode cX4_squareRoot 0 = .ok (.lconst 0, 1) := by decide +kernel
theorem dX4_squareRoot_1 : decode cX4_squareRoot 1 = .ok (.lstore_n 2, 1) := by decide +kernel
theorem dX4_squareRoot_2 : decode cX4_squareRoot 2 = .ok (.ldc2_w 16, 3) := by decide +kernel
theorem dX4_squareRoot_5 : decode cX4_squareRoot 5 = .ok (.lstore 4, 2) := by decide +kernel
theorem dX4_squareRoot_7 : decode cX4_squareRoot 7 = .ok (.lload 4, 2) := by decide +kernel
theorem dX4_squareRoot_9 : decode cX4_squareRoot 9 = .ok (.lconst 0, 1) := by decide +kernel
theorem dX4_squareRoot_10 : decode cX4_squareRoot 10 = .ok (.lcmp, 1) := by decide +kernel
theorem dX4_squareRoot_11 : decode cX4_squareRoot 11 = .ok (.ifCond .le 31, 3) := by decide +kernel
theorem dX4_squareRoot_14 : decode cX4_squareRoot 14 = .ok (.lload_n 2, 1) := by decide +kernel
theorem dX4_squareRoot_15 : decode cX4_squareRoot 15 = .ok (.lload 4, 2) := by decide +kernel
theorem dX4_squareRoot_17 : decode cX4_squareRoot 17 = .ok (.ladd, 1) := by decide +kernel
theorem dX4_squareRoot_18 : decode cX4_squareRoot 18 = .ok (.lstore 6, 2) := by decide +kernel
theorem dX4_squareRoot_20 : decode cX4_squareRoot 20 = .ok (.lload 6, 2) := by decide +kernel
theorem dX4_squareRoot_22 : decode cX4_squareRoot 22 = .ok (.lload 6, 2) := by decide +kernel
theorem dX4_squareRoot_24 : decode cX4_squareRoot 24 = .ok (.lmul, 1) := by decide +kernel
theorem dX4_squareRoot_25 : decode cX4_squareRoot 25 = .ok (.lload_n 0, 1) := by decide +kernel
theorem dX4_squareRoot_26 : decode cX4_squareRoot 26 = .ok (.lcmp, 1) := by decide +kernel
theorem dX4_squareRoot_27 : decode cX4_squareRoot 27 = .ok (.ifCond .gt 6, 3) := by decide +kernel
theorem dX4_squareRoot_30 : decode cX4_squareRoot 30 = .ok (.lload 6, 2) := by decide +kernel
theorem dX4_squareRoot_32 : decode cX4_squareRoot 32 = .ok (.lstore_n 2, 1) := by decide +kernel
theorem dX4_squareRoot_33 : decode cX4_squareRoot 33 = .ok (.lload 4, 2) := by decide +kernel
theorem dX4_squareRoot_35 : decode cX4_squareRoot 35 = .ok (.iconst 1, 1) := by decide +kernel
theorem dX4_squareRoot_36 : decode cX4_squareRoot 36 = .ok (.lshr, 1) := by decide +kernel
theorem dX4_squareRoot_37 : decode cX4_squareRoot 37 = .ok (.lstore 4, 2) := by decide +kernel
theorem dX4_squareRoot_39 : decode cX4_squareRoot 39 = .ok (.goto (-32), 3) := by decide +kernel
theorem dX4_squareRoot_42 : decode cX4_squareRoot 42 = .ok (.lload_n 2, 1) := by decide +kernel
theorem dX4_squareRoot_43 : decode cX4_squareRoot 43 = .ok (.lreturn, 1) := by decide +kernel
theorem dX5_init_0 : decode cX5_init 0 = .ok (.aload_n 0, 1) := by decide +kernel
theorem dX5_init_1 : decode cX5_init 1 = .ok (.invokespecial 3, 3) := by decide +kernel
theorem dX5_init_4 : decode cX5_init 4 = .ok (.aload_n 0, 1) := by decide +kernel
theorem dX5_init_5 : decode cX5_init 5 = .ok (.bipush 16, 2) := by decide +kernel
theorem dX5_init_7 : decode cX5_init 7 = .ok (.newarray .int, 2) := by decide +kernel
theorem dX5_init_9 : decode cX5_init 9 = .ok (.putfield 9, 3) := by decide +kernel
theorem dX5_init_12 : decode cX5_init 12 = .ok (.aload_n 0, 1) := by decide +kernel
theorem dX5_init_13 : decode cX5_init 13 = .ok (.iconst 0, 1) := by decide +kernel
theorem dX5_init_14 : decode cX5_init 14 = .ok (.putfield 15, 3) := by decide +kernel
theorem dX5_init_17 : decode cX5_init 17 = .ok (.return_, 1) := by decide +kernel
theorem dX5_get_0 : decode cX5_get 0 = .ok (.iload_n 1, 1) := by decide +kernel
theorem dX5_get_1 : decode cX5_get 1 = .ok (.ifCond .lt 20, 3) := by decide +kernel
theorem dX5_get_4 : decode cX5_get 4 = .ok (.iload_n 1, 1) := by decide +kernel
theorem dX5_get_5 : decode cX5_get 5 = .ok (.aload_n 0, 1) := by decide +kernel
theorem dX5_get_6 : decode cX5_get 6 = .ok (.getfield 15, 3) := by decide +kernel
theorem dX5_get_9 : decode cX5_get 9 = .ok (.if_icmp .ge 12, 3) := by decide +kernel
theorem dX5_get_12 : decode cX5_get 12 = .ok (.aload_n 0, 1) := by decide +kernel
theorem dX5_get_13 : decode cX5_get 13 = .ok (.getfield 9, 3) := by decide +kernel
theorem dX5_get_16 : decode cX5_get 16 = .ok (.iload_n 1, 1) := by decide +kernel
theorem dX5_get_17 : decode cX5_get 17 = .ok (.iaload, 1) := by decide +kernel
theorem dX5_get_18 : decode cX5_get 18 = .ok (.goto 4, 3) := by decide +kernel
theorem dX5_get_21 : decode cX5_get 21 = .ok (.iconst (-1), 1) := by decide +kernel
theorem dX5_get_22 : decode cX5_get 22 = .ok (.ireturn, 1) := by decide +kernel
theorem dX5_find_0 : decode cX5_find 0 = .ok (.aload_n 0, 1) := by decide +kernel
theorem dX5_find_1 : decode cX5_find 1 = .ok (.iconst 0, 1) := by decide +kernel
theorem dX5_find_2 : decode cX5_find 2 = .ok (.putfield 15, 3) := by decide +kernel
theorem dX5_find_5 : decode cX5_find 5 = .ok (.aload_n 0, 1) := by decide +kernel
theorem dX5_find_6 : decode cX5_find 6 = .ok (.aload_n 0, 1) := by decide +kernel
theorem dX5_find_7 : decode cX5_find 7 = .ok (.lload_n 1, 1) := by decide +kernel
theorem dX5_find_8 : decode cX5_find 8 = .ok (.invokestatic 19, 3) := by decide +kernel
theorem dX5_find_11 : decode cX5_find 11 = .ok (.iconst 2, 1) := by decide +kernel
theorem dX5_find_12 : decode cX5_find 12 = .ok (.invokevirtual 25, 3) := by decide +kernel
theorem dX5_find_15 : decode cX5_find 15 = .ok (.iconst 3, 1) := by decide +kernel
theorem dX5_find_16 : decode cX5_find 16 = .ok (.invokevirtual 25, 3) := by decide +kernel
theorem dX5_find_19 : decode cX5_find 19 = .ok (.lstore_n 3, 1) := by decide +kernel
theorem dX5_find_20 : decode cX5_find 20 = .ok (.iconst 5, 1) := by decide +kernel
theorem dX5_find_21 : decode cX5_find 21 = .ok (.istore 5, 2) := by decide +kernel
theorem dX5_find_23 : decode cX5_find 23 = .ok (.iload 5, 2) := by decide +kernel
theorem dX5_find_25 : decode cX5_find 25 = .ok (.ldc 29, 2) := by decide +kernel
theorem dX5_find_27 : decode cX5_find 27 = .ok (.if_icmp .ge 59, 3) := by decide +kernel
theorem dX5_find_30 : decode cX5_find 30 = .ok (.iload 5, 2) := by decide +kernel
theorem dX5_find_32 : decode cX5_find 32 = .ok (.i2l, 1) := by decide +kernel
theorem dX5_find_33 : decode cX5_find 33 = .ok (.iload 5, 2) := by decide +kernel
theorem dX5_find_35 : decode cX5_find 35 = .ok (.i2l, 1) := by decide +kernel
theorem dX5_find_36 : decode cX5_find 36 = .ok (.lmul, 1) := by decide +kernel
theorem dX5_find_37 : decode cX5_find 37 = .ok (.lload_n 3, 1) := by decide +kernel
theorem dX5_find_38 : decode cX5_find 38 = .ok (.lcmp, 1) := by decide +kernel
theorem dX5_find_39 : decode cX5_find 39 = .ok (.ifCond .gt 47, 3) := by decide +kernel
theorem dX5_find_42 : decode cX5_find 42 = .ok (.lload_n 3, 1) := by decide +kernel
theorem dX5_find_43 : decode cX5_find 43 = .ok (.iload 5, 2) := by decide +kernel
theorem dX5_find_45 : decode cX5_find 45 = .ok (.i2l, 1) := by decide +kernel
theorem dX5_find_46 : decode cX5_find 46 = .ok (.lrem, 1) := by decide +kernel
theorem dX5_find_47 : decode cX5_find 47 = .ok (.lconst 0, 1) := by decide +kernel
theorem dX5_find_48 : decode cX5_find 48 = .ok (.lcmp, 1) := by decide +kernel
theorem dX5_find_49 : decode cX5_find 49 = .ok (.ifCond .eq 15, 3) := by decide +kernel
theorem dX5_find_52 : decode cX5_find 52 = .ok (.lload_n 3, 1) := by decide +kernel
theorem dX5_find_53 : decode cX5_find 53 = .ok (.iload 5, 2) := by decide +kernel
theorem dX5_find_55 : decode cX5_find 55 = .ok (.iconst 2, 1) := by decide +kernel
theorem dX5_find_56 : decode cX5_find 56 = .ok (.iadd, 1) := by decide +kernel
theorem dX5_find_57 : decode cX5_find 57 = .ok (.i2l, 1) := by decide +kernel
theorem dX5_find_58 : decode cX5_find 58 = .ok (.lrem, 1) := by decide +kernel
theorem dX5_find_59 : decode cX5_find 59 = .ok (.lconst 0, 1) := by decide +kernel
theorem dX5_find_60 : decode cX5_find 60 = .ok (.lcmp, 1) := by decide +kernel
theorem dX5_find_61 : decode cX5_find 61 = .ok (.ifCond .ne 19, 3) := by decide +kernel
theorem dX5_find_64 : decode cX5_find 64 = .ok (.aload_n 0, 1) := by decide +kernel
theorem dX5_find_65 : decode cX5_find 65 = .ok (.aload_n 0, 1) := by decide +kernel
theorem dX5_find_66 : decode cX5_find 66 = .ok (.lload_n 3, 1) := by decide +kernel
theorem dX5_find_67 : decode cX5_find 67 = .ok (.iload 5, 2) := by decide +kernel
theorem dX5_find_69 : decode cX5_find 69 = .ok (.invokevirtual 25, 3) := by decide +kernel
theorem dX5_find_72 : decode cX5_find 72 = .ok (.iload 5, 2) := by decide +kernel
theorem dX5_find_74 : decode cX5_find 74 = .ok (.iconst 2, 1) := by decide +kernel
theorem dX5_find_75 : decode cX5_find 75 = .ok (.iadd, 1) := by decide +kernel
theorem dX5_find_76 : decode cX5_find 76 = .ok (.invokevirtual 25, 3) := by decide +kernel
theorem dX5_find_79 : decode cX5_find 79 = .ok (.lstore_n 3, 1) := by decide +kernel
theorem dX5_find_80 : decode cX5_find 80 = .ok (.iinc 5 6, 3) := by decide +kernel
theorem dX5_find_83 : decode cX5_find 83 = .ok (.goto (-60), 3) := by decide +kernel
theorem dX5_find_86 : decode cX5_find 86 = .ok (.lload_n 3, 1) := by decide +kernel
theorem dX5_find_87 : decode cX5_find 87 = .ok (.lconst 1, 1) := by decide +kernel
theorem dX5_find_88 : decode cX5_find 88 = .ok (.lcmp, 1) := by decide +kernel
theorem dX5_find_89 : decode cX5_find 89 = .ok (.ifCond .le 8, 3) := by decide +kernel
theorem dX5_find_92 : decode cX5_find 92 = .ok (.aload_n 0, 1) := by decide +kernel
theorem dX5_find_93 : decode cX5_find 93 = .ok (.lload_n 3, 1) := by decide +kernel
theorem dX5_find_94 : decode cX5_find 94 = .ok (.invokevirtual 30, 3) := by decide +kernel
theorem dX5_find_97 : decode cX5_find 97 = .ok (.return_, 1) := by decide +kernel
theorem dX5_without_0 : decode cX5_without 0 = .ok (.lload_n 1, 1) := by decide +kernel
theorem dX5_without_1 : decode cX5_without 1 = .ok (.iload_n 3, 1) := by decide +kernel
theorem dX5_without_2 : decode cX5_without 2 = .ok (.i2l, 1) := by decide +kernel
theorem dX5_without_3 : decode cX5_without 3 = .ok (.invokestatic 34, 3) := by decide +kernel
theorem dX5_without_6 : decode cX5_without 6 = .ok (.lconst 0, 1) := by decide +kernel
theorem dX5_without_7 : decode cX5_without 7 = .ok (.lcmp, 1) := by decide +kernel
theorem dX5_without_8 : decode cX5_without 8 = .ok (.ifCond .eq 5, 3) := by decide +kernel
theorem dX5_without_11 : decode cX5_without 11 = .ok (.lload_n 1, 1) := by decide +kernel
theorem dX5_without_12 : decode cX5_without 12 = .ok (.lreturn, 1) := by decide +kernel
theorem dX5_without_13 : decode cX5_without 13 = .ok (.aload_n 0, 1) := by decide +kernel
theorem dX5_without_14 : decode cX5_without 14 = .ok (.iload_n 3, 1) := by decide +kernel
theorem dX5_without_15 : decode cX5_without 15 = .ok (.i2l, 1) := by decide +kernel
theorem dX5_without_16 : decode cX5_without 16 = .ok (.invokevirtual 30, 3) := by decide +kernel
theorem dX5_without_19 : decode cX5_without 19 = .ok (.lload_n 1, 1) := by decide +kernel
theorem dX5_without_20 : decode cX5_without 20 = .ok (.iload_n 3, 1) := by decide +kernel
theorem dX5_without_21 : decode cX5_without 21 = .ok (.i2l, 1) := by decide +kernel
theorem dX5_without_22 : decode cX5_without 22 = .ok (.lload_n 1, 1) := by decide +kernel
theorem dX5_without_23 : decode cX5_without 23 = .ok (.iload_n 3, 1) := by decide +kernel
theorem dX5_without_24 : decode cX5_without 24 = .ok (.i2l, 1) := by decide +kernel
theorem dX5_without_25 : decode cX5_without 25 = .ok (.invokestatic 40, 3) := by decide +kernel
theorem dX5_without_28 : decode cX5_without 28 = .ok (.invokestatic 44, 3) := by decide +kernel
theorem dX5_without_31 : decode cX5_without 31 = .ok (.invokestatic 47, 3) := by decide +kernel
theorem dX5_without_34 : decode cX5_without 34 = .ok (.lreturn, 1) := by decide +kernel
theorem dX5_add_0 : decode cX5_add 0 = .ok (.aload_n 0, 1) := by decide +kernel
theorem dX5_add_1 : decode cX5_add 1 = .ok (.getfield 15, 3) := by decide +kernel
theorem dX5_add_4 : decode cX5_add 4 = .ok (.aload_n 0, 1) := by decide +kernel
theorem dX5_add_5 : decode cX5_add 5 = .ok (.getfield 9, 3) := by decide +kernel
theorem dX5_add_8 : decode cX5_add 8 = .ok (.arraylength, 1) := by decide +kernel
theorem dX5_add_9 : decode cX5_add 9 = .ok (.if_icmp .ge 24, 3) := by decide +kernel
theorem dX5_add_12 : decode cX5_add 12 = .ok (.aload_n 0, 1) := by decide +kernel
theorem dX5_add_13 : decode cX5_add 13 = .ok (.getfield 9, 3) := by decide +kernel
theorem dX5_add_16 : decode cX5_add 16 = .ok (.aload_n 0, 1) := by decide +kernel
theorem dX5_add_17 : decode cX5_add 17 = .ok (.getfield 15, 3) := by decide +kernel
theorem dX5_add_20 : decode cX5_add 20 = .ok (.lload_n 1, 1) := by decide +kernel
theorem dX5_add_21 : decode cX5_add 21 = .ok (.l2i, 1) := by decide +kernel
theorem dX5_add_22 : decode cX5_add 22 = .ok (.iastore, 1) := by decide +kernel
theorem dX5_add_23 : decode cX5_add 23 = .ok (.aload_n 0, 1) := by decide +kernel
theorem dX5_add_24 : decode cX5_add 24 = .ok (.dup, 1) := by decide +kernel
theorem dX5_add_25 : decode cX5_add 25 = .ok (.getfield 15, 3) := by decide +kernel
theorem dX5_add_28 : decode cX5_add 28 = .ok (.iconst 1, 1) := by decide +kernel
theorem dX5_add_29 : decode cX5_add 29 = .ok (.iadd, 1) := by decide +kernel
theorem dX5_add_30 : decode cX5_add 30 = .ok (.putfield 15, 3) := by decide +kernel
theorem dX5_add_33 : decode cX5_add 33 = .ok (.return_, 1) := by decide +kernel
theorem dX6_init_0 : decode cX6_init 0 = .ok (.aload_n 0, 1) := by decide +kernel
theorem dX6_init_1 : decode cX6_init 1 = .ok (.invokespecial 3, 3) := by decide +kernel
theorem dX6_init_4 : decode cX6_init 4 = .ok (.aload_n 0, 1) := by decide +kernel
theorem dX6_init_5 : decode cX6_init 5 = .ok (.sipush 242, 3) := by decide +kernel
theorem dX6_init_8 : decode cX6_init 8 = .ok (.newarray .int, 2) := by decide +kernel
theorem dX6_init_10 : decode cX6_init 10 = .ok (.putfield 11, 3) := by decide +kernel
theorem dX6_init_13 : decode cX6_init 13 = .ok (.aload_n 0, 1) := by decide +kernel
theorem dX6_init_14 : decode cX6_init 14 = .ok (.sipush 242, 3) := by decide +kernel
theorem dX6_init_17 : decode cX6_init 17 = .ok (.newarray .int, 2) := by decide +kernel
theorem dX6_init_19 : decode cX6_init 19 = .ok (.putfield 15, 3) := by decide +kernel
theorem dX6_init_22 : decode cX6_init 22 = .ok (.aload_n 0, 1) := by decide +kernel
theorem dX6_init_23 : decode cX6_init 23 = .ok (.iconst 0, 1) := by decide +kernel
theorem dX6_init_24 : decode cX6_init 24 = .ok (.putfield 18, 3) := by decide +kernel
theorem dX6_init_27 : decode cX6_init 27 = .ok (.return_, 1) := by decide +kernel
theorem dX6_find_0 : decode cX6_find 0 = .ok (.aload_n 0, 1) := by decide +kernel
theorem dX6_find_1 : decode cX6_find 1 = .ok (.iconst 0, 1) := by decide +kernel
theorem dX6_find_2 : decode cX6_find 2 = .ok (.putfield 18, 3) := by decide +kernel
theorem dX6_find_5 : decode cX6_find 5 = .ok (.bipush (-60), 2) := by decide +kernel
theorem dX6_find_7 : decode cX6_find 7 = .ok (.istore_n 2, 1) := by decide +kernel
theorem dX6_find_8 : decode cX6_find 8 = .ok (.iload_n 2, 1) := by decide +kernel
theorem dX6_find_9 : decode cX6_find 9 = .ok (.bipush 60, 2) := by decide +kernel
theorem dX6_find_11 : decode cX6_find 11 = .ok (.if_icmp .gt 79, 3) := by decide +kernel
theorem dX6_find_14 : decode cX6_find 14 = .ok (.aload_n 1, 1) := by decide +kernel
theorem dX6_find_15 : decode cX6_find 15 = .ok (.iload_n 2, 1) := by decide +kernel
theorem dX6_find_16 : decode cX6_find 16 = .ok (.i2l, 1) := by decide +kernel
theorem dX6_find_17 : decode cX6_find 17 = .ok (.invokevirtual 22, 3) := by decide +kernel
theorem dX6_find_20 : decode cX6_find 20 = .ok (.lstore_n 3, 1) := by decide +kernel
theorem dX6_find_21 : decode cX6_find 21 = .ok (.lload_n 3, 1) := by decide +kernel
theorem dX6_find_22 : decode cX6_find 22 = .ok (.invokestatic 28, 3) := by decide +kernel
theorem dX6_find_25 : decode cX6_find 25 = .ok (.lstore 5, 2) := by decide +kernel
theorem dX6_find_27 : decode cX6_find 27 = .ok (.lload_n 3, 1) := by decide +kernel
theorem dX6_find_28 : decode cX6_find 28 = .ok (.lconst 0, 1) := by decide +kernel
theorem dX6_find_29 : decode cX6_find 29 = .ok (.lcmp, 1) := by decide +kernel
theorem dX6_find_30 : decode cX6_find 30 = .ok (.ifCond .lt 54, 3) := by decide +kernel
theorem dX6_find_33 : decode cX6_find 33 = .ok (.lload 5, 2) := by decide +kernel
theorem dX6_find_35 : decode cX6_find 35 = .ok (.lload 5, 2) := by decide +kernel
theorem dX6_find_37 : decode cX6_find 37 = .ok (.lmul, 1) := by decide +kernel
theorem dX6_find_38 : decode cX6_find 38 = .ok (.lload_n 3, 1) := by decide +kernel
theorem dX6_find_39 : decode cX6_find 39 = .ok (.lcmp, 1) := by decide +kernel
theorem dX6_find_40 : decode cX6_find 40 = .ok (.ifCond .ne 44, 3) := by decide +kernel
theorem dX6_find_43 : decode cX6_find 43 = .ok (.aload_n 1, 1) := by decide +kernel
theorem dX6_find_44 : decode cX6_find 44 = .ok (.iload_n 2, 1) := by decide +kernel
theorem dX6_find_45 : decode cX6_find 45 = .ok (.i2l, 1) := by decide +kernel
theorem dX6_find_46 : decode cX6_find 46 = .ok (.invokevirtual 33, 3) := by decide +kernel
theorem dX6_find_49 : decode cX6_find 49 = .ok (.lstore 7, 2) := by decide +kernel
theorem dX6_find_51 : decode cX6_find 51 = .ok (.aload_n 0, 1) := by decide +kernel
theorem dX6_find_52 : decode cX6_find 52 = .ok (.iload_n 2, 1) := by decide +kernel
theorem dX6_find_53 : decode cX6_find 53 = .ok (.lload 7, 2) := by decide +kernel
theorem dX6_find_55 : decode cX6_find 55 = .ok (.lneg, 1) := by decide +kernel
theorem dX6_find_56 : decode cX6_find 56 = .ok (.lload 5, 2) := by decide +kernel
theorem dX6_find_58 : decode cX6_find 58 = .ok (.lsub, 1) := by decide +kernel
theorem dX6_find_59 : decode cX6_find 59 = .ok (.iconst 1, 1) := by decide +kernel
theorem dX6_find_60 : decode cX6_find 60 = .ok (.lshr, 1) := by decide +kernel
theorem dX6_find_61 : decode cX6_find 61 = .ok (.invokevirtual 36, 3) := by decide +kernel
theorem dX6_find_64 : decode cX6_find 64 = .ok (.lload 5, 2) := by decide +kernel
theorem dX6_find_66 : decode cX6_find 66 = .ok (.lconst 0, 1) := by decide +kernel
theorem dX6_find_67 : decode cX6_find 67 = .ok (.lcmp, 1) := by decide +kernel
theorem dX6_find_68 : decode cX6_find 68 = .ok (.ifCond .eq 16, 3) := by decide +kernel
theorem dX6_find_71 : decode cX6_find 71 = .ok (.aload_n 0, 1) := by decide +kernel
theorem dX6_find_72 : decode cX6_find 72 = .ok (.iload_n 2, 1) := by decide +kernel
theorem dX6_find_73 : decode cX6_find 73 = .ok (.lload 7, 2) := by decide +kernel
theorem dX6_find_75 : decode cX6_find 75 = .ok (.lneg, 1) := by decide +kernel
theorem dX6_find_76 : decode cX6_find 76 = .ok (.lload 5, 2) := by decide +kernel
theorem dX6_find_78 : decode cX6_find 78 = .ok (.ladd, 1) := by decide +kernel
theorem dX6_find_79 : decode cX6_find 79 = .ok (.iconst 1, 1) := by decide +kernel
theorem dX6_find_80 : decode cX6_find 80 = .ok (.lshr, 1) := by decide +kernel
theorem dX6_find_81 : decode cX6_find 81 = .ok (.invokevirtual 36, 3) := by decide +kernel
theorem dX6_find_84 : decode cX6_find 84 = .ok (.iinc 2 1, 3) := by decide +kernel
theorem dX6_find_87 : decode cX6_find 87 = .ok (.goto (-79), 3) := by decide +kernel
theorem dX6_find_90 : decode cX6_find 90 = .ok (.return_, 1) := by decide +kernel
theorem dX6_add_0 : decode cX6_add 0 = .ok (.aload_n 0, 1) := by decide +kernel
theorem dX6_add_1 : decode cX6_add 1 = .ok (.getfield 18, 3) := by decide +kernel
theorem dX6_add_4 : decode cX6_add 4 = .ok (.aload_n 0, 1) := by decide +kernel
theorem dX6_add_5 : decode cX6_add 5 = .ok (.getfield 11, 3) := by decide +kernel
theorem dX6_add_8 : decode cX6_add 8 = .ok (.arraylength, 1) := by decide +kernel
theorem dX6_add_9 : decode cX6_add 9 = .ok (.if_icmp .ge 34, 3) := by decide +kernel
theorem dX6_add_12 : decode cX6_add 12 = .ok (.aload_n 0, 1) := by decide +kernel
theorem dX6_add_13 : decode cX6_add 13 = .ok (.getfield 11, 3) := by decide +kernel
theorem dX6_add_16 : decode cX6_add 16 = .ok (.aload_n 0, 1) := by decide +kernel
theorem dX6_add_17 : decode cX6_add 17 = .ok (.getfield 18, 3) := by decide +kernel
theorem dX6_add_20 : decode cX6_add 20 = .ok (.iload_n 1, 1) := by decide +kernel
theorem dX6_add_21 : decode cX6_add 21 = .ok (.iastore, 1) := by decide +kernel
theorem dX6_add_22 : decode cX6_add 22 = .ok (.aload_n 0, 1) := by decide +kernel
theorem dX6_add_23 : decode cX6_add 23 = .ok (.getfield 15, 3) := by decide +kernel
theorem dX6_add_26 : decode cX6_add 26 = .ok (.aload_n 0, 1) := by decide +kernel
theorem dX6_add_27 : decode cX6_add 27 = .ok (.getfield 18, 3) := by decide +kernel
theorem dX6_add_30 : decode cX6_add 30 = .ok (.lload_n 2, 1) := by decide +kernel
theorem dX6_add_31 : decode cX6_add 31 = .ok (.l2i, 1) := by decide +kernel
theorem dX6_add_32 : decode cX6_add 32 = .ok (.iastore, 1) := by decide +kernel
theorem dX6_add_33 : decode cX6_add 33 = .ok (.aload_n 0, 1) := by decide +kernel
theorem dX6_add_34 : decode cX6_add 34 = .ok (.dup, 1) := by decide +kernel
theorem dX6_add_35 : decode cX6_add 35 = .ok (.getfield 18, 3) := by decide +kernel
theorem dX6_add_38 : decode cX6_add 38 = .ok (.iconst 1, 1) := by decide +kernel
theorem dX6_add_39 : decode cX6_add 39 = .ok (.iadd, 1) := by decide +kernel
theorem dX6_add_40 : decode cX6_add 40 = .ok (.putfield 18, 3) := by decide +kernel
theorem dX6_add_43 : decode cX6_add 43 = .ok (.return_, 1) := by decide +kernel
theorem dX6_opposite_0 : decode cX6_opposite 0 = .ok (.iload_n 2, 1) := by decide +kernel
theorem dX6_opposite_1 : decode cX6_opposite 1 = .ok (.ifCond .lt 11, 3) := by decide +kernel
theorem dX6_opposite_4 : decode cX6_opposite 4 = .ok (.iload_n 2, 1) := by decide +kernel
theorem dX6_opposite_5 : decode cX6_opposite 5 = .ok (.aload_n 0, 1) := by decide +kernel
theorem dX6_opposite_6 : decode cX6_opposite 6 = .ok (.getfield 18, 3) := by decide +kernel
theorem dX6_opposite_9 : decode cX6_opposite 9 = .ok (.if_icmp .lt 5, 3) := by decide +kernel
theorem dX6_opposite_12 : decode cX6_opposite 12 = .ok (.iconst (-1), 1) := by decide +kernel
theorem dX6_opposite_13 : decode cX6_opposite 13 = .ok (.ireturn, 1) := by decide +kernel
theorem dX6_opposite_14 : decode cX6_opposite 14 = .ok (.aload_n 0, 1) := by decide +kernel
theorem dX6_opposite_15 : decode cX6_opposite 15 = .ok (.getfield 15, 3) := by decide +kernel
theorem dX6_opposite_18 : decode cX6_opposite 18 = .ok (.iload_n 2, 1) := by decide +kernel
theorem dX6_opposite_19 : decode cX6_opposite 19 = .ok (.iaload, 1) := by decide +kernel
theorem dX6_opposite_20 : decode cX6_opposite 20 = .ok (.ineg, 1) := by decide +kernel
theorem dX6_opposite_21 : decode cX6_opposite 21 = .ok (.i2l, 1) := by decide +kernel
theorem dX6_opposite_22 : decode cX6_opposite 22 = .ok (.aload_n 1, 1) := by decide +kernel
theorem dX6_opposite_23 : decode cX6_opposite 23 = .ok (.aload_n 0, 1) := by decide +kernel
theorem dX6_opposite_24 : decode cX6_opposite 24 = .ok (.getfield 11, 3) := by decide +kernel
theorem dX6_opposite_27 : decode cX6_opposite 27 = .ok (.iload_n 2, 1) := by decide +kernel
theorem dX6_opposite_28 : decode cX6_opposite 28 = .ok (.iaload, 1) := by decide +kernel
theorem dX6_opposite_29 : decode cX6_opposite 29 = .ok (.i2l, 1) := by decide +kernel
theorem dX6_opposite_30 : decode cX6_opposite 30 = .ok (.invokevirtual 33, 3) := by decide +kernel
theorem dX6_opposite_33 : decode cX6_opposite 33 = .ok (.lsub, 1) := by decide +kernel
theorem dX6_opposite_34 : decode cX6_opposite 34 = .ok (.lstore_n 3, 1) := by decide +kernel
theorem dX6_opposite_35 : decode cX6_opposite 35 = .ok (.iconst 0, 1) := by decide +kernel
theorem dX6_opposite_36 : decode cX6_opposite 36 = .ok (.istore 5, 2) := by decide +kernel
theorem dX6_opposite_38 : decode cX6_opposite 38 = .ok (.iload 5, 2) := by decide +kernel
theorem dX6_opposite_40 : decode cX6_opposite 40 = .ok (.aload_n 0, 1) := by decide +kernel
theorem dX6_opposite_41 : decode cX6_opposite 41 = .ok (.getfield 18, 3) := by decide +kernel
theorem dX6_opposite_44 : decode cX6_opposite 44 = .ok (.if_icmp .ge 41, 3) := by decide +kernel
theorem dX6_opposite_47 : decode cX6_opposite 47 = .ok (.aload_n 0, 1) := by decide +kernel
theorem dX6_opposite_48 : decode cX6_opposite 48 = .ok (.getfield 11, 3) := by decide +kernel
theorem dX6_opposite_51 : decode cX6_opposite 51 = .ok (.iload 5, 2) := by decide +kernel
theorem dX6_opposite_53 : decode cX6_opposite 53 = .ok (.iaload, 1) := by decide +kernel
theorem dX6_opposite_54 : decode cX6_opposite 54 = .ok (.aload_n 0, 1) := by decide +kernel
theorem dX6_opposite_55 : decode cX6_opposite 55 = .ok (.getfield 11, 3) := by decide +kernel
theorem dX6_opposite_58 : decode cX6_opposite 58 = .ok (.iload_n 2, 1) := by decide +kernel
theorem dX6_opposite_59 : decode cX6_opposite 59 = .ok (.iaload, 1) := by decide +kernel
theorem dX6_opposite_60 : decode cX6_opposite 60 = .ok (.if_icmp .ne 19, 3) := by decide +kernel
theorem dX6_opposite_63 : decode cX6_opposite 63 = .ok (.aload_n 0, 1) := by decide +kernel
theorem dX6_opposite_64 : decode cX6_opposite 64 = .ok (.getfield 15, 3) := by decide +kernel
theorem dX6_opposite_67 : decode cX6_opposite 67 = .ok (.iload 5, 2) := by decide +kernel
theorem dX6_opposite_69 : decode cX6_opposite 69 = .ok (.iaload, 1) := by decide +kernel
theorem dX6_opposite_70 : decode cX6_opposite 70 = .ok (.i2l, 1) := by decide +kernel
theorem dX6_opposite_71 : decode cX6_opposite 71 = .ok (.lload_n 3, 1) := by decide +kernel
theorem dX6_opposite_72 : decode cX6_opposite 72 = .ok (.lcmp, 1) := by decide +kernel
theorem dX6_opposite_73 : decode cX6_opposite 73 = .ok (.ifCond .ne 6, 3) := by decide +kernel
theorem dX6_opposite_76 : decode cX6_opposite 76 = .ok (.iload 5, 2) := by decide +kernel
theorem dX6_opposite_78 : decode cX6_opposite 78 = .ok (.ireturn, 1) := by decide +kernel
theorem dX6_opposite_79 : decode cX6_opposite 79 = .ok (.iinc 5 1, 3) := by decide +kernel
theorem dX6_opposite_82 : decode cX6_opposite 82 = .ok (.goto (-44), 3) := by decide +kernel
theorem dX6_opposite_85 : decode cX6_opposite 85 = .ok (.iconst (-1), 1) := by decide +kernel
theorem dX6_opposite_86 : decode cX6_opposite 86 = .ok (.ireturn, 1) := by decide +kernel
theorem dX7_init_0 : decode cX7_init 0 = .ok (.aload_n 0, 1) := by decide +kernel
theorem dX7_init_1 : decode cX7_init 1 = .ok (.invokespecial 1, 3) := by decide +kernel
theorem dX7_init_4 : decode cX7_init 4 = .ok (.aload_n 0, 1) := by decide +kernel
theorem dX7_init_5 : decode cX7_init 5 = .ok (.bipush 16, 2) := by decide +kernel
theorem dX7_init_7 : decode cX7_init 7 = .ok (.anewarray 9, 3) := by decide +kernel
theorem dX7_init_10 : decode cX7_init 10 = .ok (.putfield 11, 3) := by decide +kernel
theorem dX7_init_13 : decode cX7_init 13 = .ok (.iconst 0, 1) := by decide +kernel
theorem dX7_init_14 : decode cX7_init 14 = .ok (.istore_n 1, 1) := by decide +kernel
theorem dX7_init_15 : decode cX7_init 15 = .ok (.iload_n 1, 1) := by decide +kernel
theorem dX7_init_16 : decode cX7_init 16 = .ok (.bipush 16, 2) := by decide +kernel
theorem dX7_init_18 : decode cX7_init 18 = .ok (.if_icmp .ge 22, 3) := by decide +kernel
theorem dX7_init_21 : decode cX7_init 21 = .ok (.aload_n 0, 1) := by decide +kernel
theorem dX7_init_22 : decode cX7_init 22 = .ok (.getfield 11, 3) := by decide +kernel
theorem dX7_init_25 : decode cX7_init 25 = .ok (.iload_n 1, 1) := by decide +kernel
theorem dX7_init_26 : decode cX7_init 26 = .ok (.new 9, 3) := by decide +kernel
theorem dX7_init_29 : decode cX7_init 29 = .ok (.dup, 1) := by decide +kernel
theorem dX7_init_30 : decode cX7_init 30 = .ok (.invokespecial 15, 3) := by decide +kernel
theorem dX7_init_33 : decode cX7_init 33 = .ok (.aastore, 1) := by decide +kernel
theorem dX7_init_34 : decode cX7_init 34 = .ok (.iinc 1 1, 3) := by decide +kernel
theorem dX7_init_37 : decode cX7_init 37 = .ok (.goto (-22), 3) := by decide +kernel
theorem dX7_init_40 : decode cX7_init 40 = .ok (.aload_n 0, 1) := by decide +kernel
theorem dX7_init_41 : decode cX7_init 41 = .ok (.iconst 0, 1) := by decide +kernel
theorem dX7_init_42 : decode cX7_init 42 = .ok (.putfield 16, 3) := by decide +kernel
theorem dX7_init_45 : decode cX7_init 45 = .ok (.aload_n 0, 1) := by decide +kernel
theorem dX7_init_46 : decode cX7_init 46 = .ok (.new 20, 3) := by decide +kernel
theorem dX7_init_49 : decode cX7_init 49 = .ok (.dup, 1) := by decide +kernel
theorem dX7_init_50 : decode cX7_init 50 = .ok (.invokespecial 22, 3) := by decide +kernel
theorem dX7_init_53 : decode cX7_init 53 = .ok (.putfield 23, 3) := by decide +kernel
theorem dX7_init_56 : decode cX7_init 56 = .ok (.aload_n 0, 1) := by decide +kernel
theorem dX7_init_57 : decode cX7_init 57 = .ok (.new 27, 3) := by decide +kernel
theorem dX7_init_60 : decode cX7_init 60 = .ok (.dup, 1) := by decide +kernel
theorem dX7_init_61 : decode cX7_init 61 = .ok (.invokespecial 29, 3) := by decide +kernel
theorem dX7_init_64 : decode cX7_init 64 = .ok (.putfield 30, 3) := by decide +kernel
theorem dX7_init_67 : decode cX7_init 67 = .ok (.aload_n 0, 1) := by decide +kernel
theorem dX7_init_68 : decode cX7_init 68 = .ok (.new 34, 3) := by decide +kernel
theorem dX7_init_71 : decode cX7_init 71 = .ok (.dup, 1) := by decide +kernel
theorem dX7_init_72 : decode cX7_init 72 = .ok (.invokespecial 36, 3) := by decide +kernel
theorem dX7_init_75 : decode cX7_init 75 = .ok (.putfield 37, 3) := by decide +kernel
theorem dX7_init_78 : decode cX7_init 78 = .ok (.aload_n 0, 1) := by decide +kernel
theorem dX7_init_79 : decode cX7_init 79 = .ok (.iconst (-1), 1) := by decide +kernel
theorem dX7_init_80 : decode cX7_init 80 = .ok (.putfield 41, 3) := by decide +kernel
theorem dX7_init_83 : decode cX7_init 83 = .ok (.aload_n 0, 1) := by decide +kernel
theorem dX7_init_84 : decode cX7_init 84 = .ok (.sipush 199, 3) := by decide +kernel
theorem dX7_init_87 : decode cX7_init 87 = .ok (.newarray .int, 2) := by decide +kernel
theorem dX7_init_89 : decode cX7_init 89 = .ok (.putfield 44, 3) := by decide +kernel
theorem dX7_init_92 : decode cX7_init 92 = .ok (.return_, 1) := by decide +kernel
theorem dX7_curve_0 : decode cX7_curve 0 = .ok (.iload_n 1, 1) := by decide +kernel
theorem dX7_curve_1 : decode cX7_curve 1 = .ok (.i2l, 1) := by decide +kernel
theorem dX7_curve_2 : decode cX7_curve 2 = .ok (.ldc2_w 48, 3) := by decide +kernel
theorem dX7_curve_5 : decode cX7_curve 5 = .ok (.invokestatic 50, 3) := by decide +kernel
theorem dX7_curve_8 : decode cX7_curve 8 = .ok (.ifCond .eq 49, 3) := by decide +kernel
theorem dX7_curve_11 : decode cX7_curve 11 = .ok (.iload_n 2, 1) := by decide +kernel
theorem dX7_curve_12 : decode cX7_curve 12 = .ok (.i2l, 1) := by decide +kernel
theorem dX7_curve_13 : decode cX7_curve 13 = .ok (.ldc2_w 48, 3) := by decide +kernel
theorem dX7_curve_16 : decode cX7_curve 16 = .ok (.invokestatic 50, 3) := by decide +kernel
theorem dX7_curve_19 : decode cX7_curve 19 = .ok (.ifCond .eq 38, 3) := by decide +kernel
theorem dX7_curve_22 : decode cX7_curve 22 = .ok (.iload_n 3, 1) := by decide +kernel
theorem dX7_curve_23 : decode cX7_curve 23 = .ok (.i2l, 1) := by decide +kernel
theorem dX7_curve_24 : decode cX7_curve 24 = .ok (.ldc2_w 48, 3) := by decide +kernel
theorem dX7_curve_27 : decode cX7_curve 27 = .ok (.invokestatic 50, 3) := by decide +kernel
theorem dX7_curve_30 : decode cX7_curve 30 = .ok (.ifCond .eq 27, 3) := by decide +kernel
theorem dX7_curve_33 : decode cX7_curve 33 = .ok (.iload 4, 2) := by decide +kernel
theorem dX7_curve_35 : decode cX7_curve 35 = .ok (.i2l, 1) := by decide +kernel
theorem dX7_curve_36 : decode cX7_curve 36 = .ok (.ldc2_w 54, 3) := by decide +kernel
theorem dX7_curve_39 : decode cX7_curve 39 = .ok (.invokestatic 50, 3) := by decide +kernel
theorem dX7_curve_42 : decode cX7_curve 42 = .ok (.ifCond .eq 15, 3) := by decide +kernel
theorem dX7_curve_45 : decode cX7_curve 45 = .ok (.iload 5, 2) := by decide +kernel
theorem dX7_curve_47 : decode cX7_curve 47 = .ok (.i2l, 1) := by decide +kernel
theorem dX7_curve_48 : decode cX7_curve 48 = .ok (.ldc2_w 54, 3) := by decide +kernel
theorem dX7_curve_51 : decode cX7_curve 51 = .ok (.invokestatic 50, 3) := by decide +kernel
theorem dX7_curve_54 : decode cX7_curve 54 = .ok (.ifCond .ne 5, 3) := by decide +kernel
theorem dX7_curve_57 : decode cX7_curve 57 = .ok (.iconst (-1), 1) := by decide +kernel
theorem dX7_curve_58 : decode cX7_curve 58 = .ok (.ireturn, 1) := by decide +kernel
theorem dX7_curve_59 : decode cX7_curve 59 = .ok (.aload_n 0, 1) := by decide +kernel
theorem dX7_curve_60 : decode cX7_curve 60 = .ok (.getfield 23, 3) := by decide +kernel
theorem dX7_curve_63 : decode cX7_curve 63 = .ok (.iload_n 1, 1) := by decide +kernel
theorem dX7_curve_64 : decode cX7_curve 64 = .ok (.i2l, 1) := by decide +kernel
theorem dX7_curve_65 : decode cX7_curve 65 = .ok (.iload_n 2, 1) := by decide +kernel
theorem dX7_curve_66 : decode cX7_curve 66 = .ok (.i2l, 1) := by decide +kernel
theorem dX7_curve_67 : decode cX7_curve 67 = .ok (.iload_n 3, 1) := by decide +kernel
theorem dX7_curve_68 : decode cX7_curve 68 = .ok (.i2l, 1) := by decide +kernel
theorem dX7_curve_69 : decode cX7_curve 69 = .ok (.iload 4, 2) := by decide +kernel
theorem dX7_curve_71 : decode cX7_curve 71 = .ok (.i2l, 1) := by decide +kernel
theorem dX7_curve_72 : decode cX7_curve 72 = .ok (.iload 5, 2) := by decide +kernel
theorem dX7_curve_74 : decode cX7_curve 74 = .ok (.i2l, 1) := by decide +kernel
theorem dX7_curve_75 : decode cX7_curve 75 = .ok (.invokevirtual 56, 3) := by decide +kernel
theorem dX7_curve_78 : decode cX7_curve 78 = .ok (.aload_n 0, 1) := by decide +kernel
theorem dX7_curve_79 : decode cX7_curve 79 = .ok (.getfield 23, 3) := by decide +kernel
theorem dX7_curve_82 : decode cX7_curve 82 = .ok (.getfield 60, 3) := by decide +kernel
theorem dX7_curve_85 : decode cX7_curve 85 = .ok (.lconst 0, 1) := by decide +kernel
theorem dX7_curve_86 : decode cX7_curve 86 = .ok (.lcmp, 1) := by decide +kernel
theorem dX7_curve_87 : decode cX7_curve 87 = .ok (.ifCond .ne 7, 3) := by decide +kernel
theorem dX7_curve_90 : decode cX7_curve 90 = .ok (.iconst (-1), 1) := by decide +kernel
theorem dX7_curve_91 : decode cX7_curve 91 = .ok (.goto 7, 3) := by decide +kernel
theorem dX7_curve_94 : decode cX7_curve 94 = .ok (.aload_n 0, 1) := by decide +kernel
theorem dX7_curve_95 : decode cX7_curve 95 = .ok (.invokevirtual 64, 3) := by decide +kernel
theorem dX7_curve_98 : decode cX7_curve 98 = .ok (.ireturn, 1) := by decide +kernel
theorem dX7_change_0 : decode cX7_change 0 = .ok (.aload_n 0, 1) := by decide +kernel
theorem dX7_change_1 : decode cX7_change 1 = .ok (.iload_n 1, 1) := by decide +kernel
theorem dX7_change_2 : decode cX7_change 2 = .ok (.invokevirtual 68, 3) := by decide +kernel
theorem dX7_change_5 : decode cX7_change 5 = .ok (.ifCond .eq 37, 3) := by decide +kernel
theorem dX7_change_8 : decode cX7_change 8 = .ok (.iload_n 2, 1) := by decide +kernel
theorem dX7_change_9 : decode cX7_change 9 = .ok (.i2l, 1) := by decide +kernel
theorem dX7_change_10 : decode cX7_change 10 = .ok (.ldc2_w 54, 3) := by decide +kernel
theorem dX7_change_13 : decode cX7_change 13 = .ok (.invokestatic 50, 3) := by decide +kernel
theorem dX7_change_16 : decode cX7_change 16 = .ok (.ifCond .eq 26, 3) := by decide +kernel
theorem dX7_change_19 : decode cX7_change 19 = .ok (.iload_n 3, 1) := by decide +kernel
theorem dX7_change_20 : decode cX7_change 20 = .ok (.i2l, 1) := by decide +kernel
theorem dX7_change_21 : decode cX7_change 21 = .ok (.ldc2_w 54, 3) := by decide +kernel
theorem dX7_change_24 : decode cX7_change 24 = .ok (.invokestatic 50, 3) := by decide +kernel
theorem dX7_change_27 : decode cX7_change 27 = .ok (.ifCond .eq 15, 3) := by decide +kernel
theorem dX7_change_30 : decode cX7_change 30 = .ok (.iload 4, 2) := by decide +kernel
theorem dX7_change_32 : decode cX7_change 32 = .ok (.i2l, 1) := by decide +kernel
theorem dX7_change_33 : decode cX7_change 33 = .ok (.ldc2_w 54, 3) := by decide +kernel
theorem dX7_change_36 : decode cX7_change 36 = .ok (.invokestatic 50, 3) := by decide +kernel
theorem dX7_change_39 : decode cX7_change 39 = .ok (.ifCond .ne 5, 3) := by decide +kernel
theorem dX7_change_42 : decode cX7_change 42 = .ok (.iconst (-1), 1) := by decide +kernel
theorem dX7_change_43 : decode cX7_change 43 = .ok (.ireturn, 1) := by decide +kernel
theorem dX7_change_44 : decode cX7_change 44 = .ok (.aload_n 0, 1) := by decide +kernel
theorem dX7_change_45 : decode cX7_change 45 = .ok (.getfield 23, 3) := by decide +kernel
theorem dX7_change_48 : decode cX7_change 48 = .ok (.aload_n 0, 1) := by decide +kernel
theorem dX7_change_49 : decode cX7_change 49 = .ok (.getfield 11, 3) := by decide +kernel
theorem dX7_change_52 : decode cX7_change 52 = .ok (.iload_n 1, 1) := by decide +kernel
theorem dX7_change_53 : decode cX7_change 53 = .ok (.aaload, 1) := by decide +kernel
theorem dX7_change_54 : decode cX7_change 54 = .ok (.getfield 72, 3) := by decide +kernel
theorem dX7_change_57 : decode cX7_change 57 = .ok (.invokevirtual 75, 3) := by decide +kernel
theorem dX7_change_60 : decode cX7_change 60 = .ok (.aload_n 0, 1) := by decide +kernel
theorem dX7_change_61 : decode cX7_change 61 = .ok (.getfield 23, 3) := by decide +kernel
theorem dX7_change_64 : decode cX7_change 64 = .ok (.iload_n 2, 1) := by decide +kernel
theorem dX7_change_65 : decode cX7_change 65 = .ok (.i2l, 1) := by decide +kernel
theorem dX7_change_66 : decode cX7_change 66 = .ok (.iload_n 3, 1) := by decide +kernel
theorem dX7_change_67 : decode cX7_change 67 = .ok (.i2l, 1) := by decide +kernel
theorem dX7_change_68 : decode cX7_change 68 = .ok (.iload 4, 2) := by decide +kernel
theorem dX7_change_70 : decode cX7_change 70 = .ok (.i2l, 1) := by decide +kernel
theorem dX7_change_71 : decode cX7_change 71 = .ok (.invokevirtual 79, 3) := by decide +kernel
theorem dX7_change_74 : decode cX7_change 74 = .ok (.aload_n 0, 1) := by decide +kernel
theorem dX7_change_75 : decode cX7_change 75 = .ok (.invokevirtual 64, 3) := by decide +kernel
theorem dX7_change_78 : decode cX7_change 78 = .ok (.ireturn, 1) := by decide +kernel
theorem dX7_scale_0 : decode cX7_scale 0 = .ok (.aload_n 0, 1) := by decide +kernel
theorem dX7_scale_1 : decode cX7_scale 1 = .ok (.iload_n 1, 1) := by decide +kernel
theorem dX7_scale_2 : decode cX7_scale 2 = .ok (.invokevirtual 68, 3) := by decide +kernel
theorem dX7_scale_5 : decode cX7_scale 5 = .ok (.ifCond .eq 14, 3) := by decide +kernel
theorem dX7_scale_8 : decode cX7_scale 8 = .ok (.iload_n 2, 1) := by decide +kernel
theorem dX7_scale_9 : decode cX7_scale 9 = .ok (.iconst 2, 1) := by decide +kernel
theorem dX7_scale_10 : decode cX7_scale 10 = .ok (.if_icmp .lt 9, 3) := by decide +kernel
theorem dX7_scale_13 : decode cX7_scale 13 = .ok (.iload_n 2, 1) := by decide +kernel
theorem dX7_scale_14 : decode cX7_scale 14 = .ok (.bipush 9, 2) := by decide +kernel
theorem dX7_scale_16 : decode cX7_scale 16 = .ok (.if_icmp .le 5, 3) := by decide +kernel
theorem dX7_scale_19 : decode cX7_scale 19 = .ok (.iconst (-1), 1) := by decide +kernel
theorem dX7_scale_20 : decode cX7_scale 20 = .ok (.ireturn, 1) := by decide +kernel
theorem dX7_scale_21 : decode cX7_scale 21 = .ok (.aload_n 0, 1) := by decide +kernel
theorem dX7_scale_22 : decode cX7_scale 22 = .ok (.getfield 11, 3) := by decide +kernel
theorem dX7_scale_25 : decode cX7_scale 25 = .ok (.iload_n 1, 1) := by decide +kernel
theorem dX7_scale_26 : decode cX7_scale 26 = .ok (.aaload, 1) := by decide +kernel
theorem dX7_scale_27 : decode cX7_scale 27 = .ok (.getfield 72, 3) := by decide +kernel
theorem dX7_scale_30 : decode cX7_scale 30 = .ok (.astore 4, 2) := by decide +kernel
theorem dX7_scale_32 : decode cX7_scale 32 = .ok (.iload_n 3, 1) := by decide +kernel
theorem dX7_scale_33 : decode cX7_scale 33 = .ok (.ifCond .eq 44, 3) := by decide +kernel
theorem dX7_scale_36 : decode cX7_scale 36 = .ok (.aload 4, 2) := by decide +kernel
theorem dX7_scale_38 : decode cX7_scale 38 = .ok (.getfield 60, 3) := by decide +kernel
theorem dX7_scale_41 : decode cX7_scale 41 = .ok (.invokestatic 83, 3) := by decide +kernel
theorem dX7_scale_44 : decode cX7_scale 44 = .ok (.ldc2_w 89, 3) := by decide +kernel
theorem dX7_scale_47 : decode cX7_scale 47 = .ok (.iload_n 2, 1) := by decide +kernel
theorem dX7_scale_48 : decode cX7_scale 48 = .ok (.i2l, 1) := by decide +kernel
theorem dX7_scale_49 : decode cX7_scale 49 = .ok (.bipush 12, 2) := by decide +kernel
theorem dX7_scale_51 : decode cX7_scale 51 = .ok (.invokestatic 91, 3) := by decide +kernel
theorem dX7_scale_54 : decode cX7_scale 54 = .ok (.invokestatic 97, 3) := by decide +kernel
theorem dX7_scale_57 : decode cX7_scale 57 = .ok (.lcmp, 1) := by decide +kernel
theorem dX7_scale_58 : decode cX7_scale 58 = .ok (.ifCond .le 5, 3) := by decide +kernel
theorem dX7_scale_61 : decode cX7_scale 61 = .ok (.iconst (-1), 1) := by decide +kernel
theorem dX7_scale_62 : decode cX7_scale 62 = .ok (.ireturn, 1) := by decide +kernel
theorem dX7_scale_63 : decode cX7_scale 63 = .ok (.aload_n 0, 1) := by decide +kernel
theorem dX7_scale_64 : decode cX7_scale 64 = .ok (.getfield 23, 3) := by decide +kernel
theorem dX7_scale_67 : decode cX7_scale 67 = .ok (.aload 4, 2) := by decide +kernel
theorem dX7_scale_69 : decode cX7_scale 69 = .ok (.iload_n 2, 1) := by decide +kernel
theorem dX7_scale_70 : decode cX7_scale 70 = .ok (.i2l, 1) := by decide +kernel
theorem dX7_scale_71 : decode cX7_scale 71 = .ok (.invokevirtual 101, 3) := by decide +kernel
theorem dX7_scale_74 : decode cX7_scale 74 = .ok (.goto 26, 3) := by decide +kernel
theorem dX7_scale_77 : decode cX7_scale 77 = .ok (.aload 4, 2) := by decide +kernel
theorem dX7_scale_79 : decode cX7_scale 79 = .ok (.iload_n 2, 1) := by decide +kernel
theorem dX7_scale_80 : decode cX7_scale 80 = .ok (.i2l, 1) := by decide +kernel
theorem dX7_scale_81 : decode cX7_scale 81 = .ok (.invokevirtual 105, 3) := by decide +kernel
theorem dX7_scale_84 : decode cX7_scale 84 = .ok (.ifCond .ne 5, 3) := by decide +kernel
theorem dX7_scale_87 : decode cX7_scale 87 = .ok (.iconst (-1), 1) := by decide +kernel
theorem dX7_scale_88 : decode cX7_scale 88 = .ok (.ireturn, 1) := by decide +kernel
theorem dX7_scale_89 : decode cX7_scale 89 = .ok (.aload_n 0, 1) := by decide +kernel
theorem dX7_scale_90 : decode cX7_scale 90 = .ok (.getfield 23, 3) := by decide +kernel
theorem dX7_scale_93 : decode cX7_scale 93 = .ok (.aload 4, 2) := by decide +kernel
theorem dX7_scale_95 : decode cX7_scale 95 = .ok (.iload_n 2, 1) := by decide +kernel
theorem dX7_scale_96 : decode cX7_scale 96 = .ok (.i2l, 1) := by decide +kernel
theorem dX7_scale_97 : decode cX7_scale 97 = .ok (.invokevirtual 109, 3) := by decide +kernel
theorem dX7_scale_100 : decode cX7_scale 100 = .ok (.aload_n 0, 1) := by decide +kernel
theorem dX7_scale_101 : decode cX7_scale 101 = .ok (.invokevirtual 64, 3) := by decide +kernel
theorem dX7_scale_104 : decode cX7_scale 104 = .ok (.ireturn, 1) := by decide +kernel
theorem dX7_least_0 : decode cX7_least 0 = .ok (.aload_n 0, 1) := by decide +kernel
theorem dX7_least_1 : decode cX7_least 1 = .ok (.iload_n 1, 1) := by decide +kernel
theorem dX7_least_2 : decode cX7_least 2 = .ok (.invokevirtual 68, 3) := by decide +kernel
theorem dX7_least_5 : decode cX7_least 5 = .ok (.ifCond .ne 5, 3) := by decide +kernel
theorem dX7_least_8 : decode cX7_least 8 = .ok (.iconst (-1), 1) := by decide +kernel
theorem dX7_least_9 : decode cX7_least 9 = .ok (.ireturn, 1) := by decide +kernel
theorem dX7_least_10 : decode cX7_least 10 = .ok (.aload_n 0, 1) := by decide +kernel
theorem dX7_least_11 : decode cX7_least 11 = .ok (.getfield 23, 3) := by decide +kernel
theorem dX7_least_14 : decode cX7_least 14 = .ok (.aload_n 0, 1) := by decide +kernel
theorem dX7_least_15 : decode cX7_least 15 = .ok (.getfield 11, 3) := by decide +kernel
theorem dX7_least_18 : decode cX7_least 18 = .ok (.iload_n 1, 1) := by decide +kernel
theorem dX7_least_19 : decode cX7_least 19 = .ok (.aaload, 1) := by decide +kernel
theorem dX7_least_20 : decode cX7_least 20 = .ok (.getfield 112, 3) := by decide +kernel
theorem dX7_least_23 : decode cX7_least 23 = .ok (.invokevirtual 75, 3) := by decide +kernel
theorem dX7_least_26 : decode cX7_least 26 = .ok (.aload_n 0, 1) := by decide +kernel
theorem dX7_least_27 : decode cX7_least 27 = .ok (.invokevirtual 64, 3) := by decide +kernel
theorem dX7_least_30 : decode cX7_least 30 = .ok (.ireturn, 1) := by decide +kernel
theorem dX7_twist_0 : decode cX7_twist 0 = .ok (.aload_n 0, 1) := by decide +kernel
theorem dX7_twist_1 : decode cX7_twist 1 = .ok (.iload_n 1, 1) := by decide +kernel
theorem dX7_twist_2 : decode cX7_twist 2 = .ok (.invokevirtual 68, 3) := by decide +kernel
theorem dX7_twist_5 : decode cX7_twist 5 = .ok (.ifCond .eq 18, 3) := by decide +kernel
theorem dX7_twist_8 : decode cX7_twist 8 = .ok (.iload_n 2, 1) := by decide +kernel
theorem dX7_twist_9 : decode cX7_twist 9 = .ok (.invokestatic 115, 3) := by decide +kernel
theorem dX7_twist_12 : decode cX7_twist 12 = .ok (.ifCond .eq 11, 3) := by decide +kernel
theorem dX7_twist_15 : decode cX7_twist 15 = .ok (.aload_n 0, 1) := by decide +kernel
theorem dX7_twist_16 : decode cX7_twist 16 = .ok (.iload_n 1, 1) := by decide +kernel
theorem dX7_twist_17 : decode cX7_twist 17 = .ok (.invokevirtual 118, 3) := by decide +kernel
theorem dX7_twist_20 : decode cX7_twist 20 = .ok (.ifCond .ne 5, 3) := by decide +kernel
theorem dX7_twist_23 : decode cX7_twist 23 = .ok (.iconst (-1), 1) := by decide +kernel
theorem dX7_twist_24 : decode cX7_twist 24 = .ok (.ireturn, 1) := by decide +kernel
theorem dX7_twist_25 : decode cX7_twist 25 = .ok (.aload_n 0, 1) := by decide +kernel
theorem dX7_twist_26 : decode cX7_twist 26 = .ok (.iload_n 1, 1) := by decide +kernel
theorem dX7_twist_27 : decode cX7_twist 27 = .ok (.iload_n 2, 1) := by decide +kernel
theorem dX7_twist_28 : decode cX7_twist 28 = .ok (.invokevirtual 121, 3) := by decide +kernel
theorem dX7_twist_31 : decode cX7_twist 31 = .ok (.aload_n 0, 1) := by decide +kernel
theorem dX7_twist_32 : decode cX7_twist 32 = .ok (.invokevirtual 64, 3) := by decide +kernel
theorem dX7_twist_35 : decode cX7_twist 35 = .ok (.ireturn, 1) := by decide +kernel
theorem dX7_drop_0 : decode cX7_drop 0 = .ok (.aload_n 0, 1) := by decide +kernel
theorem dX7_drop_1 : decode cX7_drop 1 = .ok (.getfield 16, 3) := by decide +kernel
theorem dX7_drop_4 : decode cX7_drop 4 = .ok (.ifCond .ne 5, 3) := by decide +kernel
theorem dX7_drop_7 : decode cX7_drop 7 = .ok (.iconst (-1), 1) := by decide +kernel
theorem dX7_drop_8 : decode cX7_drop 8 = .ok (.ireturn, 1) := by decide +kernel
theorem dX7_drop_9 : decode cX7_drop 9 = .ok (.aload_n 0, 1) := by decide +kernel
theorem dX7_drop_10 : decode cX7_drop 10 = .ok (.dup, 1) := by decide +kernel
theorem dX7_drop_11 : decode cX7_drop 11 = .ok (.getfield 16, 3) := by decide +kernel
theorem dX7_drop_14 : decode cX7_drop 14 = .ok (.iconst 1, 1) := by decide +kernel
theorem dX7_drop_15 : decode cX7_drop 15 = .ok (.isub, 1) := by decide +kernel
theorem dX7_drop_16 : decode cX7_drop 16 = .ok (.putfield 16, 3) := by decide +kernel
theorem dX7_drop_19 : decode cX7_drop 19 = .ok (.aload_n 0, 1) := by decide +kernel
theorem dX7_drop_20 : decode cX7_drop 20 = .ok (.iconst (-1), 1) := by decide +kernel
theorem dX7_drop_21 : decode cX7_drop 21 = .ok (.putfield 41, 3) := by decide +kernel
theorem dX7_drop_24 : decode cX7_drop 24 = .ok (.aload_n 0, 1) := by decide +kernel
theorem dX7_drop_25 : decode cX7_drop 25 = .ok (.getfield 16, 3) := by decide +kernel
theorem dX7_drop_28 : decode cX7_drop 28 = .ok (.ireturn, 1) := by decide +kernel
theorem dX7_of_0 : decode cX7_of 0 = .ok (.aload_n 0, 1) := by decide +kernel
theorem dX7_of_1 : decode cX7_of 1 = .ok (.iload_n 1, 1) := by decide +kernel
theorem dX7_of_2 : decode cX7_of 2 = .ok (.invokevirtual 68, 3) := by decide +kernel
theorem dX7_of_5 : decode cX7_of 5 = .ok (.ifCond .eq 13, 3) := by decide +kernel
theorem dX7_of_8 : decode cX7_of 8 = .ok (.iload_n 2, 1) := by decide +kernel
theorem dX7_of_9 : decode cX7_of 9 = .ok (.ifCond .lt 9, 3) := by decide +kernel
theorem dX7_of_12 : decode cX7_of 12 = .ok (.iload_n 2, 1) := by decide +kernel
theorem dX7_of_13 : decode cX7_of 13 = .ok (.bipush 11, 2) := by decide +kernel
theorem dX7_of_15 : decode cX7_of 15 = .ok (.if_icmp .le 11, 3) := by decide +kernel
theorem dX7_of_18 : decode cX7_of 18 = .ok (.new 125, 3) := by decide +kernel
theorem dX7_of_21 : decode cX7_of 21 = .ok (.dup, 1) := by decide +kernel
theorem dX7_of_22 : decode cX7_of 22 = .ok (.invokespecial 127, 3) := by decide +kernel
theorem dX7_of_25 : decode cX7_of 25 = .ok (.athrow, 1) := by decide +kernel
theorem dX7_of_26 : decode cX7_of 26 = .ok (.aload_n 0, 1) := by decide +kernel
theorem dX7_of_27 : decode cX7_of 27 = .ok (.getfield 11, 3) := by decide +kernel
theorem dX7_of_30 : decode cX7_of 30 = .ok (.iload_n 1, 1) := by decide +kernel
theorem dX7_of_31 : decode cX7_of 31 = .ok (.aaload, 1) := by decide +kernel
theorem dX7_of_32 : decode cX7_of 32 = .ok (.getfield 72, 3) := by decide +kernel
theorem dX7_of_35 : decode cX7_of 35 = .ok (.iload_n 2, 1) := by decide +kernel
theorem dX7_of_36 : decode cX7_of 36 = .ok (.invokevirtual 128, 3) := by decide +kernel
theorem dX7_of_39 : decode cX7_of 39 = .ok (.lreturn, 1) := by decide +kernel
theorem dX7_at_0 : decode cX7_at 0 = .ok (.aload_n 0, 1) := by decide +kernel
theorem dX7_at_1 : decode cX7_at 1 = .ok (.iload_n 1, 1) := by decide +kernel
theorem dX7_at_2 : decode cX7_at 2 = .ok (.invokevirtual 68, 3) := by decide +kernel
theorem dX7_at_5 : decode cX7_at 5 = .ok (.ifCond .eq 26, 3) := by decide +kernel
theorem dX7_at_8 : decode cX7_at 8 = .ok (.iload_n 3, 1) := by decide +kernel
theorem dX7_at_9 : decode cX7_at 9 = .ok (.ifCond .lt 22, 3) := by decide +kernel
theorem dX7_at_12 : decode cX7_at 12 = .ok (.iload_n 3, 1) := by decide +kernel
theorem dX7_at_13 : decode cX7_at 13 = .ok (.bipush 7, 2) := by decide +kernel
theorem dX7_at_15 : decode cX7_at 15 = .ok (.if_icmp .gt 16, 3) := by decide +kernel
theorem dX7_at_18 : decode cX7_at 18 = .ok (.iload_n 2, 1) := by decide +kernel
theorem dX7_at_19 : decode cX7_at 19 = .ok (.ldc 132, 2) := by decide +kernel
theorem dX7_at_21 : decode cX7_at 21 = .ok (.if_icmp .gt 10, 3) := by decide +kernel
theorem dX7_at_24 : decode cX7_at 24 = .ok (.iload_n 2, 1) := by decide +kernel
theorem dX7_at_25 : decode cX7_at 25 = .ok (.invokestatic 133, 3) := by decide +kernel
theorem dX7_at_28 : decode cX7_at 28 = .ok (.ifCond .ne 5, 3) := by decide +kernel
theorem dX7_at_31 : decode cX7_at 31 = .ok (.iconst (-1), 1) := by decide +kernel
theorem dX7_at_32 : decode cX7_at 32 = .ok (.ireturn, 1) := by decide +kernel
theorem dX7_at_33 : decode cX7_at 33 = .ok (.iload_n 3, 1) := by decide +kernel
theorem dX7_at_34 : decode cX7_at 34 = .ok (.bipush 7, 2) := by decide +kernel
theorem dX7_at_36 : decode cX7_at 36 = .ok (.if_icmp .ne 18, 3) := by decide +kernel
theorem dX7_at_39 : decode cX7_at 39 = .ok (.aload_n 0, 1) := by decide +kernel
theorem dX7_at_40 : decode cX7_at 40 = .ok (.getfield 11, 3) := by decide +kernel
theorem dX7_at_43 : decode cX7_at 43 = .ok (.iload_n 1, 1) := by decide +kernel
theorem dX7_at_44 : decode cX7_at 44 = .ok (.aaload, 1) := by decide +kernel
theorem dX7_at_45 : decode cX7_at 45 = .ok (.getfield 136, 3) := by decide +kernel
theorem dX7_at_48 : decode cX7_at 48 = .ok (.iload_n 2, 1) := by decide +kernel
theorem dX7_at_49 : decode cX7_at 49 = .ok (.i2l, 1) := by decide +kernel
theorem dX7_at_50 : decode cX7_at 50 = .ok (.invokestatic 139, 3) := by decide +kernel
theorem dX7_at_53 : decode cX7_at 53 = .ok (.ireturn, 1) := by decide +kernel
theorem dX7_at_54 : decode cX7_at 54 = .ok (.aload_n 0, 1) := by decide +kernel
theorem dX7_at_55 : decode cX7_at 55 = .ok (.getfield 30, 3) := by decide +kernel
theorem dX7_at_58 : decode cX7_at 58 = .ok (.aload_n 0, 1) := by decide +kernel
theorem dX7_at_59 : decode cX7_at 59 = .ok (.getfield 11, 3) := by decide +kernel
theorem dX7_at_62 : decode cX7_at 62 = .ok (.iload_n 1, 1) := by decide +kernel
theorem dX7_at_63 : decode cX7_at 63 = .ok (.aaload, 1) := by decide +kernel
theorem dX7_at_64 : decode cX7_at 64 = .ok (.getfield 112, 3) := by decide +kernel
theorem dX7_at_67 : decode cX7_at 67 = .ok (.iload_n 2, 1) := by decide +kernel
theorem dX7_at_68 : decode cX7_at 68 = .ok (.invokevirtual 143, 3) := by decide +kernel
theorem dX7_at_71 : decode cX7_at 71 = .ok (.aload_n 0, 1) := by decide +kernel
theorem dX7_at_72 : decode cX7_at 72 = .ok (.getfield 30, 3) := by decide +kernel
theorem dX7_at_75 : decode cX7_at 75 = .ok (.iload_n 3, 1) := by decide +kernel
theorem dX7_at_76 : decode cX7_at 76 = .ok (.invokevirtual 147, 3) := by decide +kernel
theorem dX7_at_79 : decode cX7_at 79 = .ok (.ireturn, 1) := by decide +kernel
theorem dX7_prime_0 : decode cX7_prime 0 = .ok (.aload_n 0, 1) := by decide +kernel
theorem dX7_prime_1 : decode cX7_prime 1 = .ok (.iload_n 1, 1) := by decide +kernel
theorem dX7_prime_2 : decode cX7_prime 2 = .ok (.invokevirtual 68, 3) := by decide +kernel
theorem dX7_prime_5 : decode cX7_prime 5 = .ok (.ifCond .ne 5, 3) := by decide +kernel
theorem dX7_prime_8 : decode cX7_prime 8 = .ok (.iconst (-1), 1) := by decide +kernel
theorem dX7_prime_9 : decode cX7_prime 9 = .ok (.ireturn, 1) := by decide +kernel
theorem dX7_prime_10 : decode cX7_prime 10 = .ok (.aload_n 0, 1) := by decide +kernel
theorem dX7_prime_11 : decode cX7_prime 11 = .ok (.getfield 11, 3) := by decide +kernel
theorem dX7_prime_14 : decode cX7_prime 14 = .ok (.iload_n 1, 1) := by decide +kernel
theorem dX7_prime_15 : decode cX7_prime 15 = .ok (.aaload, 1) := by decide +kernel
theorem dX7_prime_16 : decode cX7_prime 16 = .ok (.invokevirtual 150, 3) := by decide +kernel
theorem dX7_prime_19 : decode cX7_prime 19 = .ok (.astore_n 3, 1) := by decide +kernel
theorem dX7_prime_20 : decode cX7_prime 20 = .ok (.iload_n 2, 1) := by decide +kernel
theorem dX7_prime_21 : decode cX7_prime 21 = .ok (.iconst (-1), 1) := by decide +kernel
theorem dX7_prime_22 : decode cX7_prime 22 = .ok (.if_icmp .ne 10, 3) := by decide +kernel
theorem dX7_prime_25 : decode cX7_prime 25 = .ok (.aload_n 3, 1) := by decide +kernel
theorem dX7_prime_26 : decode cX7_prime 26 = .ok (.getfield 154, 3) := by decide +kernel
theorem dX7_prime_29 : decode cX7_prime 29 = .ok (.goto 8, 3) := by decide +kernel
theorem dX7_prime_32 : decode cX7_prime 32 = .ok (.aload_n 3, 1) := by decide +kernel
theorem dX7_prime_33 : decode cX7_prime 33 = .ok (.iload_n 2, 1) := by decide +kernel
theorem dX7_prime_34 : decode cX7_prime 34 = .ok (.invokevirtual 159, 3) := by decide +kernel
theorem dX7_prime_37 : decode cX7_prime 37 = .ok (.ireturn, 1) := by decide +kernel
theorem dX7_conductor_0 : decode cX7_conductor 0 = .ok (.aload_n 0, 1) := by decide +kernel
theorem dX7_conductor_1 : decode cX7_conductor 1 = .ok (.iload_n 1, 1) := by decide +kernel
theorem dX7_conductor_2 : decode cX7_conductor 2 = .ok (.invokevirtual 68, 3) := by decide +kernel
theorem dX7_conductor_5 : decode cX7_conductor 5 = .ok (.ifCond .eq 28, 3) := by decide +kernel
theorem dX7_conductor_8 : decode cX7_conductor 8 = .ok (.aload_n 0, 1) := by decide +kernel
theorem dX7_conductor_9 : decode cX7_conductor 9 = .ok (.aload_n 0, 1) := by decide +kernel
theorem dX7_conductor_10 : decode cX7_conductor 10 = .ok (.getfield 11, 3) := by decide +kernel
theorem dX7_conductor_13 : decode cX7_conductor 13 = .ok (.iload_n 1, 1) := by decide +kernel
theorem dX7_conductor_14 : decode cX7_conductor 14 = .ok (.aaload, 1) := by decide +kernel
theorem dX7_conductor_15 : decode cX7_conductor 15 = .ok (.getfield 112, 3) := by decide +kernel
theorem dX7_conductor_18 : decode cX7_conductor 18 = .ok (.aload_n 0, 1) := by decide +kernel
theorem dX7_conductor_19 : decode cX7_conductor 19 = .ok (.getfield 11, 3) := by decide +kernel
theorem dX7_conductor_22 : decode cX7_conductor 22 = .ok (.iload_n 1, 1) := by decide +kernel
theorem dX7_conductor_23 : decode cX7_conductor 23 = .ok (.aaload, 1) := by decide +kernel
theorem dX7_conductor_24 : decode cX7_conductor 24 = .ok (.invokevirtual 150, 3) := by decide +kernel
theorem dX7_conductor_27 : decode cX7_conductor 27 = .ok (.invokevirtual 162, 3) := by decide +kernel
theorem dX7_conductor_30 : decode cX7_conductor 30 = .ok (.goto 4, 3) := by decide +kernel
theorem dX7_conductor_33 : decode cX7_conductor 33 = .ok (.lconst 0, 1) := by decide +kernel
theorem dX7_conductor_34 : decode cX7_conductor 34 = .ok (.lreturn, 1) := by decide +kernel
theorem dX7_leastOf_0 : decode cX7_leastOf 0 = .ok (.aload_n 0, 1) := by decide +kernel
theorem dX7_leastOf_1 : decode cX7_leastOf 1 = .ok (.iload_n 1, 1) := by decide +kernel
theorem dX7_leastOf_2 : decode cX7_leastOf 2 = .ok (.invokevirtual 68, 3) := by decide +kernel
theorem dX7_leastOf_5 : decode cX7_leastOf 5 = .ok (.ifCond .eq 13, 3) := by decide +kernel
theorem dX7_leastOf_8 : decode cX7_leastOf 8 = .ok (.iload_n 2, 1) := by decide +kernel
theorem dX7_leastOf_9 : decode cX7_leastOf 9 = .ok (.ifCond .lt 9, 3) := by decide +kernel
theorem dX7_leastOf_12 : decode cX7_leastOf 12 = .ok (.iload_n 2, 1) := by decide +kernel
theorem dX7_leastOf_13 : decode cX7_leastOf 13 = .ok (.bipush 12, 2) := by decide +kernel
theorem dX7_leastOf_15 : decode cX7_leastOf 15 = .ok (.if_icmp .le 11, 3) := by decide +kernel
theorem dX7_leastOf_18 : decode cX7_leastOf 18 = .ok (.new 125, 3) := by decide +kernel
theorem dX7_leastOf_21 : decode cX7_leastOf 21 = .ok (.dup, 1) := by decide +kernel
theorem dX7_leastOf_22 : decode cX7_leastOf 22 = .ok (.invokespecial 127, 3) := by decide +kernel
theorem dX7_leastOf_25 : decode cX7_leastOf 25 = .ok (.athrow, 1) := by decide +kernel
theorem dX7_leastOf_26 : decode cX7_leastOf 26 = .ok (.iload_n 2, 1) := by decide +kernel
theorem dX7_leastOf_27 : decode cX7_leastOf 27 = .ok (.bipush 12, 2) := by decide +kernel
theorem dX7_leastOf_29 : decode cX7_leastOf 29 = .ok (.if_icmp .ne 15, 3) := by decide +kernel
theorem dX7_leastOf_32 : decode cX7_leastOf 32 = .ok (.aload_n 0, 1) := by decide +kernel
theorem dX7_leastOf_33 : decode cX7_leastOf 33 = .ok (.getfield 11, 3) := by decide +kernel
theorem dX7_leastOf_36 : decode cX7_leastOf 36 = .ok (.iload_n 1, 1) := by decide +kernel
theorem dX7_leastOf_37 : decode cX7_leastOf 37 = .ok (.aaload, 1) := by decide +kernel
theorem dX7_leastOf_38 : decode cX7_leastOf 38 = .ok (.getfield 136, 3) := by decide +kernel
theorem dX7_leastOf_41 : decode cX7_leastOf 41 = .ok (.goto 16, 3) := by decide +kernel
theorem dX7_leastOf_44 : decode cX7_leastOf 44 = .ok (.aload_n 0, 1) := by decide +kernel
theorem dX7_leastOf_45 : decode cX7_leastOf 45 = .ok (.getfield 11, 3) := by decide +kernel
theorem dX7_leastOf_48 : decode cX7_leastOf 48 = .ok (.iload_n 1, 1) := by decide +kernel
theorem dX7_leastOf_49 : decode cX7_leastOf 49 = .ok (.aaload, 1) := by decide +kernel
theorem dX7_leastOf_50 : decode cX7_leastOf 50 = .ok (.getfield 112, 3) := by decide +kernel
theorem dX7_leastOf_53 : decode cX7_leastOf 53 = .ok (.iload_n 2, 1) := by decide +kernel
theorem dX7_leastOf_54 : decode cX7_leastOf 54 = .ok (.invokevirtual 128, 3) := by decide +kernel
theorem dX7_leastOf_57 : decode cX7_leastOf 57 = .ok (.lreturn, 1) := by decide +kernel
theorem dX7_one_0 : decode cX7_one 0 = .ok (.aload_n 0, 1) := by decide +kernel
theorem dX7_one_1 : decode cX7_one 1 = .ok (.iload_n 1, 1) := by decide +kernel
theorem dX7_one_2 : decode cX7_one 2 = .ok (.invokevirtual 68, 3) := by decide +kernel
theorem dX7_one_5 : decode cX7_one 5 = .ok (.ifCond .eq 39, 3) := by decide +kernel
theorem dX7_one_8 : decode cX7_one 8 = .ok (.aload_n 0, 1) := by decide +kernel
theorem dX7_one_9 : decode cX7_one 9 = .ok (.iload_n 2, 1) := by decide +kernel
theorem dX7_one_10 : decode cX7_one 10 = .ok (.invokevirtual 68, 3) := by decide +kernel
theorem dX7_one_13 : decode cX7_one 13 = .ok (.ifCond .eq 31, 3) := by decide +kernel
theorem dX7_one_16 : decode cX7_one 16 = .ok (.aload_n 0, 1) := by decide +kernel
theorem dX7_one_17 : decode cX7_one 17 = .ok (.getfield 11, 3) := by decide +kernel
theorem dX7_one_20 : decode cX7_one 20 = .ok (.iload_n 1, 1) := by decide +kernel
theorem dX7_one_21 : decode cX7_one 21 = .ok (.aaload, 1) := by decide +kernel
theorem dX7_one_22 : decode cX7_one 22 = .ok (.getfield 112, 3) := by decide +kernel
theorem dX7_one_25 : decode cX7_one 25 = .ok (.aload_n 0, 1) := by decide +kernel
theorem dX7_one_26 : decode cX7_one 26 = .ok (.getfield 11, 3) := by decide +kernel
theorem dX7_one_29 : decode cX7_one 29 = .ok (.iload_n 2, 1) := by decide +kernel
theorem dX7_one_30 : decode cX7_one 30 = .ok (.aaload, 1) := by decide +kernel
theorem dX7_one_31 : decode cX7_one 31 = .ok (.getfield 112, 3) := by decide +kernel
theorem dX7_one_34 : decode cX7_one 34 = .ok (.invokevirtual 166, 3) := by decide +kernel
theorem dX7_one_37 : decode cX7_one 37 = .ok (.ifCond .eq 7, 3) := by decide +kernel
theorem dX7_one_40 : decode cX7_one 40 = .ok (.iconst 1, 1) := by decide +kernel
theorem dX7_one_41 : decode cX7_one 41 = .ok (.goto 4, 3) := by decide +kernel
theorem dX7_one_44 : decode cX7_one 44 = .ok (.iconst 0, 1) := by decide +kernel
theorem dX7_one_45 : decode cX7_one 45 = .ok (.ireturn, 1) := by decide +kernel
theorem dX7_points_0 : decode cX7_points 0 = .ok (.aload_n 0, 1) := by decide +kernel
theorem dX7_points_1 : decode cX7_points 1 = .ok (.iload_n 1, 1) := by decide +kernel
theorem dX7_points_2 : decode cX7_points 2 = .ok (.invokevirtual 68, 3) := by decide +kernel
theorem dX7_points_5 : decode cX7_points 5 = .ok (.ifCond .eq 10, 3) := by decide +kernel
theorem dX7_points_8 : decode cX7_points 8 = .ok (.iload_n 2, 1) := by decide +kernel
theorem dX7_points_9 : decode cX7_points 9 = .ok (.invokestatic 170, 3) := by decide +kernel
theorem dX7_points_12 : decode cX7_points 12 = .ok (.ifCond .ne 5, 3) := by decide +kernel
theorem dX7_points_15 : decode cX7_points 15 = .ok (.iconst (-1), 1) := by decide +kernel
theorem dX7_points_16 : decode cX7_points 16 = .ok (.ireturn, 1) := by decide +kernel
theorem dX7_points_17 : decode cX7_points 17 = .ok (.aload_n 0, 1) := by decide +kernel
theorem dX7_points_18 : decode cX7_points 18 = .ok (.aload_n 0, 1) := by decide +kernel
theorem dX7_points_19 : decode cX7_points 19 = .ok (.getfield 11, 3) := by decide +kernel
theorem dX7_points_22 : decode cX7_points 22 = .ok (.iload_n 1, 1) := by decide +kernel
theorem dX7_points_23 : decode cX7_points 23 = .ok (.aaload, 1) := by decide +kernel
theorem dX7_points_24 : decode cX7_points 24 = .ok (.getfield 72, 3) := by decide +kernel
theorem dX7_points_27 : decode cX7_points 27 = .ok (.iload_n 2, 1) := by decide +kernel
theorem dX7_points_28 : decode cX7_points 28 = .ok (.invokevirtual 173, 3) := by decide +kernel
theorem dX7_points_31 : decode cX7_points 31 = .ok (.ireturn, 1) := by decide +kernel
theorem dX7_trace_0 : decode cX7_trace 0 = .ok (.aload_n 0, 1) := by decide +kernel
theorem dX7_trace_1 : decode cX7_trace 1 = .ok (.iload_n 1, 1) := by decide +kernel
theorem dX7_trace_2 : decode cX7_trace 2 = .ok (.invokevirtual 68, 3) := by decide +kernel
theorem dX7_trace_5 : decode cX7_trace 5 = .ok (.ifCond .eq 10, 3) := by decide +kernel
theorem dX7_trace_8 : decode cX7_trace 8 = .ok (.iload_n 2, 1) := by decide +kernel
theorem dX7_trace_9 : decode cX7_trace 9 = .ok (.invokestatic 170, 3) := by decide +kernel
theorem dX7_trace_12 : decode cX7_trace 12 = .ok (.ifCond .ne 7, 3) := by decide +kernel
theorem dX7_trace_15 : decode cX7_trace 15 = .ok (.sipush (-1000), 3) := by decide +kernel
theorem dX7_trace_18 : decode cX7_trace 18 = .ok (.ireturn, 1) := by decide +kernel
theorem dX7_trace_19 : decode cX7_trace 19 = .ok (.aload_n 0, 1) := by decide +kernel
theorem dX7_trace_20 : decode cX7_trace 20 = .ok (.getfield 11, 3) := by decide +kernel
theorem dX7_trace_23 : decode cX7_trace 23 = .ok (.iload_n 1, 1) := by decide +kernel
theorem dX7_trace_24 : decode cX7_trace 24 = .ok (.aaload, 1) := by decide +kernel
theorem dX7_trace_25 : decode cX7_trace 25 = .ok (.getfield 112, 3) := by decide +kernel
theorem dX7_trace_28 : decode cX7_trace 28 = .ok (.astore_n 3, 1) := by decide +kernel
theorem dX7_trace_29 : decode cX7_trace 29 = .ok (.aload_n 0, 1) := by decide +kernel
theorem dX7_trace_30 : decode cX7_trace 30 = .ok (.getfield 30, 3) := by decide +kernel
theorem dX7_trace_33 : decode cX7_trace 33 = .ok (.aload_n 3, 1) := by decide +kernel
theorem dX7_trace_34 : decode cX7_trace 34 = .ok (.iload_n 2, 1) := by decide +kernel
theorem dX7_trace_35 : decode cX7_trace 35 = .ok (.invokevirtual 143, 3) := by decide +kernel
theorem dX7_trace_38 : decode cX7_trace 38 = .ok (.aload_n 0, 1) := by decide +kernel
theorem dX7_trace_39 : decode cX7_trace 39 = .ok (.getfield 30, 3) := by decide +kernel
theorem dX7_trace_42 : decode cX7_trace 42 = .ok (.getfield 177, 3) := by decide +kernel
theorem dX7_trace_45 : decode cX7_trace 45 = .ok (.ifCond .ne 14, 3) := by decide +kernel
theorem dX7_trace_48 : decode cX7_trace 48 = .ok (.iload_n 2, 1) := by decide +kernel
theorem dX7_trace_49 : decode cX7_trace 49 = .ok (.iconst 1, 1) := by decide +kernel
theorem dX7_trace_50 : decode cX7_trace 50 = .ok (.iadd, 1) := by decide +kernel
theorem dX7_trace_51 : decode cX7_trace 51 = .ok (.aload_n 0, 1) := by decide +kernel
theorem dX7_trace_52 : decode cX7_trace 52 = .ok (.aload_n 3, 1) := by decide +kernel
theorem dX7_trace_53 : decode cX7_trace 53 = .ok (.iload_n 2, 1) := by decide +kernel
theorem dX7_trace_54 : decode cX7_trace 54 = .ok (.invokevirtual 173, 3) := by decide +kernel
theorem dX7_trace_57 : decode cX7_trace 57 = .ok (.isub, 1) := by decide +kernel
theorem dX7_trace_58 : decode cX7_trace 58 = .ok (.ireturn, 1) := by decide +kernel
theorem dX7_trace_59 : decode cX7_trace 59 = .ok (.aload_n 0, 1) := by decide +kernel
theorem dX7_trace_60 : decode cX7_trace 60 = .ok (.getfield 30, 3) := by decide +kernel
theorem dX7_trace_63 : decode cX7_trace 63 = .ok (.getfield 177, 3) := by decide +kernel
theorem dX7_trace_66 : decode cX7_trace 66 = .ok (.iconst 1, 1) := by decide +kernel
theorem dX7_trace_67 : decode cX7_trace 67 = .ok (.if_icmp .ne 19, 3) := by decide +kernel
theorem dX7_trace_70 : decode cX7_trace 70 = .ok (.aload_n 0, 1) := by decide +kernel
theorem dX7_trace_71 : decode cX7_trace 71 = .ok (.getfield 30, 3) := by decide +kernel
theorem dX7_trace_74 : decode cX7_trace 74 = .ok (.getfield 180, 3) := by decide +kernel
theorem dX7_trace_77 : decode cX7_trace 77 = .ok (.ifCond .eq 7, 3) := by decide +kernel
theorem dX7_trace_80 : decode cX7_trace 80 = .ok (.iconst 1, 1) := by decide +kernel
theorem dX7_trace_81 : decode cX7_trace 81 = .ok (.goto 4, 3) := by decide +kernel
theorem dX7_trace_84 : decode cX7_trace 84 = .ok (.iconst (-1), 1) := by decide +kernel
theorem dX7_trace_85 : decode cX7_trace 85 = .ok (.ireturn, 1) := by decide +kernel
theorem dX7_trace_86 : decode cX7_trace 86 = .ok (.iconst 0, 1) := by decide +kernel
theorem dX7_trace_87 : decode cX7_trace 87 = .ok (.ireturn, 1) := by decide +kernel
theorem dX7_own_0 : decode cX7_own 0 = .ok (.aload_n 0, 1) := by decide +kernel
theorem dX7_own_1 : decode cX7_own 1 = .ok (.iload_n 1, 1) := by decide +kernel
theorem dX7_own_2 : decode cX7_own 2 = .ok (.invokevirtual 68, 3) := by decide +kernel
theorem dX7_own_5 : decode cX7_own 5 = .ok (.ifCond .ne 7, 3) := by decide +kernel
theorem dX7_own_8 : decode cX7_own 8 = .ok (.ldc2_w 184, 3) := by decide +kernel
theorem dX7_own_11 : decode cX7_own 11 = .ok (.lreturn, 1) := by decide +kernel
theorem dX7_own_12 : decode cX7_own 12 = .ok (.aload_n 0, 1) := by decide +kernel
theorem dX7_own_13 : decode cX7_own 13 = .ok (.getfield 11, 3) := by decide +kernel
theorem dX7_own_16 : decode cX7_own 16 = .ok (.iload_n 1, 1) := by decide +kernel
theorem dX7_own_17 : decode cX7_own 17 = .ok (.aaload, 1) := by decide +kernel
theorem dX7_own_18 : decode cX7_own 18 = .ok (.invokevirtual 150, 3) := by decide +kernel
theorem dX7_own_21 : decode cX7_own 21 = .ok (.astore_n 2, 1) := by decide +kernel
theorem dX7_own_22 : decode cX7_own 22 = .ok (.lconst 1, 1) := by decide +kernel
theorem dX7_own_23 : decode cX7_own 23 = .ok (.lstore_n 3, 1) := by decide +kernel
theorem dX7_own_24 : decode cX7_own 24 = .ok (.iconst 0, 1) := by decide +kernel
theorem dX7_own_25 : decode cX7_own 25 = .ok (.istore 5, 2) := by decide +kernel
theorem dX7_own_27 : decode cX7_own 27 = .ok (.iload 5, 2) := by decide +kernel
theorem dX7_own_29 : decode cX7_own 29 = .ok (.aload_n 2, 1) := by decide +kernel
theorem dX7_own_30 : decode cX7_own 30 = .ok (.getfield 154, 3) := by decide +kernel
theorem dX7_own_33 : decode cX7_own 33 = .ok (.if_icmp .ge 42, 3) := by decide +kernel
theorem dX7_own_36 : decode cX7_own 36 = .ok (.aload_n 0, 1) := by decide +kernel
theorem dX7_own_37 : decode cX7_own 37 = .ok (.getfield 30, 3) := by decide +kernel
theorem dX7_own_40 : decode cX7_own 40 = .ok (.aload_n 0, 1) := by decide +kernel
theorem dX7_own_41 : decode cX7_own 41 = .ok (.getfield 11, 3) := by decide +kernel
theorem dX7_own_44 : decode cX7_own 44 = .ok (.iload_n 1, 1) := by decide +kernel
theorem dX7_own_45 : decode cX7_own 45 = .ok (.aaload, 1) := by decide +kernel
theorem dX7_own_46 : decode cX7_own 46 = .ok (.getfield 112, 3) := by decide +kernel
theorem dX7_own_49 : decode cX7_own 49 = .ok (.aload_n 2, 1) := by decide +kernel
theorem dX7_own_50 : decode cX7_own 50 = .ok (.iload 5, 2) := by decide +kernel
theorem dX7_own_52 : decode cX7_own 52 = .ok (.invokevirtual 159, 3) := by decide +kernel
theorem dX7_own_55 : decode cX7_own 55 = .ok (.invokevirtual 143, 3) := by decide +kernel
theorem dX7_own_58 : decode cX7_own 58 = .ok (.lload_n 3, 1) := by decide +kernel
theorem dX7_own_59 : decode cX7_own 59 = .ok (.aload_n 0, 1) := by decide +kernel
theorem dX7_own_60 : decode cX7_own 60 = .ok (.getfield 30, 3) := by decide +kernel
theorem dX7_own_63 : decode cX7_own 63 = .ok (.getfield 186, 3) := by decide +kernel
theorem dX7_own_66 : decode cX7_own 66 = .ok (.i2l, 1) := by decide +kernel
theorem dX7_own_67 : decode cX7_own 67 = .ok (.lmul, 1) := by decide +kernel
theorem dX7_own_68 : decode cX7_own 68 = .ok (.lstore_n 3, 1) := by decide +kernel
theorem dX7_own_69 : decode cX7_own 69 = .ok (.iinc 5 1, 3) := by decide +kernel
theorem dX7_own_72 : decode cX7_own 72 = .ok (.goto (-45), 3) := by decide +kernel
theorem dX7_own_75 : decode cX7_own 75 = .ok (.lload_n 3, 1) := by decide +kernel
theorem dX7_own_76 : decode cX7_own 76 = .ok (.lreturn, 1) := by decide +kernel
theorem dX7_best_0 : decode cX7_best 0 = .ok (.aload_n 0, 1) := by decide +kernel
theorem dX7_best_1 : decode cX7_best 1 = .ok (.iload_n 1, 1) := by decide +kernel
theorem dX7_best_2 : decode cX7_best 2 = .ok (.invokevirtual 68, 3) := by decide +kernel
theorem dX7_best_5 : decode cX7_best 5 = .ok (.ifCond .eq 11, 3) := by decide +kernel
theorem dX7_best_8 : decode cX7_best 8 = .ok (.aload_n 0, 1) := by decide +kernel
theorem dX7_best_9 : decode cX7_best 9 = .ok (.iload_n 1, 1) := by decide +kernel
theorem dX7_best_10 : decode cX7_best 10 = .ok (.invokevirtual 118, 3) := by decide +kernel
theorem dX7_best_13 : decode cX7_best 13 = .ok (.ifCond .ne 5, 3) := by decide +kernel
theorem dX7_best_16 : decode cX7_best 16 = .ok (.iconst 0, 1) := by decide +kernel
theorem dX7_best_17 : decode cX7_best 17 = .ok (.ireturn, 1) := by decide +kernel
theorem dX7_best_18 : decode cX7_best 18 = .ok (.iconst 0, 1) := by decide +kernel
theorem dX7_best_19 : decode cX7_best 19 = .ok (.istore_n 2, 1) := by decide +kernel
theorem dX7_best_20 : decode cX7_best 20 = .ok (.lconst 0, 1) := by decide +kernel
theorem dX7_best_21 : decode cX7_best 21 = .ok (.lstore_n 3, 1) := by decide +kernel
theorem dX7_best_22 : decode cX7_best 22 = .ok (.getstatic 189, 3) := by decide +kernel
theorem dX7_best_25 : decode cX7_best 25 = .ok (.astore 5, 2) := by decide +kernel
theorem dX7_best_27 : decode cX7_best 27 = .ok (.aload 5, 2) := by decide +kernel
theorem dX7_best_29 : decode cX7_best 29 = .ok (.arraylength, 1) := by decide +kernel
theorem dX7_best_30 : decode cX7_best 30 = .ok (.istore 6, 2) := by decide +kernel
theorem dX7_best_32 : decode cX7_best 32 = .ok (.iconst 0, 1) := by decide +kernel
theorem dX7_best_33 : decode cX7_best 33 = .ok (.istore 7, 2) := by decide +kernel
theorem dX7_best_35 : decode cX7_best 35 = .ok (.iload 7, 2) := by decide +kernel
theorem dX7_best_37 : decode cX7_best 37 = .ok (.iload 6, 2) := by decide +kernel
theorem dX7_best_39 : decode cX7_best 39 = .ok (.if_icmp .ge 42, 3) := by decide +kernel
theorem dX7_best_42 : decode cX7_best 42 = .ok (.aload 5, 2) := by decide +kernel
theorem dX7_best_44 : decode cX7_best 44 = .ok (.iload 7, 2) := by decide +kernel
theorem dX7_best_46 : decode cX7_best 46 = .ok (.iaload, 1) := by decide +kernel
theorem dX7_best_47 : decode cX7_best 47 = .ok (.istore 8, 2) := by decide +kernel
theorem dX7_best_49 : decode cX7_best 49 = .ok (.aload_n 0, 1) := by decide +kernel
