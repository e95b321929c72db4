theorem dX8_drop_0 : decode cX8_drop 0 = .ok (.aload_n 0, 1) := by decide +kernel
theorem dX8_drop_1 : decode cX8_drop 1 = .ok (.iconst 0, 1) := by decide +kernel
theorem dX8_drop_2 : decode cX8_drop 2 = .ok (.putfield 41, 3) := by decide +kernel
theorem dX8_drop_5 : decode cX8_drop 5 = .ok (.aload_n 0, 1) := by decide +kernel
theorem dX8_drop_6 : decode cX8_drop 6 = .ok (.getfield 45, 3) := by decide +kernel
theorem dX8_drop_9 : decode cX8_drop 9 = .ok (.ifCond .ne 5, 3) := by decide +kernel
theorem dX8_drop_12 : decode cX8_drop 12 = .ok (.iconst (-1), 1) := by decide +kernel
theorem dX8_drop_13 : decode cX8_drop 13 = .ok (.ireturn, 1) := by decide +kernel
theorem dX8_drop_14 : decode cX8_drop 14 = .ok (.aload_n 0, 1) := by decide +kernel
theorem dX8_drop_15 : decode cX8_drop 15 = .ok (.dup, 1) := by decide +kernel
theorem dX8_drop_16 : decode cX8_drop 16 = .ok (.getfield 45, 3) := by decide +kernel
theorem dX8_drop_19 : decode cX8_drop 19 = .ok (.iconst 1, 1) := by decide +kernel
theorem dX8_drop_20 : decode cX8_drop 20 = .ok (.isub, 1) := by decide +kernel
theorem dX8_drop_21 : decode cX8_drop 21 = .ok (.putfield 45, 3) := by decide +kernel
theorem dX8_drop_24 : decode cX8_drop 24 = .ok (.aload_n 0, 1) := by decide +kernel
theorem dX8_drop_25 : decode cX8_drop 25 = .ok (.getfield 45, 3) := by decide +kernel
theorem dX8_drop_28 : decode cX8_drop 28 = .ok (.ireturn, 1) := by decide +kernel
theorem dX8_times_0 : decode cX8_times 0 = .ok (.lload_n 2, 1) := by decide +kernel
theorem dX8_times_1 : decode cX8_times 1 = .ok (.lconst 0, 1) := by decide +kernel
theorem dX8_times_2 : decode cX8_times 2 = .ok (.lcmp, 1) := by decide +kernel
theorem dX8_times_3 : decode cX8_times 3 = .ok (.ifCond .ne 6, 3) := by decide +kernel
theorem dX8_times_6 : decode cX8_times 6 = .ok (.bipush 99, 2) := by decide +kernel
theorem dX8_times_8 : decode cX8_times 8 = .ok (.ireturn, 1) := by decide +kernel
theorem dX8_times_9 : decode cX8_times 9 = .ok (.iconst 0, 1) := by decide +kernel
theorem dX8_times_10 : decode cX8_times 10 = .ok (.istore 4, 2) := by decide +kernel
theorem dX8_times_12 : decode cX8_times 12 = .ok (.lload_n 2, 1) := by decide +kernel
theorem dX8_times_13 : decode cX8_times 13 = .ok (.lstore 5, 2) := by decide +kernel
theorem dX8_times_15 : decode cX8_times 15 = .ok (.lload 5, 2) := by decide +kernel
theorem dX8_times_17 : decode cX8_times 17 = .ok (.lload_n 0, 1) := by decide +kernel
theorem dX8_times_18 : decode cX8_times 18 = .ok (.lrem, 1) := by decide +kernel
theorem dX8_times_19 : decode cX8_times 19 = .ok (.lconst 0, 1) := by decide +kernel
theorem dX8_times_20 : decode cX8_times 20 = .ok (.lcmp, 1) := by decide +kernel
theorem dX8_times_21 : decode cX8_times 21 = .ok (.ifCond .ne 15, 3) := by decide +kernel
theorem dX8_times_24 : decode cX8_times 24 = .ok (.lload 5, 2) := by decide +kernel
theorem dX8_times_26 : decode cX8_times 26 = .ok (.lload_n 0, 1) := by decide +kernel
theorem dX8_times_27 : decode cX8_times 27 = .ok (.ldiv, 1) := by decide +kernel
theorem dX8_times_28 : decode cX8_times 28 = .ok (.lstore 5, 2) := by decide +kernel
theorem dX8_times_30 : decode cX8_times 30 = .ok (.iinc 4 1, 3) := by decide +kernel
theorem dX8_times_33 : decode cX8_times 33 = .ok (.goto (-18), 3) := by decide +kernel
theorem dX8_times_36 : decode cX8_times 36 = .ok (.iload 4, 2) := by decide +kernel
theorem dX8_times_38 : decode cX8_times 38 = .ok (.ireturn, 1) := by decide +kernel
theorem dX8_modulo_0 : decode cX8_modulo 0 = .ok (.lload_n 0, 1) := by decide +kernel
theorem dX8_modulo_1 : decode cX8_modulo 1 = .ok (.lload_n 2, 1) := by decide +kernel
theorem dX8_modulo_2 : decode cX8_modulo 2 = .ok (.lrem, 1) := by decide +kernel
theorem dX8_modulo_3 : decode cX8_modulo 3 = .ok (.lload_n 2, 1) := by decide +kernel
theorem dX8_modulo_4 : decode cX8_modulo 4 = .ok (.ladd, 1) := by decide +kernel
theorem dX8_modulo_5 : decode cX8_modulo 5 = .ok (.lload_n 2, 1) := by decide +kernel
theorem dX8_modulo_6 : decode cX8_modulo 6 = .ok (.lrem, 1) := by decide +kernel
theorem dX8_modulo_7 : decode cX8_modulo 7 = .ok (.lreturn, 1) := by decide +kernel
theorem dX8_without_0 : decode cX8_without 0 = .ok (.lload_n 0, 1) := by decide +kernel
theorem dX8_without_1 : decode cX8_without 1 = .ok (.lload_n 2, 1) := by decide +kernel
theorem dX8_without_2 : decode cX8_without 2 = .ok (.iload 4, 2) := by decide +kernel
theorem dX8_without_4 : decode cX8_without 4 = .ok (.invokestatic 83, 3) := by decide +kernel
theorem dX8_without_7 : decode cX8_without 7 = .ok (.ldiv, 1) := by decide +kernel
theorem dX8_without_8 : decode cX8_without 8 = .ok (.lreturn, 1) := by decide +kernel
theorem dX8_square_0 : decode cX8_square 0 = .ok (.lload_n 0, 1) := by decide +kernel
theorem dX8_square_1 : decode cX8_square 1 = .ok (.lload_n 2, 1) := by decide +kernel
theorem dX8_square_2 : decode cX8_square 2 = .ok (.invokestatic 138, 3) := by decide +kernel
theorem dX8_square_5 : decode cX8_square 5 = .ok (.lstore 4, 2) := by decide +kernel
theorem dX8_square_7 : decode cX8_square 7 = .ok (.lload 4, 2) := by decide +kernel
theorem dX8_square_9 : decode cX8_square 9 = .ok (.lconst 0, 1) := by decide +kernel
theorem dX8_square_10 : decode cX8_square 10 = .ok (.lcmp, 1) := by decide +kernel
theorem dX8_square_11 : decode cX8_square 11 = .ok (.ifCond .ne 5, 3) := by decide +kernel
theorem dX8_square_14 : decode cX8_square 14 = .ok (.iconst 0, 1) := by decide +kernel
theorem dX8_square_15 : decode cX8_square 15 = .ok (.ireturn, 1) := by decide +kernel
theorem dX8_square_16 : decode cX8_square 16 = .ok (.lconst 1, 1) := by decide +kernel
theorem dX8_square_17 : decode cX8_square 17 = .ok (.lstore 6, 2) := by decide +kernel
theorem dX8_square_19 : decode cX8_square 19 = .ok (.lload 4, 2) := by decide +kernel
theorem dX8_square_21 : decode cX8_square 21 = .ok (.lstore 8, 2) := by decide +kernel
theorem dX8_square_23 : decode cX8_square 23 = .ok (.lload_n 2, 1) := by decide +kernel
theorem dX8_square_24 : decode cX8_square 24 = .ok (.lconst 1, 1) := by decide +kernel
theorem dX8_square_25 : decode cX8_square 25 = .ok (.lsub, 1) := by decide +kernel
theorem dX8_square_26 : decode cX8_square 26 = .ok (.ldc2_w 50, 3) := by decide +kernel
theorem dX8_square_29 : decode cX8_square 29 = .ok (.ldiv, 1) := by decide +kernel
theorem dX8_square_30 : decode cX8_square 30 = .ok (.lstore 10, 2) := by decide +kernel
theorem dX8_square_32 : decode cX8_square 32 = .ok (.lload 10, 2) := by decide +kernel
theorem dX8_square_34 : decode cX8_square 34 = .ok (.lconst 0, 1) := by decide +kernel
theorem dX8_square_35 : decode cX8_square 35 = .ok (.lcmp, 1) := by decide +kernel
theorem dX8_square_36 : decode cX8_square 36 = .ok (.ifCond .le 43, 3) := by decide +kernel
theorem dX8_square_39 : decode cX8_square 39 = .ok (.lload 10, 2) := by decide +kernel
theorem dX8_square_41 : decode cX8_square 41 = .ok (.ldc2_w 50, 3) := by decide +kernel
theorem dX8_square_44 : decode cX8_square 44 = .ok (.lrem, 1) := by decide +kernel
theorem dX8_square_45 : decode cX8_square 45 = .ok (.lconst 1, 1) := by decide +kernel
theorem dX8_square_46 : decode cX8_square 46 = .ok (.lcmp, 1) := by decide +kernel
theorem dX8_square_47 : decode cX8_square 47 = .ok (.ifCond .ne 12, 3) := by decide +kernel
theorem dX8_square_50 : decode cX8_square 50 = .ok (.lload 6, 2) := by decide +kernel
theorem dX8_square_52 : decode cX8_square 52 = .ok (.lload 8, 2) := by decide +kernel
theorem dX8_square_54 : decode cX8_square 54 = .ok (.lmul, 1) := by decide +kernel
theorem dX8_square_55 : decode cX8_square 55 = .ok (.lload_n 2, 1) := by decide +kernel
theorem dX8_square_56 : decode cX8_square 56 = .ok (.lrem, 1) := by decide +kernel
theorem dX8_square_57 : decode cX8_square 57 = .ok (.lstore 6, 2) := by decide +kernel
theorem dX8_square_59 : decode cX8_square 59 = .ok (.lload 8, 2) := by decide +kernel
theorem dX8_square_61 : decode cX8_square 61 = .ok (.lload 8, 2) := by decide +kernel
theorem dX8_square_63 : decode cX8_square 63 = .ok (.lmul, 1) := by decide +kernel
theorem dX8_square_64 : decode cX8_square 64 = .ok (.lload_n 2, 1) := by decide +kernel
theorem dX8_square_65 : decode cX8_square 65 = .ok (.lrem, 1) := by decide +kernel
theorem dX8_square_66 : decode cX8_square 66 = .ok (.lstore 8, 2) := by decide +kernel
theorem dX8_square_68 : decode cX8_square 68 = .ok (.lload 10, 2) := by decide +kernel
theorem dX8_square_70 : decode cX8_square 70 = .ok (.ldc2_w 50, 3) := by decide +kernel
theorem dX8_square_73 : decode cX8_square 73 = .ok (.ldiv, 1) := by decide +kernel
theorem dX8_square_74 : decode cX8_square 74 = .ok (.lstore 10, 2) := by decide +kernel
theorem dX8_square_76 : decode cX8_square 76 = .ok (.goto (-44), 3) := by decide +kernel
theorem dX8_square_79 : decode cX8_square 79 = .ok (.lload 6, 2) := by decide +kernel
theorem dX8_square_81 : decode cX8_square 81 = .ok (.lconst 1, 1) := by decide +kernel
theorem dX8_square_82 : decode cX8_square 82 = .ok (.lcmp, 1) := by decide +kernel
theorem dX8_square_83 : decode cX8_square 83 = .ok (.ifCond .ne 7, 3) := by decide +kernel
theorem dX8_square_86 : decode cX8_square 86 = .ok (.iconst 1, 1) := by decide +kernel
theorem dX8_square_87 : decode cX8_square 87 = .ok (.goto 4, 3) := by decide +kernel
theorem dX8_square_90 : decode cX8_square 90 = .ok (.iconst (-1), 1) := by decide +kernel
theorem dX8_square_91 : decode cX8_square 91 = .ok (.ireturn, 1) := by decide +kernel
theorem dX8_isPrime_0 : decode cX8_isPrime 0 = .ok (.lload_n 0, 1) := by decide +kernel
theorem dX8_isPrime_1 : decode cX8_isPrime 1 = .ok (.lconst 1, 1) := by decide +kernel
theorem dX8_isPrime_2 : decode cX8_isPrime 2 = .ok (.lcmp, 1) := by decide +kernel
theorem dX8_isPrime_3 : decode cX8_isPrime 3 = .ok (.ifCond .le 7, 3) := by decide +kernel
theorem dX8_isPrime_6 : decode cX8_isPrime 6 = .ok (.iconst 1, 1) := by decide +kernel
theorem dX8_isPrime_7 : decode cX8_isPrime 7 = .ok (.goto 4, 3) := by decide +kernel
theorem dX8_isPrime_10 : decode cX8_isPrime 10 = .ok (.iconst 0, 1) := by decide +kernel
theorem dX8_isPrime_11 : decode cX8_isPrime 11 = .ok (.istore_n 2, 1) := by decide +kernel
theorem dX8_isPrime_12 : decode cX8_isPrime 12 = .ok (.ldc2_w 50, 3) := by decide +kernel
theorem dX8_isPrime_15 : decode cX8_isPrime 15 = .ok (.lstore_n 3, 1) := by decide +kernel
theorem dX8_isPrime_16 : decode cX8_isPrime 16 = .ok (.lload_n 3, 1) := by decide +kernel
theorem dX8_isPrime_17 : decode cX8_isPrime 17 = .ok (.lload_n 3, 1) := by decide +kernel
theorem dX8_isPrime_18 : decode cX8_isPrime 18 = .ok (.lmul, 1) := by decide +kernel
theorem dX8_isPrime_19 : decode cX8_isPrime 19 = .ok (.lload_n 0, 1) := by decide +kernel
theorem dX8_isPrime_20 : decode cX8_isPrime 20 = .ok (.lcmp, 1) := by decide +kernel
theorem dX8_isPrime_21 : decode cX8_isPrime 21 = .ok (.ifCond .gt 28, 3) := by decide +kernel
theorem dX8_isPrime_24 : decode cX8_isPrime 24 = .ok (.iload_n 2, 1) := by decide +kernel
theorem dX8_isPrime_25 : decode cX8_isPrime 25 = .ok (.ifCond .eq 24, 3) := by decide +kernel
theorem dX8_isPrime_28 : decode cX8_isPrime 28 = .ok (.lload_n 0, 1) := by decide +kernel
theorem dX8_isPrime_29 : decode cX8_isPrime 29 = .ok (.lload_n 3, 1) := by decide +kernel
theorem dX8_isPrime_30 : decode cX8_isPrime 30 = .ok (.lrem, 1) := by decide +kernel
theorem dX8_isPrime_31 : decode cX8_isPrime 31 = .ok (.lconst 0, 1) := by decide +kernel
theorem dX8_isPrime_32 : decode cX8_isPrime 32 = .ok (.lcmp, 1) := by decide +kernel
theorem dX8_isPrime_33 : decode cX8_isPrime 33 = .ok (.ifCond .eq 7, 3) := by decide +kernel
theorem dX8_isPrime_36 : decode cX8_isPrime 36 = .ok (.iconst 1, 1) := by decide +kernel
theorem dX8_isPrime_37 : decode cX8_isPrime 37 = .ok (.goto 4, 3) := by decide +kernel
theorem dX8_isPrime_40 : decode cX8_isPrime 40 = .ok (.iconst 0, 1) := by decide +kernel
theorem dX8_isPrime_41 : decode cX8_isPrime 41 = .ok (.istore_n 2, 1) := by decide +kernel
theorem dX8_isPrime_42 : decode cX8_isPrime 42 = .ok (.lload_n 3, 1) := by decide +kernel
theorem dX8_isPrime_43 : decode cX8_isPrime 43 = .ok (.lconst 1, 1) := by decide +kernel
theorem dX8_isPrime_44 : decode cX8_isPrime 44 = .ok (.ladd, 1) := by decide +kernel
theorem dX8_isPrime_45 : decode cX8_isPrime 45 = .ok (.lstore_n 3, 1) := by decide +kernel
theorem dX8_isPrime_46 : decode cX8_isPrime 46 = .ok (.goto (-30), 3) := by decide +kernel
theorem dX8_isPrime_49 : decode cX8_isPrime 49 = .ok (.iload_n 2, 1) := by decide +kernel
theorem dX8_isPrime_50 : decode cX8_isPrime 50 = .ok (.ireturn, 1) := by decide +kernel
theorem dX8_laysPrimes_0 : decode cX8_laysPrimes 0 = .ok (.lload_n 1, 1) := by decide +kernel
theorem dX8_laysPrimes_1 : decode cX8_laysPrimes 1 = .ok (.invokestatic 90, 3) := by decide +kernel
theorem dX8_laysPrimes_4 : decode cX8_laysPrimes 4 = .ok (.lstore_n 3, 1) := by decide +kernel
theorem dX8_laysPrimes_5 : decode cX8_laysPrimes 5 = .ok (.aload_n 0, 1) := by decide +kernel
theorem dX8_laysPrimes_6 : decode cX8_laysPrimes 6 = .ok (.iconst 0, 1) := by decide +kernel
theorem dX8_laysPrimes_7 : decode cX8_laysPrimes 7 = .ok (.putfield 141, 3) := by decide +kernel
theorem dX8_laysPrimes_10 : decode cX8_laysPrimes 10 = .ok (.ldc2_w 50, 3) := by decide +kernel
theorem dX8_laysPrimes_13 : decode cX8_laysPrimes 13 = .ok (.lstore 5, 2) := by decide +kernel
theorem dX8_laysPrimes_15 : decode cX8_laysPrimes 15 = .ok (.lload 5, 2) := by decide +kernel
theorem dX8_laysPrimes_17 : decode cX8_laysPrimes 17 = .ok (.ldc2_w 144, 3) := by decide +kernel
theorem dX8_laysPrimes_20 : decode cX8_laysPrimes 20 = .ok (.lcmp, 1) := by decide +kernel
theorem dX8_laysPrimes_21 : decode cX8_laysPrimes 21 = .ok (.ifCond .gt 65, 3) := by decide +kernel
theorem dX8_laysPrimes_24 : decode cX8_laysPrimes 24 = .ok (.lload_n 3, 1) := by decide +kernel
theorem dX8_laysPrimes_25 : decode cX8_laysPrimes 25 = .ok (.lconst 1, 1) := by decide +kernel
theorem dX8_laysPrimes_26 : decode cX8_laysPrimes 26 = .ok (.lcmp, 1) := by decide +kernel
theorem dX8_laysPrimes_27 : decode cX8_laysPrimes 27 = .ok (.ifCond .le 59, 3) := by decide +kernel
theorem dX8_laysPrimes_30 : decode cX8_laysPrimes 30 = .ok (.lload_n 3, 1) := by decide +kernel
theorem dX8_laysPrimes_31 : decode cX8_laysPrimes 31 = .ok (.lload 5, 2) := by decide +kernel
theorem dX8_laysPrimes_33 : decode cX8_laysPrimes 33 = .ok (.lrem, 1) := by decide +kernel
theorem dX8_laysPrimes_34 : decode cX8_laysPrimes 34 = .ok (.lconst 0, 1) := by decide +kernel
theorem dX8_laysPrimes_35 : decode cX8_laysPrimes 35 = .ok (.lcmp, 1) := by decide +kernel
theorem dX8_laysPrimes_36 : decode cX8_laysPrimes 36 = .ok (.ifCond .ne 41, 3) := by decide +kernel
theorem dX8_laysPrimes_39 : decode cX8_laysPrimes 39 = .ok (.aload_n 0, 1) := by decide +kernel
theorem dX8_laysPrimes_40 : decode cX8_laysPrimes 40 = .ok (.getfield 19, 3) := by decide +kernel
theorem dX8_laysPrimes_43 : decode cX8_laysPrimes 43 = .ok (.aload_n 0, 1) := by decide +kernel
theorem dX8_laysPrimes_44 : decode cX8_laysPrimes 44 = .ok (.getfield 141, 3) := by decide +kernel
theorem dX8_laysPrimes_47 : decode cX8_laysPrimes 47 = .ok (.lload 5, 2) := by decide +kernel
theorem dX8_laysPrimes_49 : decode cX8_laysPrimes 49 = .ok (.lastore, 1) := by decide +kernel
theorem dX8_laysPrimes_50 : decode cX8_laysPrimes 50 = .ok (.aload_n 0, 1) := by decide +kernel
theorem dX8_laysPrimes_51 : decode cX8_laysPrimes 51 = .ok (.dup, 1) := by decide +kernel
theorem dX8_laysPrimes_52 : decode cX8_laysPrimes 52 = .ok (.getfield 141, 3) := by decide +kernel
theorem dX8_laysPrimes_55 : decode cX8_laysPrimes 55 = .ok (.iconst 1, 1) := by decide +kernel
theorem dX8_laysPrimes_56 : decode cX8_laysPrimes 56 = .ok (.iadd, 1) := by decide +kernel
theorem dX8_laysPrimes_57 : decode cX8_laysPrimes 57 = .ok (.putfield 141, 3) := by decide +kernel
theorem dX8_laysPrimes_60 : decode cX8_laysPrimes 60 = .ok (.lload_n 3, 1) := by decide +kernel
theorem dX8_laysPrimes_61 : decode cX8_laysPrimes 61 = .ok (.lload 5, 2) := by decide +kernel
theorem dX8_laysPrimes_63 : decode cX8_laysPrimes 63 = .ok (.lrem, 1) := by decide +kernel
theorem dX8_laysPrimes_64 : decode cX8_laysPrimes 64 = .ok (.lconst 0, 1) := by decide +kernel
theorem dX8_laysPrimes_65 : decode cX8_laysPrimes 65 = .ok (.lcmp, 1) := by decide +kernel
theorem dX8_laysPrimes_66 : decode cX8_laysPrimes 66 = .ok (.ifCond .ne 11, 3) := by decide +kernel
theorem dX8_laysPrimes_69 : decode cX8_laysPrimes 69 = .ok (.lload_n 3, 1) := by decide +kernel
theorem dX8_laysPrimes_70 : decode cX8_laysPrimes 70 = .ok (.lload 5, 2) := by decide +kernel
theorem dX8_laysPrimes_72 : decode cX8_laysPrimes 72 = .ok (.ldiv, 1) := by decide +kernel
theorem dX8_laysPrimes_73 : decode cX8_laysPrimes 73 = .ok (.lstore_n 3, 1) := by decide +kernel
theorem dX8_laysPrimes_74 : decode cX8_laysPrimes 74 = .ok (.goto (-14), 3) := by decide +kernel
theorem dX8_laysPrimes_77 : decode cX8_laysPrimes 77 = .ok (.lload 5, 2) := by decide +kernel
theorem dX8_laysPrimes_79 : decode cX8_laysPrimes 79 = .ok (.lconst 1, 1) := by decide +kernel
theorem dX8_laysPrimes_80 : decode cX8_laysPrimes 80 = .ok (.ladd, 1) := by decide +kernel
theorem dX8_laysPrimes_81 : decode cX8_laysPrimes 81 = .ok (.lstore 5, 2) := by decide +kernel
theorem dX8_laysPrimes_83 : decode cX8_laysPrimes 83 = .ok (.goto (-68), 3) := by decide +kernel
theorem dX8_laysPrimes_86 : decode cX8_laysPrimes 86 = .ok (.lload_n 3, 1) := by decide +kernel
theorem dX8_laysPrimes_87 : decode cX8_laysPrimes 87 = .ok (.lconst 1, 1) := by decide +kernel
theorem dX8_laysPrimes_88 : decode cX8_laysPrimes 88 = .ok (.lcmp, 1) := by decide +kernel
theorem dX8_laysPrimes_89 : decode cX8_laysPrimes 89 = .ok (.ifCond .le 23, 3) := by decide +kernel
theorem dX8_laysPrimes_92 : decode cX8_laysPrimes 92 = .ok (.aload_n 0, 1) := by decide +kernel
theorem dX8_laysPrimes_93 : decode cX8_laysPrimes 93 = .ok (.getfield 19, 3) := by decide +kernel
theorem dX8_laysPrimes_96 : decode cX8_laysPrimes 96 = .ok (.aload_n 0, 1) := by decide +kernel
theorem dX8_laysPrimes_97 : decode cX8_laysPrimes 97 = .ok (.getfield 141, 3) := by decide +kernel
theorem dX8_laysPrimes_100 : decode cX8_laysPrimes 100 = .ok (.lload_n 3, 1) := by decide +kernel
theorem dX8_laysPrimes_101 : decode cX8_laysPrimes 101 = .ok (.lastore, 1) := by decide +kernel
theorem dX8_laysPrimes_102 : decode cX8_laysPrimes 102 = .ok (.aload_n 0, 1) := by decide +kernel
theorem dX8_laysPrimes_103 : decode cX8_laysPrimes 103 = .ok (.dup, 1) := by decide +kernel
theorem dX8_laysPrimes_104 : decode cX8_laysPrimes 104 = .ok (.getfield 141, 3) := by decide +kernel
theorem dX8_laysPrimes_107 : decode cX8_laysPrimes 107 = .ok (.iconst 1, 1) := by decide +kernel
theorem dX8_laysPrimes_108 : decode cX8_laysPrimes 108 = .ok (.iadd, 1) := by decide +kernel
theorem dX8_laysPrimes_109 : decode cX8_laysPrimes 109 = .ok (.putfield 141, 3) := by decide +kernel
theorem dX8_laysPrimes_112 : decode cX8_laysPrimes 112 = .ok (.return_, 1) := by decide +kernel
theorem dX8_is_0 : decode cX8_is 0 = .ok (.aload_n 0, 1) := by decide +kernel
theorem dX8_is_1 : decode cX8_is 1 = .ok (.getfield 22, 3) := by decide +kernel
theorem dX8_is_4 : decode cX8_is 4 = .ok (.iconst 0, 1) := by decide +kernel
theorem dX8_is_5 : decode cX8_is 5 = .ok (.iload_n 1, 1) := by decide +kernel
theorem dX8_is_6 : decode cX8_is 6 = .ok (.iastore, 1) := by decide +kernel
theorem dX8_is_7 : decode cX8_is 7 = .ok (.aload_n 0, 1) := by decide +kernel
theorem dX8_is_8 : decode cX8_is 8 = .ok (.getfield 22, 3) := by decide +kernel
theorem dX8_is_11 : decode cX8_is 11 = .ok (.iconst 1, 1) := by decide +kernel
theorem dX8_is_12 : decode cX8_is 12 = .ok (.iload_n 2, 1) := by decide +kernel
theorem dX8_is_13 : decode cX8_is 13 = .ok (.iastore, 1) := by decide +kernel
theorem dX8_is_14 : decode cX8_is 14 = .ok (.aload_n 0, 1) := by decide +kernel
theorem dX8_is_15 : decode cX8_is 15 = .ok (.getfield 22, 3) := by decide +kernel
theorem dX8_is_18 : decode cX8_is 18 = .ok (.iconst 2, 1) := by decide +kernel
theorem dX8_is_19 : decode cX8_is 19 = .ok (.iload_n 3, 1) := by decide +kernel
theorem dX8_is_20 : decode cX8_is 20 = .ok (.iastore, 1) := by decide +kernel
theorem dX8_is_21 : decode cX8_is 21 = .ok (.aload_n 0, 1) := by decide +kernel
theorem dX8_is_22 : decode cX8_is 22 = .ok (.getfield 22, 3) := by decide +kernel
theorem dX8_is_25 : decode cX8_is 25 = .ok (.iconst 3, 1) := by decide +kernel
theorem dX8_is_26 : decode cX8_is 26 = .ok (.iload 4, 2) := by decide +kernel
theorem dX8_is_28 : decode cX8_is 28 = .ok (.iastore, 1) := by decide +kernel
theorem dX8_is_29 : decode cX8_is 29 = .ok (.aload_n 0, 1) := by decide +kernel
theorem dX8_is_30 : decode cX8_is 30 = .ok (.getfield 22, 3) := by decide +kernel
theorem dX8_is_33 : decode cX8_is 33 = .ok (.iconst 4, 1) := by decide +kernel
theorem dX8_is_34 : decode cX8_is 34 = .ok (.iload 5, 2) := by decide +kernel
theorem dX8_is_36 : decode cX8_is 36 = .ok (.iastore, 1) := by decide +kernel
theorem dX8_is_37 : decode cX8_is 37 = .ok (.aload_n 0, 1) := by decide +kernel
theorem dX8_is_38 : decode cX8_is 38 = .ok (.getfield 22, 3) := by decide +kernel
theorem dX8_is_41 : decode cX8_is 41 = .ok (.iconst 5, 1) := by decide +kernel
theorem dX8_is_42 : decode cX8_is 42 = .ok (.iload 6, 2) := by decide +kernel
theorem dX8_is_44 : decode cX8_is 44 = .ok (.iastore, 1) := by decide +kernel
theorem dX8_is_45 : decode cX8_is 45 = .ok (.aload_n 0, 1) := by decide +kernel
theorem dX8_is_46 : decode cX8_is 46 = .ok (.getfield 22, 3) := by decide +kernel
theorem dX8_is_49 : decode cX8_is 49 = .ok (.bipush 6, 2) := by decide +kernel
theorem dX8_is_51 : decode cX8_is 51 = .ok (.iconst 0, 1) := by decide +kernel
theorem dX8_is_52 : decode cX8_is 52 = .ok (.iastore, 1) := by decide +kernel
theorem dX8_is_53 : decode cX8_is 53 = .ok (.return_, 1) := by decide +kernel
theorem dX8_lesser_0 : decode cX8_lesser 0 = .ok (.iload_n 0, 1) := by decide +kernel
theorem dX8_lesser_1 : decode cX8_lesser 1 = .ok (.iload_n 1, 1) := by decide +kernel
theorem dX8_lesser_2 : decode cX8_lesser 2 = .ok (.if_icmp .ge 7, 3) := by decide +kernel
theorem dX8_lesser_5 : decode cX8_lesser 5 = .ok (.iload_n 0, 1) := by decide +kernel
theorem dX8_lesser_6 : decode cX8_lesser 6 = .ok (.goto 4, 3) := by decide +kernel
theorem dX8_lesser_9 : decode cX8_lesser 9 = .ok (.iload_n 1, 1) := by decide +kernel
theorem dX8_lesser_10 : decode cX8_lesser 10 = .ok (.ireturn, 1) := by decide +kernel
theorem dX8_fallsFar_0 : decode cX8_fallsFar 0 = .ok (.aload_n 0, 1) := by decide +kernel
theorem dX8_fallsFar_1 : decode cX8_fallsFar 1 = .ok (.invokevirtual 146, 3) := by decide +kernel
theorem dX8_fallsFar_4 : decode cX8_fallsFar 4 = .ok (.lstore_n 3, 1) := by decide +kernel
theorem dX8_fallsFar_5 : decode cX8_fallsFar 5 = .ok (.aload_n 0, 1) := by decide +kernel
theorem dX8_fallsFar_6 : decode cX8_fallsFar 6 = .ok (.invokevirtual 149, 3) := by decide +kernel
theorem dX8_fallsFar_9 : decode cX8_fallsFar 9 = .ok (.lstore 5, 2) := by decide +kernel
theorem dX8_fallsFar_11 : decode cX8_fallsFar 11 = .ok (.aload_n 0, 1) := by decide +kernel
theorem dX8_fallsFar_12 : decode cX8_fallsFar 12 = .ok (.invokevirtual 87, 3) := by decide +kernel
theorem dX8_fallsFar_15 : decode cX8_fallsFar 15 = .ok (.lstore 7, 2) := by decide +kernel
theorem dX8_fallsFar_17 : decode cX8_fallsFar 17 = .ok (.lload_n 1, 1) := by decide +kernel
theorem dX8_fallsFar_18 : decode cX8_fallsFar 18 = .ok (.lload_n 3, 1) := by decide +kernel
theorem dX8_fallsFar_19 : decode cX8_fallsFar 19 = .ok (.invokestatic 152, 3) := by decide +kernel
theorem dX8_fallsFar_22 : decode cX8_fallsFar 22 = .ok (.iconst 4, 1) := by decide +kernel
theorem dX8_fallsFar_23 : decode cX8_fallsFar 23 = .ok (.idiv, 1) := by decide +kernel
theorem dX8_fallsFar_24 : decode cX8_fallsFar 24 = .ok (.lload_n 1, 1) := by decide +kernel
theorem dX8_fallsFar_25 : decode cX8_fallsFar 25 = .ok (.lload 5, 2) := by decide +kernel
theorem dX8_fallsFar_27 : decode cX8_fallsFar 27 = .ok (.invokestatic 152, 3) := by decide +kernel
theorem dX8_fallsFar_30 : decode cX8_fallsFar 30 = .ok (.bipush 6, 2) := by decide +kernel
theorem dX8_fallsFar_32 : decode cX8_fallsFar 32 = .ok (.idiv, 1) := by decide +kernel
theorem dX8_fallsFar_33 : decode cX8_fallsFar 33 = .ok (.invokestatic 156, 3) := by decide +kernel
theorem dX8_fallsFar_36 : decode cX8_fallsFar 36 = .ok (.lload_n 1, 1) := by decide +kernel
theorem dX8_fallsFar_37 : decode cX8_fallsFar 37 = .ok (.lload 7, 2) := by decide +kernel
theorem dX8_fallsFar_39 : decode cX8_fallsFar 39 = .ok (.invokestatic 152, 3) := by decide +kernel
theorem dX8_fallsFar_42 : decode cX8_fallsFar 42 = .ok (.bipush 12, 2) := by decide +kernel
theorem dX8_fallsFar_44 : decode cX8_fallsFar 44 = .ok (.idiv, 1) := by decide +kernel
theorem dX8_fallsFar_45 : decode cX8_fallsFar 45 = .ok (.invokestatic 156, 3) := by decide +kernel
theorem dX8_fallsFar_48 : decode cX8_fallsFar 48 = .ok (.istore 9, 2) := by decide +kernel
theorem dX8_fallsFar_50 : decode cX8_fallsFar 50 = .ok (.lload_n 3, 1) := by decide +kernel
theorem dX8_fallsFar_51 : decode cX8_fallsFar 51 = .ok (.lload_n 1, 1) := by decide +kernel
theorem dX8_fallsFar_52 : decode cX8_fallsFar 52 = .ok (.iconst 4, 1) := by decide +kernel
theorem dX8_fallsFar_53 : decode cX8_fallsFar 53 = .ok (.iload 9, 2) := by decide +kernel
theorem dX8_fallsFar_55 : decode cX8_fallsFar 55 = .ok (.imul, 1) := by decide +kernel
theorem dX8_fallsFar_56 : decode cX8_fallsFar 56 = .ok (.invokestatic 160, 3) := by decide +kernel
theorem dX8_fallsFar_59 : decode cX8_fallsFar 59 = .ok (.lstore_n 3, 1) := by decide +kernel
theorem dX8_fallsFar_60 : decode cX8_fallsFar 60 = .ok (.lload 5, 2) := by decide +kernel
theorem dX8_fallsFar_62 : decode cX8_fallsFar 62 = .ok (.lload_n 1, 1) := by decide +kernel
theorem dX8_fallsFar_63 : decode cX8_fallsFar 63 = .ok (.bipush 6, 2) := by decide +kernel
theorem dX8_fallsFar_65 : decode cX8_fallsFar 65 = .ok (.iload 9, 2) := by decide +kernel
theorem dX8_fallsFar_67 : decode cX8_fallsFar 67 = .ok (.imul, 1) := by decide +kernel
theorem dX8_fallsFar_68 : decode cX8_fallsFar 68 = .ok (.invokestatic 160, 3) := by decide +kernel
theorem dX8_fallsFar_71 : decode cX8_fallsFar 71 = .ok (.lstore 5, 2) := by decide +kernel
theorem dX8_fallsFar_73 : decode cX8_fallsFar 73 = .ok (.lload 7, 2) := by decide +kernel
theorem dX8_fallsFar_75 : decode cX8_fallsFar 75 = .ok (.lload_n 1, 1) := by decide +kernel
theorem dX8_fallsFar_76 : decode cX8_fallsFar 76 = .ok (.bipush 12, 2) := by decide +kernel
theorem dX8_fallsFar_78 : decode cX8_fallsFar 78 = .ok (.iload 9, 2) := by decide +kernel
theorem dX8_fallsFar_80 : decode cX8_fallsFar 80 = .ok (.imul, 1) := by decide +kernel
theorem dX8_fallsFar_81 : decode cX8_fallsFar 81 = .ok (.invokestatic 160, 3) := by decide +kernel
theorem dX8_fallsFar_84 : decode cX8_fallsFar 84 = .ok (.lstore 7, 2) := by decide +kernel
theorem dX8_fallsFar_86 : decode cX8_fallsFar 86 = .ok (.aload_n 0, 1) := by decide +kernel
theorem dX8_fallsFar_87 : decode cX8_fallsFar 87 = .ok (.getfield 22, 3) := by decide +kernel
theorem dX8_fallsFar_90 : decode cX8_fallsFar 90 = .ok (.bipush 7, 2) := by decide +kernel
theorem dX8_fallsFar_92 : decode cX8_fallsFar 92 = .ok (.iload 9, 2) := by decide +kernel
theorem dX8_fallsFar_94 : decode cX8_fallsFar 94 = .ok (.iastore, 1) := by decide +kernel
theorem dX8_fallsFar_95 : decode cX8_fallsFar 95 = .ok (.lload_n 1, 1) := by decide +kernel
theorem dX8_fallsFar_96 : decode cX8_fallsFar 96 = .ok (.lload 7, 2) := by decide +kernel
theorem dX8_fallsFar_98 : decode cX8_fallsFar 98 = .ok (.invokestatic 152, 3) := by decide +kernel
theorem dX8_fallsFar_101 : decode cX8_fallsFar 101 = .ok (.istore 10, 2) := by decide +kernel
theorem dX8_fallsFar_103 : decode cX8_fallsFar 103 = .ok (.iload 10, 2) := by decide +kernel
theorem dX8_fallsFar_105 : decode cX8_fallsFar 105 = .ok (.ifCond .ne 16, 3) := by decide +kernel
theorem dX8_fallsFar_108 : decode cX8_fallsFar 108 = .ok (.aload_n 0, 1) := by decide +kernel
theorem dX8_fallsFar_109 : decode cX8_fallsFar 109 = .ok (.iconst 0, 1) := by decide +kernel
theorem dX8_fallsFar_110 : decode cX8_fallsFar 110 = .ok (.iconst 0, 1) := by decide +kernel
theorem dX8_fallsFar_111 : decode cX8_fallsFar 111 = .ok (.iconst 0, 1) := by decide +kernel
theorem dX8_fallsFar_112 : decode cX8_fallsFar 112 = .ok (.iconst 1, 1) := by decide +kernel
theorem dX8_fallsFar_113 : decode cX8_fallsFar 113 = .ok (.iconst 1, 1) := by decide +kernel
theorem dX8_fallsFar_114 : decode cX8_fallsFar 114 = .ok (.iconst 0, 1) := by decide +kernel
theorem dX8_fallsFar_115 : decode cX8_fallsFar 115 = .ok (.invokevirtual 164, 3) := by decide +kernel
theorem dX8_fallsFar_118 : decode cX8_fallsFar 118 = .ok (.goto 106, 3) := by decide +kernel
theorem dX8_fallsFar_121 : decode cX8_fallsFar 121 = .ok (.lload_n 1, 1) := by decide +kernel
theorem dX8_fallsFar_122 : decode cX8_fallsFar 122 = .ok (.lload_n 3, 1) := by decide +kernel
theorem dX8_fallsFar_123 : decode cX8_fallsFar 123 = .ok (.invokestatic 152, 3) := by decide +kernel
theorem dX8_fallsFar_126 : decode cX8_fallsFar 126 = .ok (.ifCond .ne 86, 3) := by decide +kernel
theorem dX8_fallsFar_129 : decode cX8_fallsFar 129 = .ok (.iload 10, 2) := by decide +kernel
theorem dX8_fallsFar_131 : decode cX8_fallsFar 131 = .ok (.iconst 1, 1) := by decide +kernel
theorem dX8_fallsFar_132 : decode cX8_fallsFar 132 = .ok (.if_icmp .ne 15, 3) := by decide +kernel
theorem dX8_fallsFar_135 : decode cX8_fallsFar 135 = .ok (.lload_n 1, 1) := by decide +kernel
theorem dX8_fallsFar_136 : decode cX8_fallsFar 136 = .ok (.ldc2_w 168, 3) := by decide +kernel
theorem dX8_fallsFar_139 : decode cX8_fallsFar 139 = .ok (.lcmp, 1) := by decide +kernel
theorem dX8_fallsFar_140 : decode cX8_fallsFar 140 = .ok (.ifCond .le 7, 3) := by decide +kernel
theorem dX8_fallsFar_143 : decode cX8_fallsFar 143 = .ok (.iconst 0, 1) := by decide +kernel
theorem dX8_fallsFar_144 : decode cX8_fallsFar 144 = .ok (.goto 19, 3) := by decide +kernel
theorem dX8_fallsFar_147 : decode cX8_fallsFar 147 = .ok (.lload 5, 2) := by decide +kernel
theorem dX8_fallsFar_149 : decode cX8_fallsFar 149 = .ok (.lneg, 1) := by decide +kernel
theorem dX8_fallsFar_150 : decode cX8_fallsFar 150 = .ok (.lload_n 1, 1) := by decide +kernel
theorem dX8_fallsFar_151 : decode cX8_fallsFar 151 = .ok (.invokestatic 170, 3) := by decide +kernel
theorem dX8_fallsFar_154 : decode cX8_fallsFar 154 = .ok (.iconst 1, 1) := by decide +kernel
theorem dX8_fallsFar_155 : decode cX8_fallsFar 155 = .ok (.if_icmp .ne 7, 3) := by decide +kernel
theorem dX8_fallsFar_158 : decode cX8_fallsFar 158 = .ok (.iconst 1, 1) := by decide +kernel
theorem dX8_fallsFar_159 : decode cX8_fallsFar 159 = .ok (.goto 4, 3) := by decide +kernel
theorem dX8_fallsFar_162 : decode cX8_fallsFar 162 = .ok (.iconst 0, 1) := by decide +kernel
theorem dX8_fallsFar_163 : decode cX8_fallsFar 163 = .ok (.istore 11, 2) := by decide +kernel
theorem dX8_fallsFar_165 : decode cX8_fallsFar 165 = .ok (.aload_n 0, 1) := by decide +kernel
theorem dX8_fallsFar_166 : decode cX8_fallsFar 166 = .ok (.iconst 1, 1) := by decide +kernel
theorem dX8_fallsFar_167 : decode cX8_fallsFar 167 = .ok (.iload 10, 2) := by decide +kernel
theorem dX8_fallsFar_169 : decode cX8_fallsFar 169 = .ok (.iconst 1, 1) := by decide +kernel
theorem dX8_fallsFar_170 : decode cX8_fallsFar 170 = .ok (.iload 10, 2) := by decide +kernel
theorem dX8_fallsFar_172 : decode cX8_fallsFar 172 = .ok (.iload 11, 2) := by decide +kernel
theorem dX8_fallsFar_174 : decode cX8_fallsFar 174 = .ok (.iconst 1, 1) := by decide +kernel
theorem dX8_fallsFar_175 : decode cX8_fallsFar 175 = .ok (.if_icmp .ne 8, 3) := by decide +kernel
theorem dX8_fallsFar_178 : decode cX8_fallsFar 178 = .ok (.iload 10, 2) := by decide +kernel
theorem dX8_fallsFar_180 : decode cX8_fallsFar 180 = .ok (.goto 15, 3) := by decide +kernel
theorem dX8_fallsFar_183 : decode cX8_fallsFar 183 = .ok (.iload 10, 2) := by decide +kernel
theorem dX8_fallsFar_185 : decode cX8_fallsFar 185 = .ok (.iconst 2, 1) := by decide +kernel
theorem dX8_fallsFar_186 : decode cX8_fallsFar 186 = .ok (.irem, 1) := by decide +kernel
theorem dX8_fallsFar_187 : decode cX8_fallsFar 187 = .ok (.ifCond .ne 7, 3) := by decide +kernel
theorem dX8_fallsFar_190 : decode cX8_fallsFar 190 = .ok (.iconst 2, 1) := by decide +kernel
theorem dX8_fallsFar_191 : decode cX8_fallsFar 191 = .ok (.goto 4, 3) := by decide +kernel
theorem dX8_fallsFar_194 : decode cX8_fallsFar 194 = .ok (.iconst 1, 1) := by decide +kernel
theorem dX8_fallsFar_195 : decode cX8_fallsFar 195 = .ok (.iload 10, 2) := by decide +kernel
theorem dX8_fallsFar_197 : decode cX8_fallsFar 197 = .ok (.invokevirtual 164, 3) := by decide +kernel
theorem dX8_fallsFar_200 : decode cX8_fallsFar 200 = .ok (.aload_n 0, 1) := by decide +kernel
theorem dX8_fallsFar_201 : decode cX8_fallsFar 201 = .ok (.getfield 22, 3) := by decide +kernel
theorem dX8_fallsFar_204 : decode cX8_fallsFar 204 = .ok (.bipush 6, 2) := by decide +kernel
theorem dX8_fallsFar_206 : decode cX8_fallsFar 206 = .ok (.iload 11, 2) := by decide +kernel
theorem dX8_fallsFar_208 : decode cX8_fallsFar 208 = .ok (.iastore, 1) := by decide +kernel
theorem dX8_fallsFar_209 : decode cX8_fallsFar 209 = .ok (.goto 15, 3) := by decide +kernel
theorem dX8_fallsFar_212 : decode cX8_fallsFar 212 = .ok (.aload_n 0, 1) := by decide +kernel
theorem dX8_fallsFar_213 : decode cX8_fallsFar 213 = .ok (.lload_n 1, 1) := by decide +kernel
theorem dX8_fallsFar_214 : decode cX8_fallsFar 214 = .ok (.lload_n 3, 1) := by decide +kernel
theorem dX8_fallsFar_215 : decode cX8_fallsFar 215 = .ok (.lload 5, 2) := by decide +kernel
theorem dX8_fallsFar_217 : decode cX8_fallsFar 217 = .ok (.lload 7, 2) := by decide +kernel
theorem dX8_fallsFar_219 : decode cX8_fallsFar 219 = .ok (.iload 10, 2) := by decide +kernel
theorem dX8_fallsFar_221 : decode cX8_fallsFar 221 = .ok (.invokevirtual 173, 3) := by decide +kernel
theorem dX8_fallsFar_224 : decode cX8_fallsFar 224 = .ok (.return_, 1) := by decide +kernel
theorem dX8_additive_0 : decode cX8_additive 0 = .ok (.iload 9, 2) := by decide +kernel
theorem dX8_additive_2 : decode cX8_additive 2 = .ok (.bipush 6, 2) := by decide +kernel
theorem dX8_additive_4 : decode cX8_additive 4 = .ok (.if_icmp .le 26, 3) := by decide +kernel
theorem dX8_additive_7 : decode cX8_additive 7 = .ok (.lload_n 1, 1) := by decide +kernel
theorem dX8_additive_8 : decode cX8_additive 8 = .ok (.lload_n 3, 1) := by decide +kernel
theorem dX8_additive_9 : decode cX8_additive 9 = .ok (.invokestatic 152, 3) := by decide +kernel
theorem dX8_additive_12 : decode cX8_additive 12 = .ok (.iconst 2, 1) := by decide +kernel
theorem dX8_additive_13 : decode cX8_additive 13 = .ok (.if_icmp .ne 17, 3) := by decide +kernel
theorem dX8_additive_16 : decode cX8_additive 16 = .ok (.lload_n 1, 1) := by decide +kernel
theorem dX8_additive_17 : decode cX8_additive 17 = .ok (.lload 5, 2) := by decide +kernel
theorem dX8_additive_19 : decode cX8_additive 19 = .ok (.invokestatic 152, 3) := by decide +kernel
theorem dX8_additive_22 : decode cX8_additive 22 = .ok (.iconst 3, 1) := by decide +kernel
theorem dX8_additive_23 : decode cX8_additive 23 = .ok (.if_icmp .ne 7, 3) := by decide +kernel
theorem dX8_additive_26 : decode cX8_additive 26 = .ok (.iconst 1, 1) := by decide +kernel
theorem dX8_additive_27 : decode cX8_additive 27 = .ok (.goto 4, 3) := by decide +kernel
theorem dX8_additive_30 : decode cX8_additive 30 = .ok (.iconst 0, 1) := by decide +kernel
theorem dX8_additive_31 : decode cX8_additive 31 = .ok (.istore 10, 2) := by decide +kernel
theorem dX8_additive_33 : decode cX8_additive 33 = .ok (.iload 10, 2) := by decide +kernel
theorem dX8_additive_35 : decode cX8_additive 35 = .ok (.ifCond .eq 66, 3) := by decide +kernel
theorem dX8_additive_38 : decode cX8_additive 38 = .ok (.lload 7, 2) := by decide +kernel
theorem dX8_additive_40 : decode cX8_additive 40 = .ok (.lload_n 1, 1) := by decide +kernel
theorem dX8_additive_41 : decode cX8_additive 41 = .ok (.iload 9, 2) := by decide +kernel
theorem dX8_additive_43 : decode cX8_additive 43 = .ok (.invokestatic 160, 3) := by decide +kernel
theorem dX8_additive_46 : decode cX8_additive 46 = .ok (.lload_n 1, 1) := by decide +kernel
theorem dX8_additive_47 : decode cX8_additive 47 = .ok (.lrem, 1) := by decide +kernel
theorem dX8_additive_48 : decode cX8_additive 48 = .ok (.iload 9, 2) := by decide +kernel
theorem dX8_additive_50 : decode cX8_additive 50 = .ok (.iconst 2, 1) := by decide +kernel
theorem dX8_additive_51 : decode cX8_additive 51 = .ok (.irem, 1) := by decide +kernel
theorem dX8_additive_52 : decode cX8_additive 52 = .ok (.iconst 1, 1) := by decide +kernel
theorem dX8_additive_53 : decode cX8_additive 53 = .ok (.if_icmp .ne 15, 3) := by decide +kernel
theorem dX8_additive_56 : decode cX8_additive 56 = .ok (.lload 5, 2) := by decide +kernel
theorem dX8_additive_58 : decode cX8_additive 58 = .ok (.lload_n 1, 1) := by decide +kernel
theorem dX8_additive_59 : decode cX8_additive 59 = .ok (.iconst 3, 1) := by decide +kernel
theorem dX8_additive_60 : decode cX8_additive 60 = .ok (.invokestatic 160, 3) := by decide +kernel
theorem dX8_additive_63 : decode cX8_additive 63 = .ok (.lload_n 1, 1) := by decide +kernel
theorem dX8_additive_64 : decode cX8_additive 64 = .ok (.lrem, 1) := by decide +kernel
theorem dX8_additive_65 : decode cX8_additive 65 = .ok (.goto 4, 3) := by decide +kernel
theorem dX8_additive_68 : decode cX8_additive 68 = .ok (.lconst 1, 1) := by decide +kernel
theorem dX8_additive_69 : decode cX8_additive 69 = .ok (.lmul, 1) := by decide +kernel
theorem dX8_additive_70 : decode cX8_additive 70 = .ok (.lstore 11, 2) := by decide +kernel
theorem dX8_additive_72 : decode cX8_additive 72 = .ok (.aload_n 0, 1) := by decide +kernel
theorem dX8_additive_73 : decode cX8_additive 73 = .ok (.bipush 6, 2) := by decide +kernel
theorem dX8_additive_75 : decode cX8_additive 75 = .ok (.iload 9, 2) := by decide +kernel
theorem dX8_additive_77 : decode cX8_additive 77 = .ok (.bipush 6, 2) := by decide +kernel
theorem dX8_additive_79 : decode cX8_additive 79 = .ok (.isub, 1) := by decide +kernel
theorem dX8_additive_80 : decode cX8_additive 80 = .ok (.iconst 2, 1) := by decide +kernel
theorem dX8_additive_81 : decode cX8_additive 81 = .ok (.iload 9, 2) := by decide +kernel
theorem dX8_additive_83 : decode cX8_additive 83 = .ok (.iconst 1, 1) := by decide +kernel
theorem dX8_additive_84 : decode cX8_additive 84 = .ok (.isub, 1) := by decide +kernel
theorem dX8_additive_85 : decode cX8_additive 85 = .ok (.iconst 3, 1) := by decide +kernel
theorem dX8_additive_86 : decode cX8_additive 86 = .ok (.lload 11, 2) := by decide +kernel
theorem dX8_additive_88 : decode cX8_additive 88 = .ok (.lload_n 1, 1) := by decide +kernel
theorem dX8_additive_89 : decode cX8_additive 89 = .ok (.invokestatic 170, 3) := by decide +kernel
theorem dX8_additive_92 : decode cX8_additive 92 = .ok (.iadd, 1) := by decide +kernel
theorem dX8_additive_93 : decode cX8_additive 93 = .ok (.iload 9, 2) := by decide +kernel
theorem dX8_additive_95 : decode cX8_additive 95 = .ok (.invokevirtual 164, 3) := by decide +kernel
theorem dX8_additive_98 : decode cX8_additive 98 = .ok (.goto 197, 3) := by decide +kernel
theorem dX8_additive_101 : decode cX8_additive 101 = .ok (.iload 9, 2) := by decide +kernel
theorem dX8_additive_103 : decode cX8_additive 103 = .ok (.iconst 2, 1) := by decide +kernel
theorem dX8_additive_104 : decode cX8_additive 104 = .ok (.if_icmp .ne 17, 3) := by decide +kernel
theorem dX8_additive_107 : decode cX8_additive 107 = .ok (.aload_n 0, 1) := by decide +kernel
theorem dX8_additive_108 : decode cX8_additive 108 = .ok (.iconst 2, 1) := by decide +kernel
theorem dX8_additive_109 : decode cX8_additive 109 = .ok (.iconst 0, 1) := by decide +kernel
theorem dX8_additive_110 : decode cX8_additive 110 = .ok (.iconst 2, 1) := by decide +kernel
theorem dX8_additive_111 : decode cX8_additive 111 = .ok (.iconst 1, 1) := by decide +kernel
theorem dX8_additive_112 : decode cX8_additive 112 = .ok (.iconst 1, 1) := by decide +kernel
theorem dX8_additive_113 : decode cX8_additive 113 = .ok (.iload 9, 2) := by decide +kernel
theorem dX8_additive_115 : decode cX8_additive 115 = .ok (.invokevirtual 164, 3) := by decide +kernel
theorem dX8_additive_118 : decode cX8_additive 118 = .ok (.goto 177, 3) := by decide +kernel
theorem dX8_additive_121 : decode cX8_additive 121 = .ok (.iload 9, 2) := by decide +kernel
theorem dX8_additive_123 : decode cX8_additive 123 = .ok (.iconst 3, 1) := by decide +kernel
theorem dX8_additive_124 : decode cX8_additive 124 = .ok (.if_icmp .ne 17, 3) := by decide +kernel
theorem dX8_additive_127 : decode cX8_additive 127 = .ok (.aload_n 0, 1) := by decide +kernel
theorem dX8_additive_128 : decode cX8_additive 128 = .ok (.iconst 3, 1) := by decide +kernel
theorem dX8_additive_129 : decode cX8_additive 129 = .ok (.iconst 0, 1) := by decide +kernel
theorem dX8_additive_130 : decode cX8_additive 130 = .ok (.iconst 2, 1) := by decide +kernel
theorem dX8_additive_131 : decode cX8_additive 131 = .ok (.iconst 2, 1) := by decide +kernel
theorem dX8_additive_132 : decode cX8_additive 132 = .ok (.iconst 2, 1) := by decide +kernel
theorem dX8_additive_133 : decode cX8_additive 133 = .ok (.iload 9, 2) := by decide +kernel
theorem dX8_additive_135 : decode cX8_additive 135 = .ok (.invokevirtual 164, 3) := by decide +kernel
theorem dX8_additive_138 : decode cX8_additive 138 = .ok (.goto 157, 3) := by decide +kernel
theorem dX8_additive_141 : decode cX8_additive 141 = .ok (.iload 9, 2) := by decide +kernel
theorem dX8_additive_143 : decode cX8_additive 143 = .ok (.iconst 4, 1) := by decide +kernel
theorem dX8_additive_144 : decode cX8_additive 144 = .ok (.if_icmp .ne 35, 3) := by decide +kernel
theorem dX8_additive_147 : decode cX8_additive 147 = .ok (.aload_n 0, 1) := by decide +kernel
theorem dX8_additive_148 : decode cX8_additive 148 = .ok (.iconst 4, 1) := by decide +kernel
theorem dX8_additive_149 : decode cX8_additive 149 = .ok (.iconst 0, 1) := by decide +kernel
theorem dX8_additive_150 : decode cX8_additive 150 = .ok (.iconst 2, 1) := by decide +kernel
theorem dX8_additive_151 : decode cX8_additive 151 = .ok (.iconst 3, 1) := by decide +kernel
theorem dX8_additive_152 : decode cX8_additive 152 = .ok (.iconst 2, 1) := by decide +kernel
theorem dX8_additive_153 : decode cX8_additive 153 = .ok (.ldc2_w 177, 3) := by decide +kernel
theorem dX8_additive_156 : decode cX8_additive 156 = .ok (.lload 5, 2) := by decide +kernel
theorem dX8_additive_158 : decode cX8_additive 158 = .ok (.lload_n 1, 1) := by decide +kernel
theorem dX8_additive_159 : decode cX8_additive 159 = .ok (.iconst 2, 1) := by decide +kernel
theorem dX8_additive_160 : decode cX8_additive 160 = .ok (.invokestatic 160, 3) := by decide +kernel
theorem dX8_additive_163 : decode cX8_additive 163 = .ok (.lload_n 1, 1) := by decide +kernel
theorem dX8_additive_164 : decode cX8_additive 164 = .ok (.lrem, 1) := by decide +kernel
theorem dX8_additive_165 : decode cX8_additive 165 = .ok (.lmul, 1) := by decide +kernel
theorem dX8_additive_166 : decode cX8_additive 166 = .ok (.lload_n 1, 1) := by decide +kernel
theorem dX8_additive_167 : decode cX8_additive 167 = .ok (.invokestatic 170, 3) := by decide +kernel
theorem dX8_additive_170 : decode cX8_additive 170 = .ok (.iadd, 1) := by decide +kernel
theorem dX8_additive_171 : decode cX8_additive 171 = .ok (.iload 9, 2) := by decide +kernel
theorem dX8_additive_173 : decode cX8_additive 173 = .ok (.invokevirtual 164, 3) := by decide +kernel
theorem dX8_additive_176 : decode cX8_additive 176 = .ok (.goto 119, 3) := by decide +kernel
theorem dX8_additive_179 : decode cX8_additive 179 = .ok (.iload 9, 2) := by decide +kernel
theorem dX8_additive_181 : decode cX8_additive 181 = .ok (.bipush 6, 2) := by decide +kernel
theorem dX8_additive_183 : decode cX8_additive 183 = .ok (.if_icmp .ne 35, 3) := by decide +kernel
theorem dX8_additive_186 : decode cX8_additive 186 = .ok (.aload_n 0, 1) := by decide +kernel
theorem dX8_additive_187 : decode cX8_additive 187 = .ok (.iconst 5, 1) := by decide +kernel
theorem dX8_additive_188 : decode cX8_additive 188 = .ok (.iconst 0, 1) := by decide +kernel
theorem dX8_additive_189 : decode cX8_additive 189 = .ok (.iconst 2, 1) := by decide +kernel
theorem dX8_additive_190 : decode cX8_additive 190 = .ok (.iconst 5, 1) := by decide +kernel
theorem dX8_additive_191 : decode cX8_additive 191 = .ok (.iconst 1, 1) := by decide +kernel
theorem dX8_additive_192 : decode cX8_additive 192 = .ok (.lload_n 1, 1) := by decide +kernel
theorem dX8_additive_193 : decode cX8_additive 193 = .ok (.lload_n 3, 1) := by decide +kernel
theorem dX8_additive_194 : decode cX8_additive 194 = .ok (.lload_n 1, 1) := by decide +kernel
theorem dX8_additive_195 : decode cX8_additive 195 = .ok (.iconst 2, 1) := by decide +kernel
theorem dX8_additive_196 : decode cX8_additive 196 = .ok (.invokestatic 160, 3) := by decide +kernel
theorem dX8_additive_199 : decode cX8_additive 199 = .ok (.lload 5, 2) := by decide +kernel
theorem dX8_additive_201 : decode cX8_additive 201 = .ok (.lload_n 1, 1) := by decide +kernel
theorem dX8_additive_202 : decode cX8_additive 202 = .ok (.iconst 3, 1) := by decide +kernel
theorem dX8_additive_203 : decode cX8_additive 203 = .ok (.invokestatic 160, 3) := by decide +kernel
theorem dX8_additive_206 : decode cX8_additive 206 = .ok (.invokestatic 179, 3) := by decide +kernel
theorem dX8_additive_209 : decode cX8_additive 209 = .ok (.iadd, 1) := by decide +kernel
theorem dX8_additive_210 : decode cX8_additive 210 = .ok (.iload 9, 2) := by decide +kernel
theorem dX8_additive_212 : decode cX8_additive 212 = .ok (.invokevirtual 164, 3) := by decide +kernel
theorem dX8_additive_215 : decode cX8_additive 215 = .ok (.goto 80, 3) := by decide +kernel
theorem dX8_additive_218 : decode cX8_additive 218 = .ok (.iload 9, 2) := by decide +kernel
theorem dX8_additive_220 : decode cX8_additive 220 = .ok (.bipush 8, 2) := by decide +kernel
theorem dX8_additive_222 : decode cX8_additive 222 = .ok (.if_icmp .ne 37, 3) := by decide +kernel
theorem dX8_additive_225 : decode cX8_additive 225 = .ok (.aload_n 0, 1) := by decide +kernel
theorem dX8_additive_226 : decode cX8_additive 226 = .ok (.bipush 7, 2) := by decide +kernel
theorem dX8_additive_228 : decode cX8_additive 228 = .ok (.iconst 0, 1) := by decide +kernel
theorem dX8_additive_229 : decode cX8_additive 229 = .ok (.iconst 2, 1) := by decide +kernel
theorem dX8_additive_230 : decode cX8_additive 230 = .ok (.bipush 7, 2) := by decide +kernel
theorem dX8_additive_232 : decode cX8_additive 232 = .ok (.iconst 2, 1) := by decide +kernel
theorem dX8_additive_233 : decode cX8_additive 233 = .ok (.ldc2_w 177, 3) := by decide +kernel
theorem dX8_additive_236 : decode cX8_additive 236 = .ok (.lload 5, 2) := by decide +kernel
theorem dX8_additive_238 : decode cX8_additive 238 = .ok (.lload_n 1, 1) := by decide +kernel
theorem dX8_additive_239 : decode cX8_additive 239 = .ok (.iconst 4, 1) := by decide +kernel
theorem dX8_additive_240 : decode cX8_additive 240 = .ok (.invokestatic 160, 3) := by decide +kernel
theorem dX8_additive_243 : decode cX8_additive 243 = .ok (.lload_n 1, 1) := by decide +kernel
theorem dX8_additive_244 : decode cX8_additive 244 = .ok (.lrem, 1) := by decide +kernel
theorem dX8_additive_245 : decode cX8_additive 245 = .ok (.lmul, 1) := by decide +kernel
theorem dX8_additive_246 : decode cX8_additive 246 = .ok (.lload_n 1, 1) := by decide +kernel
theorem dX8_additive_247 : decode cX8_additive 247 = .ok (.invokestatic 170, 3) := by decide +kernel
theorem dX8_additive_250 : decode cX8_additive 250 = .ok (.iadd, 1) := by decide +kernel
theorem dX8_additive_251 : decode cX8_additive 251 = .ok (.iload 9, 2) := by decide +kernel
theorem dX8_additive_253 : decode cX8_additive 253 = .ok (.invokevirtual 164, 3) := by decide +kernel
theorem dX8_additive_256 : decode cX8_additive 256 = .ok (.goto 39, 3) := by decide +kernel
theorem dX8_additive_259 : decode cX8_additive 259 = .ok (.iload 9, 2) := by decide +kernel
theorem dX8_additive_261 : decode cX8_additive 261 = .ok (.bipush 9, 2) := by decide +kernel
theorem dX8_additive_263 : decode cX8_additive 263 = .ok (.if_icmp .ne 19, 3) := by decide +kernel
theorem dX8_additive_266 : decode cX8_additive 266 = .ok (.aload_n 0, 1) := by decide +kernel
theorem dX8_additive_267 : decode cX8_additive 267 = .ok (.bipush 8, 2) := by decide +kernel
theorem dX8_additive_269 : decode cX8_additive 269 = .ok (.iconst 0, 1) := by decide +kernel
theorem dX8_additive_270 : decode cX8_additive 270 = .ok (.iconst 2, 1) := by decide +kernel
theorem dX8_additive_271 : decode cX8_additive 271 = .ok (.bipush 8, 2) := by decide +kernel
theorem dX8_additive_273 : decode cX8_additive 273 = .ok (.iconst 2, 1) := by decide +kernel
theorem dX8_additive_274 : decode cX8_additive 274 = .ok (.iload 9, 2) := by decide +kernel
theorem dX8_additive_276 : decode cX8_additive 276 = .ok (.invokevirtual 164, 3) := by decide +kernel
theorem dX8_additive_279 : decode cX8_additive 279 = .ok (.goto 16, 3) := by decide +kernel
theorem dX8_additive_282 : decode cX8_additive 282 = .ok (.aload_n 0, 1) := by decide +kernel
theorem dX8_additive_283 : decode cX8_additive 283 = .ok (.bipush 9, 2) := by decide +kernel
theorem dX8_additive_285 : decode cX8_additive 285 = .ok (.iconst 0, 1) := by decide +kernel
theorem dX8_additive_286 : decode cX8_additive 286 = .ok (.iconst 2, 1) := by decide +kernel
theorem dX8_additive_287 : decode cX8_additive 287 = .ok (.bipush 9, 2) := by decide +kernel
theorem dX8_additive_289 : decode cX8_additive 289 = .ok (.iconst 1, 1) := by decide +kernel
theorem dX8_additive_290 : decode cX8_additive 290 = .ok (.iload 9, 2) := by decide +kernel
theorem dX8_additive_292 : decode cX8_additive 292 = .ok (.invokevirtual 164, 3) := by decide +kernel
theorem dX8_additive_295 : decode cX8_additive 295 = .ok (.return_, 1) := by decide +kernel
theorem dX8_cubicRoots_0 : decode cX8_cubicRoots 0 = .ok (.lload_n 2, 1) := by decide +kernel
theorem dX8_cubicRoots_1 : decode cX8_cubicRoots 1 = .ok (.lload_n 0, 1) := by decide +kernel
theorem dX8_cubicRoots_2 : decode cX8_cubicRoots 2 = .ok (.invokestatic 138, 3) := by decide +kernel
theorem dX8_cubicRoots_5 : decode cX8_cubicRoots 5 = .ok (.lstore 6, 2) := by decide +kernel
theorem dX8_cubicRoots_7 : decode cX8_cubicRoots 7 = .ok (.lload 4, 2) := by decide +kernel
theorem dX8_cubicRoots_9 : decode cX8_cubicRoots 9 = .ok (.lload_n 0, 1) := by decide +kernel
theorem dX8_cubicRoots_10 : decode cX8_cubicRoots 10 = .ok (.invokestatic 138, 3) := by decide +kernel
theorem dX8_cubicRoots_13 : decode cX8_cubicRoots 13 = .ok (.lstore 8, 2) := by decide +kernel
theorem dX8_cubicRoots_15 : decode cX8_cubicRoots 15 = .ok (.iconst 0, 1) := by decide +kernel
theorem dX8_cubicRoots_16 : decode cX8_cubicRoots 16 = .ok (.istore 10, 2) := by decide +kernel
theorem dX8_cubicRoots_18 : decode cX8_cubicRoots 18 = .ok (.lconst 0, 1) := by decide +kernel
theorem dX8_cubicRoots_19 : decode cX8_cubicRoots 19 = .ok (.lstore 11, 2) := by decide +kernel
theorem dX8_cubicRoots_21 : decode cX8_cubicRoots 21 = .ok (.lload 11, 2) := by decide +kernel
theorem dX8_cubicRoots_23 : decode cX8_cubicRoots 23 = .ok (.lload_n 0, 1) := by decide +kernel
theorem dX8_cubicRoots_24 : decode cX8_cubicRoots 24 = .ok (.lcmp, 1) := by decide +kernel
theorem dX8_cubicRoots_25 : decode cX8_cubicRoots 25 = .ok (.ifCond .ge 64, 3) := by decide +kernel
theorem dX8_cubicRoots_28 : decode cX8_cubicRoots 28 = .ok (.lload 11, 2) := by decide +kernel
theorem dX8_cubicRoots_30 : decode cX8_cubicRoots 30 = .ok (.lload 11, 2) := by decide +kernel
theorem dX8_cubicRoots_32 : decode cX8_cubicRoots 32 = .ok (.lmul, 1) := by decide +kernel
theorem dX8_cubicRoots_33 : decode cX8_cubicRoots 33 = .ok (.lload_n 0, 1) := by decide +kernel
theorem dX8_cubicRoots_34 : decode cX8_cubicRoots 34 = .ok (.lrem, 1) := by decide +kernel
theorem dX8_cubicRoots_35 : decode cX8_cubicRoots 35 = .ok (.lload 11, 2) := by decide +kernel
theorem dX8_cubicRoots_37 : decode cX8_cubicRoots 37 = .ok (.lmul, 1) := by decide +kernel
theorem dX8_cubicRoots_38 : decode cX8_cubicRoots 38 = .ok (.lload_n 0, 1) := by decide +kernel
theorem dX8_cubicRoots_39 : decode cX8_cubicRoots 39 = .ok (.lrem, 1) := by decide +kernel
theorem dX8_cubicRoots_40 : decode cX8_cubicRoots 40 = .ok (.ldc2_w 48, 3) := by decide +kernel
theorem dX8_cubicRoots_43 : decode cX8_cubicRoots 43 = .ok (.lmul, 1) := by decide +kernel
theorem dX8_cubicRoots_44 : decode cX8_cubicRoots 44 = .ok (.ldc2_w 77, 3) := by decide +kernel
theorem dX8_cubicRoots_47 : decode cX8_cubicRoots 47 = .ok (.lload 6, 2) := by decide +kernel
theorem dX8_cubicRoots_49 : decode cX8_cubicRoots 49 = .ok (.lload 11, 2) := by decide +kernel
theorem dX8_cubicRoots_51 : decode cX8_cubicRoots 51 = .ok (.lmul, 1) := by decide +kernel
theorem dX8_cubicRoots_52 : decode cX8_cubicRoots 52 = .ok (.lload_n 0, 1) := by decide +kernel
theorem dX8_cubicRoots_53 : decode cX8_cubicRoots 53 = .ok (.lrem, 1) := by decide +kernel
theorem dX8_cubicRoots_54 : decode cX8_cubicRoots 54 = .ok (.lmul, 1) := by decide +kernel
theorem dX8_cubicRoots_55 : decode cX8_cubicRoots 55 = .ok (.lsub, 1) := by decide +kernel
theorem dX8_cubicRoots_56 : decode cX8_cubicRoots 56 = .ok (.lload 8, 2) := by decide +kernel
theorem dX8_cubicRoots_58 : decode cX8_cubicRoots 58 = .ok (.lsub, 1) := by decide +kernel
theorem dX8_cubicRoots_59 : decode cX8_cubicRoots 59 = .ok (.lstore 13, 2) := by decide +kernel
theorem dX8_cubicRoots_61 : decode cX8_cubicRoots 61 = .ok (.iload 10, 2) := by decide +kernel
theorem dX8_cubicRoots_63 : decode cX8_cubicRoots 63 = .ok (.lload 13, 2) := by decide +kernel
theorem dX8_cubicRoots_65 : decode cX8_cubicRoots 65 = .ok (.lload_n 0, 1) := by decide +kernel
theorem dX8_cubicRoots_66 : decode cX8_cubicRoots 66 = .ok (.lrem, 1) := by decide +kernel
theorem dX8_cubicRoots_67 : decode cX8_cubicRoots 67 = .ok (.lconst 0, 1) := by decide +kernel
theorem dX8_cubicRoots_68 : decode cX8_cubicRoots 68 = .ok (.lcmp, 1) := by decide +kernel
theorem dX8_cubicRoots_69 : decode cX8_cubicRoots 69 = .ok (.ifCond .ne 7, 3) := by decide +kernel
theorem dX8_cubicRoots_72 : decode cX8_cubicRoots 72 = .ok (.iconst 1, 1) := by decide +kernel
theorem dX8_cubicRoots_73 : decode cX8_cubicRoots 73 = .ok (.goto 4, 3) := by decide +kernel
theorem dX8_cubicRoots_76 : decode cX8_cubicRoots 76 = .ok (.iconst 0, 1) := by decide +kernel
theorem dX8_cubicRoots_77 : decode cX8_cubicRoots 77 = .ok (.iadd, 1) := by decide +kernel
theorem dX8_cubicRoots_78 : decode cX8_cubicRoots 78 = .ok (.istore 10, 2) := by decide +kernel
theorem dX8_cubicRoots_80 : decode cX8_cubicRoots 80 = .ok (.lload 11, 2) := by decide +kernel
theorem dX8_cubicRoots_82 : decode cX8_cubicRoots 82 = .ok (.lconst 1, 1) := by decide +kernel
theorem dX8_cubicRoots_83 : decode cX8_cubicRoots 83 = .ok (.ladd, 1) := by decide +kernel
theorem dX8_cubicRoots_84 : decode cX8_cubicRoots 84 = .ok (.lstore 11, 2) := by decide +kernel
theorem dX8_cubicRoots_86 : decode cX8_cubicRoots 86 = .ok (.goto (-65), 3) := by decide +kernel
theorem dX8_cubicRoots_89 : decode cX8_cubicRoots 89 = .ok (.iload 10, 2) := by decide +kernel
theorem dX8_cubicRoots_91 : decode cX8_cubicRoots 91 = .ok (.ireturn, 1) := by decide +kernel
theorem dX8_roots_0 : decode cX8_roots 0 = .ok (.iconst 0, 1) := by decide +kernel
theorem dX8_roots_1 : decode cX8_roots 1 = .ok (.istore 9, 2) := by decide +kernel
theorem dX8_roots_3 : decode cX8_roots 3 = .ok (.lconst 0, 1) := by decide +kernel
theorem dX8_roots_4 : decode cX8_roots 4 = .ok (.lstore 10, 2) := by decide +kernel
theorem dX8_roots_6 : decode cX8_roots 6 = .ok (.lload 10, 2) := by decide +kernel
theorem dX8_roots_8 : decode cX8_roots 8 = .ok (.lload_n 1, 1) := by decide +kernel
theorem dX8_roots_9 : decode cX8_roots 9 = .ok (.lcmp, 1) := by decide +kernel
theorem dX8_roots_10 : decode cX8_roots 10 = .ok (.ifCond .ge 46, 3) := by decide +kernel
theorem dX8_roots_13 : decode cX8_roots 13 = .ok (.lload_n 3, 1) := by decide +kernel
theorem dX8_roots_14 : decode cX8_roots 14 = .ok (.lload 10, 2) := by decide +kernel
theorem dX8_roots_16 : decode cX8_roots 16 = .ok (.lmul, 1) := by decide +kernel
theorem dX8_roots_17 : decode cX8_roots 17 = .ok (.lload 10, 2) := by decide +kernel
theorem dX8_roots_19 : decode cX8_roots 19 = .ok (.lmul, 1) := by decide +kernel
theorem dX8_roots_20 : decode cX8_roots 20 = .ok (.lload 5, 2) := by decide +kernel
theorem dX8_roots_22 : decode cX8_roots 22 = .ok (.lload 10, 2) := by decide +kernel
theorem dX8_roots_24 : decode cX8_roots 24 = .ok (.lmul, 1) := by decide +kernel
theorem dX8_roots_25 : decode cX8_roots 25 = .ok (.ladd, 1) := by decide +kernel
theorem dX8_roots_26 : decode cX8_roots 26 = .ok (.lload 7, 2) := by decide +kernel
theorem dX8_roots_28 : decode cX8_roots 28 = .ok (.ladd, 1) := by decide +kernel
theorem dX8_roots_29 : decode cX8_roots 29 = .ok (.lload_n 1, 1) := by decide +kernel
theorem dX8_roots_30 : decode cX8_roots 30 = .ok (.invokestatic 138, 3) := by decide +kernel
theorem dX8_roots_33 : decode cX8_roots 33 = .ok (.lconst 0, 1) := by decide +kernel
theorem dX8_roots_34 : decode cX8_roots 34 = .ok (.lcmp, 1) := by decide +kernel
theorem dX8_roots_35 : decode cX8_roots 35 = .ok (.ifCond .ne 12, 3) := by decide +kernel
theorem dX8_roots_38 : decode cX8_roots 38 = .ok (.aload_n 0, 1) := by decide +kernel
theorem dX8_roots_39 : decode cX8_roots 39 = .ok (.lload 10, 2) := by decide +kernel
theorem dX8_roots_41 : decode cX8_roots 41 = .ok (.putfield 183, 3) := by decide +kernel
theorem dX8_roots_44 : decode cX8_roots 44 = .ok (.iinc 9 1, 3) := by decide +kernel
theorem dX8_roots_47 : decode cX8_roots 47 = .ok (.lload 10, 2) := by decide +kernel
theorem dX8_roots_49 : decode cX8_roots 49 = .ok (.lconst 1, 1) := by decide +kernel
theorem dX8_roots_50 : decode cX8_roots 50 = .ok (.ladd, 1) := by decide +kernel
theorem dX8_roots_51 : decode cX8_roots 51 = .ok (.lstore 10, 2) := by decide +kernel
theorem dX8_roots_53 : decode cX8_roots 53 = .ok (.goto (-47), 3) := by decide +kernel
theorem dX8_roots_56 : decode cX8_roots 56 = .ok (.iload 9, 2) := by decide +kernel
theorem dX8_roots_58 : decode cX8_roots 58 = .ok (.ireturn, 1) := by decide +kernel
theorem dX8_areUnlike_0 : decode cX8_areUnlike 0 = .ok (.lload 4, 2) := by decide +kernel
theorem dX8_areUnlike_2 : decode cX8_areUnlike 2 = .ok (.lload 4, 2) := by decide +kernel
theorem dX8_areUnlike_4 : decode cX8_areUnlike 4 = .ok (.lmul, 1) := by decide +kernel
theorem dX8_areUnlike_5 : decode cX8_areUnlike 5 = .ok (.ldc2_w 48, 3) := by decide +kernel
theorem dX8_areUnlike_8 : decode cX8_areUnlike 8 = .ok (.lload_n 2, 1) := by decide +kernel
theorem dX8_areUnlike_9 : decode cX8_areUnlike 9 = .ok (.lmul, 1) := by decide +kernel
theorem dX8_areUnlike_10 : decode cX8_areUnlike 10 = .ok (.lload 6, 2) := by decide +kernel
theorem dX8_areUnlike_12 : decode cX8_areUnlike 12 = .ok (.lmul, 1) := by decide +kernel
theorem dX8_areUnlike_13 : decode cX8_areUnlike 13 = .ok (.lsub, 1) := by decide +kernel
theorem dX8_areUnlike_14 : decode cX8_areUnlike 14 = .ok (.lload_n 0, 1) := by decide +kernel
theorem dX8_areUnlike_15 : decode cX8_areUnlike 15 = .ok (.invokestatic 138, 3) := by decide +kernel
theorem dX8_areUnlike_18 : decode cX8_areUnlike 18 = .ok (.lconst 0, 1) := by decide +kernel
theorem dX8_areUnlike_19 : decode cX8_areUnlike 19 = .ok (.lcmp, 1) := by decide +kernel
theorem dX8_areUnlike_20 : decode cX8_areUnlike 20 = .ok (.ifCond .eq 7, 3) := by decide +kernel
theorem dX8_areUnlike_23 : decode cX8_areUnlike 23 = .ok (.iconst 1, 1) := by decide +kernel
theorem dX8_areUnlike_24 : decode cX8_areUnlike 24 = .ok (.goto 4, 3) := by decide +kernel
theorem dX8_areUnlike_27 : decode cX8_areUnlike 27 = .ok (.iconst 0, 1) := by decide +kernel
theorem dX8_areUnlike_28 : decode cX8_areUnlike 28 = .ok (.ireturn, 1) := by decide +kernel
theorem dX8_goesIn_0 : decode cX8_goesIn 0 = .ok (.aload_n 0, 1) := by decide +kernel
theorem dX8_goesIn_1 : decode cX8_goesIn 1 = .ok (.getfield 13, 3) := by decide +kernel
theorem dX8_goesIn_4 : decode cX8_goesIn 4 = .ok (.iload_n 3, 1) := by decide +kernel
theorem dX8_goesIn_5 : decode cX8_goesIn 5 = .ok (.laload, 1) := by decide +kernel
theorem dX8_goesIn_6 : decode cX8_goesIn 6 = .ok (.lload_n 1, 1) := by decide +kernel
theorem dX8_goesIn_7 : decode cX8_goesIn 7 = .ok (.iload 4, 2) := by decide +kernel
theorem dX8_goesIn_9 : decode cX8_goesIn 9 = .ok (.invokestatic 83, 3) := by decide +kernel
theorem dX8_goesIn_12 : decode cX8_goesIn 12 = .ok (.lrem, 1) := by decide +kernel
theorem dX8_goesIn_13 : decode cX8_goesIn 13 = .ok (.lconst 0, 1) := by decide +kernel
theorem dX8_goesIn_14 : decode cX8_goesIn 14 = .ok (.lcmp, 1) := by decide +kernel
theorem dX8_goesIn_15 : decode cX8_goesIn 15 = .ok (.ifCond .ne 7, 3) := by decide +kernel
theorem dX8_goesIn_18 : decode cX8_goesIn 18 = .ok (.iconst 1, 1) := by decide +kernel
theorem dX8_goesIn_19 : decode cX8_goesIn 19 = .ok (.goto 4, 3) := by decide +kernel
theorem dX8_goesIn_22 : decode cX8_goesIn 22 = .ok (.iconst 0, 1) := by decide +kernel
theorem dX8_goesIn_23 : decode cX8_goesIn 23 = .ok (.ireturn, 1) := by decide +kernel
theorem dX8_comesToMidst_0 : decode cX8_comesToMidst 0 = .ok (.lconst 0, 1) := by decide +kernel
theorem dX8_comesToMidst_1 : decode cX8_comesToMidst 1 = .ok (.lstore_n 3, 1) := by decide +kernel
theorem dX8_comesToMidst_2 : decode cX8_comesToMidst 2 = .ok (.lconst 0, 1) := by decide +kernel
theorem dX8_comesToMidst_3 : decode cX8_comesToMidst 3 = .ok (.lstore 5, 2) := by decide +kernel
theorem dX8_comesToMidst_5 : decode cX8_comesToMidst 5 = .ok (.aload_n 0, 1) := by decide +kernel
theorem dX8_comesToMidst_6 : decode cX8_comesToMidst 6 = .ok (.lload_n 1, 1) := by decide +kernel
theorem dX8_comesToMidst_7 : decode cX8_comesToMidst 7 = .ok (.iconst 2, 1) := by decide +kernel
theorem dX8_comesToMidst_8 : decode cX8_comesToMidst 8 = .ok (.iconst 1, 1) := by decide +kernel
theorem dX8_comesToMidst_9 : decode cX8_comesToMidst 9 = .ok (.invokevirtual 187, 3) := by decide +kernel
theorem dX8_comesToMidst_12 : decode cX8_comesToMidst 12 = .ok (.ifCond .eq 23, 3) := by decide +kernel
theorem dX8_comesToMidst_15 : decode cX8_comesToMidst 15 = .ok (.aload_n 0, 1) := by decide +kernel
theorem dX8_comesToMidst_16 : decode cX8_comesToMidst 16 = .ok (.lload_n 1, 1) := by decide +kernel
theorem dX8_comesToMidst_17 : decode cX8_comesToMidst 17 = .ok (.iconst 3, 1) := by decide +kernel
theorem dX8_comesToMidst_18 : decode cX8_comesToMidst 18 = .ok (.iconst 1, 1) := by decide +kernel
theorem dX8_comesToMidst_19 : decode cX8_comesToMidst 19 = .ok (.invokevirtual 187, 3) := by decide +kernel
theorem dX8_comesToMidst_22 : decode cX8_comesToMidst 22 = .ok (.ifCond .eq 13, 3) := by decide +kernel
theorem dX8_comesToMidst_25 : decode cX8_comesToMidst 25 = .ok (.aload_n 0, 1) := by decide +kernel
theorem dX8_comesToMidst_26 : decode cX8_comesToMidst 26 = .ok (.lload_n 1, 1) := by decide +kernel
theorem dX8_comesToMidst_27 : decode cX8_comesToMidst 27 = .ok (.iconst 4, 1) := by decide +kernel
theorem dX8_comesToMidst_28 : decode cX8_comesToMidst 28 = .ok (.iconst 1, 1) := by decide +kernel
theorem dX8_comesToMidst_29 : decode cX8_comesToMidst 29 = .ok (.invokevirtual 187, 3) := by decide +kernel
theorem dX8_comesToMidst_32 : decode cX8_comesToMidst 32 = .ok (.ifCond .ne 65, 3) := by decide +kernel
theorem dX8_comesToMidst_35 : decode cX8_comesToMidst 35 = .ok (.aload_n 0, 1) := by decide +kernel
theorem dX8_comesToMidst_36 : decode cX8_comesToMidst 36 = .ok (.lload_n 3, 1) := by decide +kernel
theorem dX8_comesToMidst_37 : decode cX8_comesToMidst 37 = .ok (.lneg, 1) := by decide +kernel
theorem dX8_comesToMidst_38 : decode cX8_comesToMidst 38 = .ok (.lconst 0, 1) := by decide +kernel
theorem dX8_comesToMidst_39 : decode cX8_comesToMidst 39 = .ok (.lconst 0, 1) := by decide +kernel
theorem dX8_comesToMidst_40 : decode cX8_comesToMidst 40 = .ok (.invokevirtual 124, 3) := by decide +kernel
theorem dX8_comesToMidst_43 : decode cX8_comesToMidst 43 = .ok (.aload_n 0, 1) := by decide +kernel
theorem dX8_comesToMidst_44 : decode cX8_comesToMidst 44 = .ok (.lconst 0, 1) := by decide +kernel
theorem dX8_comesToMidst_45 : decode cX8_comesToMidst 45 = .ok (.lconst 0, 1) := by decide +kernel
theorem dX8_comesToMidst_46 : decode cX8_comesToMidst 46 = .ok (.lload 5, 2) := by decide +kernel
theorem dX8_comesToMidst_48 : decode cX8_comesToMidst 48 = .ok (.lneg, 1) := by decide +kernel
theorem dX8_comesToMidst_49 : decode cX8_comesToMidst 49 = .ok (.invokevirtual 124, 3) := by decide +kernel
theorem dX8_comesToMidst_52 : decode cX8_comesToMidst 52 = .ok (.lload 5, 2) := by decide +kernel
theorem dX8_comesToMidst_54 : decode cX8_comesToMidst 54 = .ok (.lconst 1, 1) := by decide +kernel
theorem dX8_comesToMidst_55 : decode cX8_comesToMidst 55 = .ok (.ladd, 1) := by decide +kernel
theorem dX8_comesToMidst_56 : decode cX8_comesToMidst 56 = .ok (.lstore 5, 2) := by decide +kernel
theorem dX8_comesToMidst_58 : decode cX8_comesToMidst 58 = .ok (.lload_n 3, 1) := by decide +kernel
theorem dX8_comesToMidst_59 : decode cX8_comesToMidst 59 = .ok (.lload 5, 2) := by decide +kernel
theorem dX8_comesToMidst_61 : decode cX8_comesToMidst 61 = .ok (.lload_n 1, 1) := by decide +kernel
theorem dX8_comesToMidst_62 : decode cX8_comesToMidst 62 = .ok (.lcmp, 1) := by decide +kernel
theorem dX8_comesToMidst_63 : decode cX8_comesToMidst 63 = .ok (.ifCond .ne 7, 3) := by decide +kernel
theorem dX8_comesToMidst_66 : decode cX8_comesToMidst 66 = .ok (.lconst 1, 1) := by decide +kernel
theorem dX8_comesToMidst_67 : decode cX8_comesToMidst 67 = .ok (.goto 4, 3) := by decide +kernel
theorem dX8_comesToMidst_70 : decode cX8_comesToMidst 70 = .ok (.lconst 0, 1) := by decide +kernel
theorem dX8_comesToMidst_71 : decode cX8_comesToMidst 71 = .ok (.ladd, 1) := by decide +kernel
theorem dX8_comesToMidst_72 : decode cX8_comesToMidst 72 = .ok (.lstore_n 3, 1) := by decide +kernel
theorem dX8_comesToMidst_73 : decode cX8_comesToMidst 73 = .ok (.lload 5, 2) := by decide +kernel
theorem dX8_comesToMidst_75 : decode cX8_comesToMidst 75 = .ok (.lload_n 1, 1) := by decide +kernel
theorem dX8_comesToMidst_76 : decode cX8_comesToMidst 76 = .ok (.lrem, 1) := by decide +kernel
theorem dX8_comesToMidst_77 : decode cX8_comesToMidst 77 = .ok (.lstore 5, 2) := by decide +kernel
theorem dX8_comesToMidst_79 : decode cX8_comesToMidst 79 = .ok (.aload_n 0, 1) := by decide +kernel
theorem dX8_comesToMidst_80 : decode cX8_comesToMidst 80 = .ok (.lconst 0, 1) := by decide +kernel
theorem dX8_comesToMidst_81 : decode cX8_comesToMidst 81 = .ok (.lconst 0, 1) := by decide +kernel
theorem dX8_comesToMidst_82 : decode cX8_comesToMidst 82 = .ok (.lload 5, 2) := by decide +kernel
theorem dX8_comesToMidst_84 : decode cX8_comesToMidst 84 = .ok (.invokevirtual 124, 3) := by decide +kernel
theorem dX8_comesToMidst_87 : decode cX8_comesToMidst 87 = .ok (.aload_n 0, 1) := by decide +kernel
theorem dX8_comesToMidst_88 : decode cX8_comesToMidst 88 = .ok (.lload_n 3, 1) := by decide +kernel
theorem dX8_comesToMidst_89 : decode cX8_comesToMidst 89 = .ok (.lconst 0, 1) := by decide +kernel
theorem dX8_comesToMidst_90 : decode cX8_comesToMidst 90 = .ok (.lconst 0, 1) := by decide +kernel
theorem dX8_comesToMidst_91 : decode cX8_comesToMidst 91 = .ok (.invokevirtual 124, 3) := by decide +kernel
theorem dX8_comesToMidst_94 : decode cX8_comesToMidst 94 = .ok (.goto (-89), 3) := by decide +kernel
theorem dX8_comesToMidst_97 : decode cX8_comesToMidst 97 = .ok (.return_, 1) := by decide +kernel
theorem dX8_isFlat_0 : decode cX8_isFlat 0 = .ok (.aload_n 0, 1) := by decide +kernel
theorem dX8_isFlat_1 : decode cX8_isFlat 1 = .ok (.lload_n 1, 1) := by decide +kernel
theorem dX8_isFlat_2 : decode cX8_isFlat 2 = .ok (.iconst 0, 1) := by decide +kernel
theorem dX8_isFlat_3 : decode cX8_isFlat 3 = .ok (.iconst 1, 1) := by decide +kernel
theorem dX8_isFlat_4 : decode cX8_isFlat 4 = .ok (.invokevirtual 187, 3) := by decide +kernel
theorem dX8_isFlat_7 : decode cX8_isFlat 7 = .ok (.ifCond .eq 47, 3) := by decide +kernel
theorem dX8_isFlat_10 : decode cX8_isFlat 10 = .ok (.aload_n 0, 1) := by decide +kernel
theorem dX8_isFlat_11 : decode cX8_isFlat 11 = .ok (.lload_n 1, 1) := by decide +kernel
theorem dX8_isFlat_12 : decode cX8_isFlat 12 = .ok (.iconst 1, 1) := by decide +kernel
theorem dX8_isFlat_13 : decode cX8_isFlat 13 = .ok (.iconst 1, 1) := by decide +kernel
theorem dX8_isFlat_14 : decode cX8_isFlat 14 = .ok (.invokevirtual 187, 3) := by decide +kernel
theorem dX8_isFlat_17 : decode cX8_isFlat 17 = .ok (.ifCond .eq 37, 3) := by decide +kernel
theorem dX8_isFlat_20 : decode cX8_isFlat 20 = .ok (.aload_n 0, 1) := by decide +kernel
theorem dX8_isFlat_21 : decode cX8_isFlat 21 = .ok (.lload_n 1, 1) := by decide +kernel
theorem dX8_isFlat_22 : decode cX8_isFlat 22 = .ok (.iconst 2, 1) := by decide +kernel
theorem dX8_isFlat_23 : decode cX8_isFlat 23 = .ok (.iconst 2, 1) := by decide +kernel
theorem dX8_isFlat_24 : decode cX8_isFlat 24 = .ok (.invokevirtual 187, 3) := by decide +kernel
theorem dX8_isFlat_27 : decode cX8_isFlat 27 = .ok (.ifCond .eq 27, 3) := by decide +kernel
theorem dX8_isFlat_30 : decode cX8_isFlat 30 = .ok (.aload_n 0, 1) := by decide +kernel
theorem dX8_isFlat_31 : decode cX8_isFlat 31 = .ok (.lload_n 1, 1) := by decide +kernel
theorem dX8_isFlat_32 : decode cX8_isFlat 32 = .ok (.iconst 3, 1) := by decide +kernel
theorem dX8_isFlat_33 : decode cX8_isFlat 33 = .ok (.iconst 2, 1) := by decide +kernel
theorem dX8_isFlat_34 : decode cX8_isFlat 34 = .ok (.invokevirtual 187, 3) := by decide +kernel
theorem dX8_isFlat_37 : decode cX8_isFlat 37 = .ok (.ifCond .eq 17, 3) := by decide +kernel
theorem dX8_isFlat_40 : decode cX8_isFlat 40 = .ok (.aload_n 0, 1) := by decide +kernel
theorem dX8_isFlat_41 : decode cX8_isFlat 41 = .ok (.lload_n 1, 1) := by decide +kernel
theorem dX8_isFlat_42 : decode cX8_isFlat 42 = .ok (.iconst 4, 1) := by decide +kernel
theorem dX8_isFlat_43 : decode cX8_isFlat 43 = .ok (.iconst 3, 1) := by decide +kernel
theorem dX8_isFlat_44 : decode cX8_isFlat 44 = .ok (.invokevirtual 187, 3) := by decide +kernel
theorem dX8_isFlat_47 : decode cX8_isFlat 47 = .ok (.ifCond .eq 7, 3) := by decide +kernel
theorem dX8_isFlat_50 : decode cX8_isFlat 50 = .ok (.iconst 1, 1) := by decide +kernel
theorem dX8_isFlat_51 : decode cX8_isFlat 51 = .ok (.goto 4, 3) := by decide +kernel
theorem dX8_isFlat_54 : decode cX8_isFlat 54 = .ok (.iconst 0, 1) := by decide +kernel
theorem dX8_isFlat_55 : decode cX8_isFlat 55 = .ok (.ireturn, 1) := by decide +kernel
theorem dX8_putsBack_0 : decode cX8_putsBack 0 = .ok (.iconst 0, 1) := by decide +kernel
theorem dX8_putsBack_1 : decode cX8_putsBack 1 = .ok (.istore_n 1, 1) := by decide +kernel
theorem dX8_putsBack_2 : decode cX8_putsBack 2 = .ok (.iload_n 1, 1) := by decide +kernel
theorem dX8_putsBack_3 : decode cX8_putsBack 3 = .ok (.iconst 5, 1) := by decide +kernel
theorem dX8_putsBack_4 : decode cX8_putsBack 4 = .ok (.if_icmp .ge 21, 3) := by decide +kernel
theorem dX8_putsBack_7 : decode cX8_putsBack 7 = .ok (.aload_n 0, 1) := by decide +kernel
theorem dX8_putsBack_8 : decode cX8_putsBack 8 = .ok (.getfield 13, 3) := by decide +kernel
theorem dX8_putsBack_11 : decode cX8_putsBack 11 = .ok (.iload_n 1, 1) := by decide +kernel
theorem dX8_putsBack_12 : decode cX8_putsBack 12 = .ok (.aload_n 0, 1) := by decide +kernel
theorem dX8_putsBack_13 : decode cX8_putsBack 13 = .ok (.getfield 26, 3) := by decide +kernel
theorem dX8_putsBack_16 : decode cX8_putsBack 16 = .ok (.iload_n 1, 1) := by decide +kernel
theorem dX8_putsBack_17 : decode cX8_putsBack 17 = .ok (.laload, 1) := by decide +kernel
theorem dX8_putsBack_18 : decode cX8_putsBack 18 = .ok (.lastore, 1) := by decide +kernel
theorem dX8_putsBack_19 : decode cX8_putsBack 19 = .ok (.iinc 1 1, 3) := by decide +kernel
theorem dX8_putsBack_22 : decode cX8_putsBack 22 = .ok (.goto (-20), 3) := by decide +kernel
theorem dX8_putsBack_25 : decode cX8_putsBack 25 = .ok (.return_, 1) := by decide +kernel
theorem dX8_flattens_0 : decode cX8_flattens 0 = .ok (.iconst 0, 1) := by decide +kernel
theorem dX8_flattens_1 : decode cX8_flattens 1 = .ok (.istore_n 3, 1) := by decide +kernel
theorem dX8_flattens_2 : decode cX8_flattens 2 = .ok (.iload_n 3, 1) := by decide +kernel
theorem dX8_flattens_3 : decode cX8_flattens 3 = .ok (.iconst 5, 1) := by decide +kernel
theorem dX8_flattens_4 : decode cX8_flattens 4 = .ok (.if_icmp .ge 21, 3) := by decide +kernel
theorem dX8_flattens_7 : decode cX8_flattens 7 = .ok (.aload_n 0, 1) := by decide +kernel
theorem dX8_flattens_8 : decode cX8_flattens 8 = .ok (.getfield 26, 3) := by decide +kernel
theorem dX8_flattens_11 : decode cX8_flattens 11 = .ok (.iload_n 3, 1) := by decide +kernel
theorem dX8_flattens_12 : decode cX8_flattens 12 = .ok (.aload_n 0, 1) := by decide +kernel
theorem dX8_flattens_13 : decode cX8_flattens 13 = .ok (.getfield 13, 3) := by decide +kernel
theorem dX8_flattens_16 : decode cX8_flattens 16 = .ok (.iload_n 3, 1) := by decide +kernel
theorem dX8_flattens_17 : decode cX8_flattens 17 = .ok (.laload, 1) := by decide +kernel
theorem dX8_flattens_18 : decode cX8_flattens 18 = .ok (.lastore, 1) := by decide +kernel
theorem dX8_flattens_19 : decode cX8_flattens 19 = .ok (.iinc 3 1, 3) := by decide +kernel
theorem dX8_flattens_22 : decode cX8_flattens 22 = .ok (.goto (-20), 3) := by decide +kernel
theorem dX8_flattens_25 : decode cX8_flattens 25 = .ok (.lconst 0, 1) := by decide +kernel
theorem dX8_flattens_26 : decode cX8_flattens 26 = .ok (.lstore_n 3, 1) := by decide +kernel
theorem dX8_flattens_27 : decode cX8_flattens 27 = .ok (.lload_n 3, 1) := by decide +kernel
theorem dX8_flattens_28 : decode cX8_flattens 28 = .ok (.lload_n 1, 1) := by decide +kernel
theorem dX8_flattens_29 : decode cX8_flattens 29 = .ok (.lload_n 1, 1) := by decide +kernel
theorem dX8_flattens_30 : decode cX8_flattens 30 = .ok (.lmul, 1) := by decide +kernel
theorem dX8_flattens_31 : decode cX8_flattens 31 = .ok (.lload_n 1, 1) := by decide +kernel
theorem dX8_flattens_32 : decode cX8_flattens 32 = .ok (.lmul, 1) := by decide +kernel
theorem dX8_flattens_33 : decode cX8_flattens 33 = .ok (.lload_n 1, 1) := by decide +kernel
theorem dX8_flattens_34 : decode cX8_flattens 34 = .ok (.lmul, 1) := by decide +kernel
theorem dX8_flattens_35 : decode cX8_flattens 35 = .ok (.lload_n 1, 1) := by decide +kernel
theorem dX8_flattens_36 : decode cX8_flattens 36 = .ok (.lmul, 1) := by decide +kernel
theorem dX8_flattens_37 : decode cX8_flattens 37 = .ok (.lcmp, 1) := by decide +kernel
theorem dX8_flattens_38 : decode cX8_flattens 38 = .ok (.ifCond .ge 47, 3) := by decide +kernel
theorem dX8_flattens_41 : decode cX8_flattens 41 = .ok (.aload_n 0, 1) := by decide +kernel
theorem dX8_flattens_42 : decode cX8_flattens 42 = .ok (.lload_n 1, 1) := by decide +kernel
theorem dX8_flattens_43 : decode cX8_flattens 43 = .ok (.invokevirtual 191, 3) := by decide +kernel
theorem dX8_flattens_46 : decode cX8_flattens 46 = .ok (.ifCond .ne 39, 3) := by decide +kernel
theorem dX8_flattens_49 : decode cX8_flattens 49 = .ok (.aload_n 0, 1) := by decide +kernel
theorem dX8_flattens_50 : decode cX8_flattens 50 = .ok (.invokevirtual 194, 3) := by decide +kernel
theorem dX8_flattens_53 : decode cX8_flattens 53 = .ok (.aload_n 0, 1) := by decide +kernel
theorem dX8_flattens_54 : decode cX8_flattens 54 = .ok (.lload_n 3, 1) := by decide +kernel
theorem dX8_flattens_55 : decode cX8_flattens 55 = .ok (.lload_n 1, 1) := by decide +kernel
theorem dX8_flattens_56 : decode cX8_flattens 56 = .ok (.ldiv, 1) := by decide +kernel
theorem dX8_flattens_57 : decode cX8_flattens 57 = .ok (.lload_n 1, 1) := by decide +kernel
theorem dX8_flattens_58 : decode cX8_flattens 58 = .ok (.ldiv, 1) := by decide +kernel
theorem dX8_flattens_59 : decode cX8_flattens 59 = .ok (.lload_n 1, 1) := by decide +kernel
theorem dX8_flattens_60 : decode cX8_flattens 60 = .ok (.ldiv, 1) := by decide +kernel
theorem dX8_flattens_61 : decode cX8_flattens 61 = .ok (.lload_n 1, 1) := by decide +kernel
theorem dX8_flattens_62 : decode cX8_flattens 62 = .ok (.lload_n 1, 1) := by decide +kernel
theorem dX8_flattens_63 : decode cX8_flattens 63 = .ok (.lmul, 1) := by decide +kernel
theorem dX8_flattens_64 : decode cX8_flattens 64 = .ok (.lrem, 1) := by decide +kernel
theorem dX8_flattens_65 : decode cX8_flattens 65 = .ok (.lload_n 3, 1) := by decide +kernel
theorem dX8_flattens_66 : decode cX8_flattens 66 = .ok (.lload_n 1, 1) := by decide +kernel
theorem dX8_flattens_67 : decode cX8_flattens 67 = .ok (.lrem, 1) := by decide +kernel
theorem dX8_flattens_68 : decode cX8_flattens 68 = .ok (.lload_n 3, 1) := by decide +kernel
theorem dX8_flattens_69 : decode cX8_flattens 69 = .ok (.lload_n 1, 1) := by decide +kernel
theorem dX8_flattens_70 : decode cX8_flattens 70 = .ok (.ldiv, 1) := by decide +kernel
theorem dX8_flattens_71 : decode cX8_flattens 71 = .ok (.lload_n 1, 1) := by decide +kernel
theorem dX8_flattens_72 : decode cX8_flattens 72 = .ok (.lload_n 1, 1) := by decide +kernel
theorem dX8_flattens_73 : decode cX8_flattens 73 = .ok (.lmul, 1) := by decide +kernel
theorem dX8_flattens_74 : decode cX8_flattens 74 = .ok (.lrem, 1) := by decide +kernel
theorem dX8_flattens_75 : decode cX8_flattens 75 = .ok (.invokevirtual 124, 3) := by decide +kernel
theorem dX8_flattens_78 : decode cX8_flattens 78 = .ok (.lload_n 3, 1) := by decide +kernel
theorem dX8_flattens_79 : decode cX8_flattens 79 = .ok (.lconst 1, 1) := by decide +kernel
theorem dX8_flattens_80 : decode cX8_flattens 80 = .ok (.ladd, 1) := by decide +kernel
theorem dX8_flattens_81 : decode cX8_flattens 81 = .ok (.lstore_n 3, 1) := by decide +kernel
theorem dX8_flattens_82 : decode cX8_flattens 82 = .ok (.goto (-55), 3) := by decide +kernel
theorem dX8_flattens_85 : decode cX8_flattens 85 = .ok (.return_, 1) := by decide +kernel
theorem dX8_cubic_0 : decode cX8_cubic 0 = .ok (.lload_n 3, 1) := by decide +kernel
theorem dX8_cubic_1 : decode cX8_cubic 1 = .ok (.lload_n 3, 1) := by decide +kernel
theorem dX8_cubic_2 : decode cX8_cubic 2 = .ok (.lmul, 1) := by decide +kernel
theorem dX8_cubic_3 : decode cX8_cubic 3 = .ok (.lload_n 3, 1) := by decide +kernel
theorem dX8_cubic_4 : decode cX8_cubic 4 = .ok (.lmul, 1) := by decide +kernel
theorem dX8_cubic_5 : decode cX8_cubic 5 = .ok (.aload_n 0, 1) := by decide +kernel
theorem dX8_cubic_6 : decode cX8_cubic 6 = .ok (.getfield 13, 3) := by decide +kernel
theorem dX8_cubic_9 : decode cX8_cubic 9 = .ok (.iconst 1, 1) := by decide +kernel
theorem dX8_cubic_10 : decode cX8_cubic 10 = .ok (.laload, 1) := by decide +kernel
theorem dX8_cubic_11 : decode cX8_cubic 11 = .ok (.lload_n 1, 1) := by decide +kernel
theorem dX8_cubic_12 : decode cX8_cubic 12 = .ok (.ldiv, 1) := by decide +kernel
theorem dX8_cubic_13 : decode cX8_cubic 13 = .ok (.lload_n 3, 1) := by decide +kernel
theorem dX8_cubic_14 : decode cX8_cubic 14 = .ok (.lmul, 1) := by decide +kernel
theorem dX8_cubic_15 : decode cX8_cubic 15 = .ok (.lload_n 3, 1) := by decide +kernel
theorem dX8_cubic_16 : decode cX8_cubic 16 = .ok (.lmul, 1) := by decide +kernel
theorem dX8_cubic_17 : decode cX8_cubic 17 = .ok (.ladd, 1) := by decide +kernel
theorem dX8_cubic_18 : decode cX8_cubic 18 = .ok (.aload_n 0, 1) := by decide +kernel
theorem dX8_cubic_19 : decode cX8_cubic 19 = .ok (.getfield 13, 3) := by decide +kernel
theorem dX8_cubic_22 : decode cX8_cubic 22 = .ok (.iconst 3, 1) := by decide +kernel
theorem dX8_cubic_23 : decode cX8_cubic 23 = .ok (.laload, 1) := by decide +kernel
theorem dX8_cubic_24 : decode cX8_cubic 24 = .ok (.lload_n 1, 1) := by decide +kernel
theorem dX8_cubic_25 : decode cX8_cubic 25 = .ok (.lload_n 1, 1) := by decide +kernel
theorem dX8_cubic_26 : decode cX8_cubic 26 = .ok (.lmul, 1) := by decide +kernel
theorem dX8_cubic_27 : decode cX8_cubic 27 = .ok (.ldiv, 1) := by decide +kernel
theorem dX8_cubic_28 : decode cX8_cubic 28 = .ok (.lload_n 3, 1) := by decide +kernel
theorem dX8_cubic_29 : decode cX8_cubic 29 = .ok (.lmul, 1) := by decide +kernel
theorem dX8_cubic_30 : decode cX8_cubic 30 = .ok (.ladd, 1) := by decide +kernel
theorem dX8_cubic_31 : decode cX8_cubic 31 = .ok (.aload_n 0, 1) := by decide +kernel
theorem dX8_cubic_32 : decode cX8_cubic 32 = .ok (.getfield 13, 3) := by decide +kernel
theorem dX8_cubic_35 : decode cX8_cubic 35 = .ok (.iconst 4, 1) := by decide +kernel
theorem dX8_cubic_36 : decode cX8_cubic 36 = .ok (.laload, 1) := by decide +kernel
theorem dX8_cubic_37 : decode cX8_cubic 37 = .ok (.lload_n 1, 1) := by decide +kernel
theorem dX8_cubic_38 : decode cX8_cubic 38 = .ok (.lload_n 1, 1) := by decide +kernel
theorem dX8_cubic_39 : decode cX8_cubic 39 = .ok (.lmul, 1) := by decide +kernel
theorem dX8_cubic_40 : decode cX8_cubic 40 = .ok (.lload_n 1, 1) := by decide +kernel
theorem dX8_cubic_41 : decode cX8_cubic 41 = .ok (.lmul, 1) := by decide +kernel
theorem dX8_cubic_42 : decode cX8_cubic 42 = .ok (.ldiv, 1) := by decide +kernel
theorem dX8_cubic_43 : decode cX8_cubic 43 = .ok (.ladd, 1) := by decide +kernel
theorem dX8_cubic_44 : decode cX8_cubic 44 = .ok (.lload_n 1, 1) := by decide +kernel
theorem dX8_cubic_45 : decode cX8_cubic 45 = .ok (.invokestatic 138, 3) := by decide +kernel
theorem dX8_cubic_48 : decode cX8_cubic 48 = .ok (.lreturn, 1) := by decide +kernel
theorem dX8_slope_0 : decode cX8_slope 0 = .ok (.ldc2_w 77, 3) := by decide +kernel
theorem dX8_slope_3 : decode cX8_slope 3 = .ok (.lload_n 3, 1) := by decide +kernel
theorem dX8_slope_4 : decode cX8_slope 4 = .ok (.lmul, 1) := by decide +kernel
theorem dX8_slope_5 : decode cX8_slope 5 = .ok (.lload_n 3, 1) := by decide +kernel
theorem dX8_slope_6 : decode cX8_slope 6 = .ok (.lmul, 1) := by decide +kernel
theorem dX8_slope_7 : decode cX8_slope 7 = .ok (.ldc2_w 50, 3) := by decide +kernel
theorem dX8_slope_10 : decode cX8_slope 10 = .ok (.aload_n 0, 1) := by decide +kernel
theorem dX8_slope_11 : decode cX8_slope 11 = .ok (.getfield 13, 3) := by decide +kernel
theorem dX8_slope_14 : decode cX8_slope 14 = .ok (.iconst 1, 1) := by decide +kernel
theorem dX8_slope_15 : decode cX8_slope 15 = .ok (.laload, 1) := by decide +kernel
theorem dX8_slope_16 : decode cX8_slope 16 = .ok (.lload_n 1, 1) := by decide +kernel
theorem dX8_slope_17 : decode cX8_slope 17 = .ok (.ldiv, 1) := by decide +kernel
theorem dX8_slope_18 : decode cX8_slope 18 = .ok (.lmul, 1) := by decide +kernel
theorem dX8_slope_19 : decode cX8_slope 19 = .ok (.lload_n 3, 1) := by decide +kernel
theorem dX8_slope_20 : decode cX8_slope 20 = .ok (.lmul, 1) := by decide +kernel
theorem dX8_slope_21 : decode cX8_slope 21 = .ok (.ladd, 1) := by decide +kernel
theorem dX8_slope_22 : decode cX8_slope 22 = .ok (.aload_n 0, 1) := by decide +kernel
theorem dX8_slope_23 : decode cX8_slope 23 = .ok (.getfield 13, 3) := by decide +kernel
theorem dX8_slope_26 : decode cX8_slope 26 = .ok (.iconst 3, 1) := by decide +kernel
theorem dX8_slope_27 : decode cX8_slope 27 = .ok (.laload, 1) := by decide +kernel
theorem dX8_slope_28 : decode cX8_slope 28 = .ok (.lload_n 1, 1) := by decide +kernel
theorem dX8_slope_29 : decode cX8_slope 29 = .ok (.lload_n 1, 1) := by decide +kernel
theorem dX8_slope_30 : decode cX8_slope 30 = .ok (.lmul, 1) := by decide +kernel
theorem dX8_slope_31 : decode cX8_slope 31 = .ok (.ldiv, 1) := by decide +kernel
theorem dX8_slope_32 : decode cX8_slope 32 = .ok (.ladd, 1) := by decide +kernel
theorem dX8_slope_33 : decode cX8_slope 33 = .ok (.lload_n 1, 1) := by decide +kernel
theorem dX8_slope_34 : decode cX8_slope 34 = .ok (.invokestatic 138, 3) := by decide +kernel
theorem dX8_slope_37 : decode cX8_slope 37 = .ok (.lreturn, 1) := by decide +kernel
theorem dX8_rootsOfCubic_0 : decode cX8_rootsOfCubic 0 = .ok (.iconst 0, 1) := by decide +kernel
theorem dX8_rootsOfCubic_1 : decode cX8_rootsOfCubic 1 = .ok (.istore_n 3, 1) := by decide +kernel
theorem dX8_rootsOfCubic_2 : decode cX8_rootsOfCubic 2 = .ok (.lconst 0, 1) := by decide +kernel
theorem dX8_rootsOfCubic_3 : decode cX8_rootsOfCubic 3 = .ok (.lstore 4, 2) := by decide +kernel
theorem dX8_rootsOfCubic_5 : decode cX8_rootsOfCubic 5 = .ok (.lload 4, 2) := by decide +kernel
theorem dX8_rootsOfCubic_7 : decode cX8_rootsOfCubic 7 = .ok (.lload_n 1, 1) := by decide +kernel
theorem dX8_rootsOfCubic_8 : decode cX8_rootsOfCubic 8 = .ok (.lcmp, 1) := by decide +kernel
theorem dX8_rootsOfCubic_9 : decode cX8_rootsOfCubic 9 = .ok (.ifCond .ge 32, 3) := by decide +kernel
theorem dX8_rootsOfCubic_12 : decode cX8_rootsOfCubic 12 = .ok (.iload_n 3, 1) := by decide +kernel
theorem dX8_rootsOfCubic_13 : decode cX8_rootsOfCubic 13 = .ok (.aload_n 0, 1) := by decide +kernel
theorem dX8_rootsOfCubic_14 : decode cX8_rootsOfCubic 14 = .ok (.lload_n 1, 1) := by decide +kernel
theorem dX8_rootsOfCubic_15 : decode cX8_rootsOfCubic 15 = .ok (.lload 4, 2) := by decide +kernel
theorem dX8_rootsOfCubic_17 : decode cX8_rootsOfCubic 17 = .ok (.invokevirtual 197, 3) := by decide +kernel
theorem dX8_rootsOfCubic_20 : decode cX8_rootsOfCubic 20 = .ok (.lconst 0, 1) := by decide +kernel
theorem dX8_rootsOfCubic_21 : decode cX8_rootsOfCubic 21 = .ok (.lcmp, 1) := by decide +kernel
theorem dX8_rootsOfCubic_22 : decode cX8_rootsOfCubic 22 = .ok (.ifCond .ne 7, 3) := by decide +kernel
theorem dX8_rootsOfCubic_25 : decode cX8_rootsOfCubic 25 = .ok (.iconst 1, 1) := by decide +kernel
theorem dX8_rootsOfCubic_26 : decode cX8_rootsOfCubic 26 = .ok (.goto 4, 3) := by decide +kernel
theorem dX8_rootsOfCubic_29 : decode cX8_rootsOfCubic 29 = .ok (.iconst 0, 1) := by decide +kernel
theorem dX8_rootsOfCubic_30 : decode cX8_rootsOfCubic 30 = .ok (.iadd, 1) := by decide +kernel
theorem dX8_rootsOfCubic_31 : decode cX8_rootsOfCubic 31 = .ok (.istore_n 3, 1) := by decide +kernel
theorem dX8_rootsOfCubic_32 : decode cX8_rootsOfCubic 32 = .ok (.lload 4, 2) := by decide +kernel
theorem dX8_rootsOfCubic_34 : decode cX8_rootsOfCubic 34 = .ok (.lconst 1, 1) := by decide +kernel
theorem dX8_rootsOfCubic_35 : decode cX8_rootsOfCubic 35 = .ok (.ladd, 1) := by decide +kernel
theorem dX8_rootsOfCubic_36 : decode cX8_rootsOfCubic 36 = .ok (.lstore 4, 2) := by decide +kernel
theorem dX8_rootsOfCubic_38 : decode cX8_rootsOfCubic 38 = .ok (.goto (-33), 3) := by decide +kernel
theorem dX8_rootsOfCubic_41 : decode cX8_rootsOfCubic 41 = .ok (.iload_n 3, 1) := by decide +kernel
theorem dX8_rootsOfCubic_42 : decode cX8_rootsOfCubic 42 = .ok (.ireturn, 1) := by decide +kernel
theorem dX8_unlikeRoots_0 : decode cX8_unlikeRoots 0 = .ok (.aload_n 0, 1) := by decide +kernel
theorem dX8_unlikeRoots_1 : decode cX8_unlikeRoots 1 = .ok (.getfield 13, 3) := by decide +kernel
theorem dX8_unlikeRoots_4 : decode cX8_unlikeRoots 4 = .ok (.iconst 1, 1) := by decide +kernel
theorem dX8_unlikeRoots_5 : decode cX8_unlikeRoots 5 = .ok (.laload, 1) := by decide +kernel
theorem dX8_unlikeRoots_6 : decode cX8_unlikeRoots 6 = .ok (.lload_n 1, 1) := by decide +kernel
theorem dX8_unlikeRoots_7 : decode cX8_unlikeRoots 7 = .ok (.ldiv, 1) := by decide +kernel
theorem dX8_unlikeRoots_8 : decode cX8_unlikeRoots 8 = .ok (.lload_n 1, 1) := by decide +kernel
theorem dX8_unlikeRoots_9 : decode cX8_unlikeRoots 9 = .ok (.invokestatic 138, 3) := by decide +kernel
theorem dX8_unlikeRoots_12 : decode cX8_unlikeRoots 12 = .ok (.lstore_n 3, 1) := by decide +kernel
theorem dX8_unlikeRoots_13 : decode cX8_unlikeRoots 13 = .ok (.aload_n 0, 1) := by decide +kernel
theorem dX8_unlikeRoots_14 : decode cX8_unlikeRoots 14 = .ok (.getfield 13, 3) := by decide +kernel
theorem dX8_unlikeRoots_17 : decode cX8_unlikeRoots 17 = .ok (.iconst 3, 1) := by decide +kernel
theorem dX8_unlikeRoots_18 : decode cX8_unlikeRoots 18 = .ok (.laload, 1) := by decide +kernel
theorem dX8_unlikeRoots_19 : decode cX8_unlikeRoots 19 = .ok (.lload_n 1, 1) := by decide +kernel
theorem dX8_unlikeRoots_20 : decode cX8_unlikeRoots 20 = .ok (.lload_n 1, 1) := by decide +kernel
theorem dX8_unlikeRoots_21 : decode cX8_unlikeRoots 21 = .ok (.lmul, 1) := by decide +kernel
theorem dX8_unlikeRoots_22 : decode cX8_unlikeRoots 22 = .ok (.ldiv, 1) := by decide +kernel
theorem dX8_unlikeRoots_23 : decode cX8_unlikeRoots 23 = .ok (.lload_n 1, 1) := by decide +kernel
theorem dX8_unlikeRoots_24 : decode cX8_unlikeRoots 24 = .ok (.invokestatic 138, 3) := by decide +kernel
theorem dX8_unlikeRoots_27 : decode cX8_unlikeRoots 27 = .ok (.lstore 5, 2) := by decide +kernel
theorem dX8_unlikeRoots_29 : decode cX8_unlikeRoots 29 = .ok (.aload_n 0, 1) := by decide +kernel
theorem dX8_unlikeRoots_30 : decode cX8_unlikeRoots 30 = .ok (.getfield 13, 3) := by decide +kernel
theorem dX8_unlikeRoots_33 : decode cX8_unlikeRoots 33 = .ok (.iconst 4, 1) := by decide +kernel
theorem dX8_unlikeRoots_34 : decode cX8_unlikeRoots 34 = .ok (.laload, 1) := by decide +kernel
theorem dX8_unlikeRoots_35 : decode cX8_unlikeRoots 35 = .ok (.lload_n 1, 1) := by decide +kernel
theorem dX8_unlikeRoots_36 : decode cX8_unlikeRoots 36 = .ok (.lload_n 1, 1) := by decide +kernel
theorem dX8_unlikeRoots_37 : decode cX8_unlikeRoots 37 = .ok (.lmul, 1) := by decide +kernel
theorem dX8_unlikeRoots_38 : decode cX8_unlikeRoots 38 = .ok (.lload_n 1, 1) := by decide +kernel
theorem dX8_unlikeRoots_39 : decode cX8_unlikeRoots 39 = .ok (.lmul, 1) := by decide +kernel
theorem dX8_unlikeRoots_40 : decode cX8_unlikeRoots 40 = .ok (.ldiv, 1) := by decide +kernel
theorem dX8_unlikeRoots_41 : decode cX8_unlikeRoots 41 = .ok (.lload_n 1, 1) := by decide +kernel
theorem dX8_unlikeRoots_42 : decode cX8_unlikeRoots 42 = .ok (.invokestatic 138, 3) := by decide +kernel
theorem dX8_unlikeRoots_45 : decode cX8_unlikeRoots 45 = .ok (.lstore 7, 2) := by decide +kernel
theorem dX8_unlikeRoots_47 : decode cX8_unlikeRoots 47 = .ok (.ldc2_w 75, 3) := by decide +kernel
theorem dX8_unlikeRoots_50 : decode cX8_unlikeRoots 50 = .ok (.lload 7, 2) := by decide +kernel
theorem dX8_unlikeRoots_52 : decode cX8_unlikeRoots 52 = .ok (.lmul, 1) := by decide +kernel
theorem dX8_unlikeRoots_53 : decode cX8_unlikeRoots 53 = .ok (.lload 7, 2) := by decide +kernel
theorem dX8_unlikeRoots_55 : decode cX8_unlikeRoots 55 = .ok (.lmul, 1) := by decide +kernel
theorem dX8_unlikeRoots_56 : decode cX8_unlikeRoots 56 = .ok (.lload_n 3, 1) := by decide +kernel
theorem dX8_unlikeRoots_57 : decode cX8_unlikeRoots 57 = .ok (.lload_n 3, 1) := by decide +kernel
theorem dX8_unlikeRoots_58 : decode cX8_unlikeRoots 58 = .ok (.lmul, 1) := by decide +kernel
theorem dX8_unlikeRoots_59 : decode cX8_unlikeRoots 59 = .ok (.lload 5, 2) := by decide +kernel
theorem dX8_unlikeRoots_61 : decode cX8_unlikeRoots 61 = .ok (.lmul, 1) := by decide +kernel
theorem dX8_unlikeRoots_62 : decode cX8_unlikeRoots 62 = .ok (.lload 5, 2) := by decide +kernel
theorem dX8_unlikeRoots_64 : decode cX8_unlikeRoots 64 = .ok (.lmul, 1) := by decide +kernel
theorem dX8_unlikeRoots_65 : decode cX8_unlikeRoots 65 = .ok (.lsub, 1) := by decide +kernel
theorem dX8_unlikeRoots_66 : decode cX8_unlikeRoots 66 = .ok (.ldc2_w 48, 3) := by decide +kernel
theorem dX8_unlikeRoots_69 : decode cX8_unlikeRoots 69 = .ok (.lload_n 3, 1) := by decide +kernel
theorem dX8_unlikeRoots_70 : decode cX8_unlikeRoots 70 = .ok (.lmul, 1) := by decide +kernel
theorem dX8_unlikeRoots_71 : decode cX8_unlikeRoots 71 = .ok (.lload_n 3, 1) := by decide +kernel
theorem dX8_unlikeRoots_72 : decode cX8_unlikeRoots 72 = .ok (.lmul, 1) := by decide +kernel
theorem dX8_unlikeRoots_73 : decode cX8_unlikeRoots 73 = .ok (.lload_n 3, 1) := by decide +kernel
theorem dX8_unlikeRoots_74 : decode cX8_unlikeRoots 74 = .ok (.lmul, 1) := by decide +kernel
theorem dX8_unlikeRoots_75 : decode cX8_unlikeRoots 75 = .ok (.lload 7, 2) := by decide +kernel
theorem dX8_unlikeRoots_77 : decode cX8_unlikeRoots 77 = .ok (.lmul, 1) := by decide +kernel
theorem dX8_unlikeRoots_78 : decode cX8_unlikeRoots 78 = .ok (.ladd, 1) := by decide +kernel
theorem dX8_unlikeRoots_79 : decode cX8_unlikeRoots 79 = .ok (.ldc2_w 200, 3) := by decide +kernel
theorem dX8_unlikeRoots_82 : decode cX8_unlikeRoots 82 = .ok (.lload_n 3, 1) := by decide +kernel
theorem dX8_unlikeRoots_83 : decode cX8_unlikeRoots 83 = .ok (.lmul, 1) := by decide +kernel
theorem dX8_unlikeRoots_84 : decode cX8_unlikeRoots 84 = .ok (.lload 5, 2) := by decide +kernel
theorem dX8_unlikeRoots_86 : decode cX8_unlikeRoots 86 = .ok (.lmul, 1) := by decide +kernel
theorem dX8_unlikeRoots_87 : decode cX8_unlikeRoots 87 = .ok (.lload 7, 2) := by decide +kernel
theorem dX8_unlikeRoots_89 : decode cX8_unlikeRoots 89 = .ok (.lmul, 1) := by decide +kernel
theorem dX8_unlikeRoots_90 : decode cX8_unlikeRoots 90 = .ok (.lsub, 1) := by decide +kernel
theorem dX8_unlikeRoots_91 : decode cX8_unlikeRoots 91 = .ok (.ldc2_w 48, 3) := by decide +kernel
theorem dX8_unlikeRoots_94 : decode cX8_unlikeRoots 94 = .ok (.lload 5, 2) := by decide +kernel
theorem dX8_unlikeRoots_96 : decode cX8_unlikeRoots 96 = .ok (.lmul, 1) := by decide +kernel
theorem dX8_unlikeRoots_97 : decode cX8_unlikeRoots 97 = .ok (.lload 5, 2) := by decide +kernel
theorem dX8_unlikeRoots_99 : decode cX8_unlikeRoots 99 = .ok (.lmul, 1) := by decide +kernel
theorem dX8_unlikeRoots_100 : decode cX8_unlikeRoots 100 = .ok (.lload 5, 2) := by decide +kernel
theorem dX8_unlikeRoots_102 : decode cX8_unlikeRoots 102 = .ok (.lmul, 1) := by decide +kernel
theorem dX8_unlikeRoots_103 : decode cX8_unlikeRoots 103 = .ok (.ladd, 1) := by decide +kernel
theorem dX8_unlikeRoots_104 : decode cX8_unlikeRoots 104 = .ok (.lstore 9, 2) := by decide +kernel
theorem dX8_unlikeRoots_106 : decode cX8_unlikeRoots 106 = .ok (.lload 9, 2) := by decide +kernel
theorem dX8_unlikeRoots_108 : decode cX8_unlikeRoots 108 = .ok (.lload_n 1, 1) := by decide +kernel
theorem dX8_unlikeRoots_109 : decode cX8_unlikeRoots 109 = .ok (.lrem, 1) := by decide +kernel
theorem dX8_unlikeRoots_110 : decode cX8_unlikeRoots 110 = .ok (.lconst 0, 1) := by decide +kernel
theorem dX8_unlikeRoots_111 : decode cX8_unlikeRoots 111 = .ok (.lcmp, 1) := by decide +kernel
theorem dX8_unlikeRoots_112 : decode cX8_unlikeRoots 112 = .ok (.ifCond .eq 7, 3) := by decide +kernel
theorem dX8_unlikeRoots_115 : decode cX8_unlikeRoots 115 = .ok (.iconst 3, 1) := by decide +kernel
theorem dX8_unlikeRoots_116 : decode cX8_unlikeRoots 116 = .ok (.goto 25, 3) := by decide +kernel
theorem dX8_unlikeRoots_119 : decode cX8_unlikeRoots 119 = .ok (.ldc2_w 77, 3) := by decide +kernel
theorem dX8_unlikeRoots_122 : decode cX8_unlikeRoots 122 = .ok (.lload 5, 2) := by decide +kernel
theorem dX8_unlikeRoots_124 : decode cX8_unlikeRoots 124 = .ok (.lmul, 1) := by decide +kernel
theorem dX8_unlikeRoots_125 : decode cX8_unlikeRoots 125 = .ok (.lload_n 3, 1) := by decide +kernel
theorem dX8_unlikeRoots_126 : decode cX8_unlikeRoots 126 = .ok (.lload_n 3, 1) := by decide +kernel
theorem dX8_unlikeRoots_127 : decode cX8_unlikeRoots 127 = .ok (.lmul, 1) := by decide +kernel
theorem dX8_unlikeRoots_128 : decode cX8_unlikeRoots 128 = .ok (.lsub, 1) := by decide +kernel
theorem dX8_unlikeRoots_129 : decode cX8_unlikeRoots 129 = .ok (.lload_n 1, 1) := by decide +kernel
theorem dX8_unlikeRoots_130 : decode cX8_unlikeRoots 130 = .ok (.lrem, 1) := by decide +kernel
theorem dX8_unlikeRoots_131 : decode cX8_unlikeRoots 131 = .ok (.lconst 0, 1) := by decide +kernel
theorem dX8_unlikeRoots_132 : decode cX8_unlikeRoots 132 = .ok (.lcmp, 1) := by decide +kernel
theorem dX8_unlikeRoots_133 : decode cX8_unlikeRoots 133 = .ok (.ifCond .eq 7, 3) := by decide +kernel
theorem dX8_unlikeRoots_136 : decode cX8_unlikeRoots 136 = .ok (.iconst 2, 1) := by decide +kernel
theorem dX8_unlikeRoots_137 : decode cX8_unlikeRoots 137 = .ok (.goto 4, 3) := by decide +kernel
theorem dX8_unlikeRoots_140 : decode cX8_unlikeRoots 140 = .ok (.iconst 1, 1) := by decide +kernel
theorem dX8_unlikeRoots_141 : decode cX8_unlikeRoots 141 = .ok (.ireturn, 1) := by decide +kernel
theorem dX8_movesRoot_0 : decode cX8_movesRoot 0 = .ok (.lconst 0, 1) := by decide +kernel
theorem dX8_movesRoot_1 : decode cX8_movesRoot 1 = .ok (.lstore 4, 2) := by decide +kernel
theorem dX8_movesRoot_3 : decode cX8_movesRoot 3 = .ok (.aload_n 0, 1) := by decide +kernel
theorem dX8_movesRoot_4 : decode cX8_movesRoot 4 = .ok (.lload_n 1, 1) := by decide +kernel
theorem dX8_movesRoot_5 : decode cX8_movesRoot 5 = .ok (.lload 4, 2) := by decide +kernel
theorem dX8_movesRoot_7 : decode cX8_movesRoot 7 = .ok (.invokevirtual 197, 3) := by decide +kernel
theorem dX8_movesRoot_10 : decode cX8_movesRoot 10 = .ok (.lconst 0, 1) := by decide +kernel
theorem dX8_movesRoot_11 : decode cX8_movesRoot 11 = .ok (.lcmp, 1) := by decide +kernel
theorem dX8_movesRoot_12 : decode cX8_movesRoot 12 = .ok (.ifCond .ne 19, 3) := by decide +kernel
theorem dX8_movesRoot_15 : decode cX8_movesRoot 15 = .ok (.iload_n 3, 1) := by decide +kernel
theorem dX8_movesRoot_16 : decode cX8_movesRoot 16 = .ok (.ifCond .ne 24, 3) := by decide +kernel
theorem dX8_movesRoot_19 : decode cX8_movesRoot 19 = .ok (.aload_n 0, 1) := by decide +kernel
theorem dX8_movesRoot_20 : decode cX8_movesRoot 20 = .ok (.lload_n 1, 1) := by decide +kernel
theorem dX8_movesRoot_21 : decode cX8_movesRoot 21 = .ok (.lload 4, 2) := by decide +kernel
theorem dX8_movesRoot_23 : decode cX8_movesRoot 23 = .ok (.invokevirtual 202, 3) := by decide +kernel
theorem dX8_movesRoot_26 : decode cX8_movesRoot 26 = .ok (.lconst 0, 1) := by decide +kernel
theorem dX8_movesRoot_27 : decode cX8_movesRoot 27 = .ok (.lcmp, 1) := by decide +kernel
theorem dX8_movesRoot_28 : decode cX8_movesRoot 28 = .ok (.ifCond .eq 12, 3) := by decide +kernel
theorem dX8_movesRoot_31 : decode cX8_movesRoot 31 = .ok (.lload 4, 2) := by decide +kernel
theorem dX8_movesRoot_33 : decode cX8_movesRoot 33 = .ok (.lconst 1, 1) := by decide +kernel
theorem dX8_movesRoot_34 : decode cX8_movesRoot 34 = .ok (.ladd, 1) := by decide +kernel
theorem dX8_movesRoot_35 : decode cX8_movesRoot 35 = .ok (.lstore 4, 2) := by decide +kernel
theorem dX8_movesRoot_37 : decode cX8_movesRoot 37 = .ok (.goto (-34), 3) := by decide +kernel
theorem dX8_movesRoot_40 : decode cX8_movesRoot 40 = .ok (.aload_n 0, 1) := by decide +kernel
theorem dX8_movesRoot_41 : decode cX8_movesRoot 41 = .ok (.lload_n 1, 1) := by decide +kernel
theorem dX8_movesRoot_42 : decode cX8_movesRoot 42 = .ok (.lload 4, 2) := by decide +kernel
theorem dX8_movesRoot_44 : decode cX8_movesRoot 44 = .ok (.lmul, 1) := by decide +kernel
theorem dX8_movesRoot_45 : decode cX8_movesRoot 45 = .ok (.lconst 0, 1) := by decide +kernel
theorem dX8_movesRoot_46 : decode cX8_movesRoot 46 = .ok (.lconst 0, 1) := by decide +kernel
theorem dX8_movesRoot_47 : decode cX8_movesRoot 47 = .ok (.invokevirtual 124, 3) := by decide +kernel
theorem dX8_movesRoot_50 : decode cX8_movesRoot 50 = .ok (.return_, 1) := by decide +kernel
theorem dX8_turns_0 : decode cX8_turns 0 = .ok (.iconst 1, 1) := by decide +kernel
theorem dX8_turns_1 : decode cX8_turns 1 = .ok (.istore 4, 2) := by decide +kernel
theorem dX8_turns_3 : decode cX8_turns 3 = .ok (.iconst 0, 1) := by decide +kernel
theorem dX8_turns_4 : decode cX8_turns 4 = .ok (.istore 5, 2) := by decide +kernel
theorem dX8_turns_6 : decode cX8_turns 6 = .ok (.iload 5, 2) := by decide +kernel
theorem dX8_turns_8 : decode cX8_turns 8 = .ok (.ifCond .ne 277, 3) := by decide +kernel
theorem dX8_turns_11 : decode cX8_turns 11 = .ok (.iload 4, 2) := by decide +kernel
theorem dX8_turns_13 : decode cX8_turns 13 = .ok (.iconst 2, 1) := by decide +kernel
theorem dX8_turns_14 : decode cX8_turns 14 = .ok (.irem, 1) := by decide +kernel
theorem dX8_turns_15 : decode cX8_turns 15 = .ok (.iconst 1, 1) := by decide +kernel
theorem dX8_turns_16 : decode cX8_turns 16 = .ok (.if_icmp .ne 7, 3) := by decide +kernel
theorem dX8_turns_19 : decode cX8_turns 19 = .ok (.iconst 1, 1) := by decide +kernel
theorem dX8_turns_20 : decode cX8_turns 20 = .ok (.goto 4, 3) := by decide +kernel
theorem dX8_turns_23 : decode cX8_turns 23 = .ok (.iconst 0, 1) := by decide +kernel
theorem dX8_turns_24 : decode cX8_turns 24 = .ok (.istore 6, 2) := by decide +kernel
theorem dX8_turns_26 : decode cX8_turns 26 = .ok (.iload 6, 2) := by decide +kernel
theorem dX8_turns_28 : decode cX8_turns 28 = .ok (.ifCond .eq 12, 3) := by decide +kernel
theorem dX8_turns_31 : decode cX8_turns 31 = .ok (.iload 4, 2) := by decide +kernel
theorem dX8_turns_33 : decode cX8_turns 33 = .ok (.iconst 3, 1) := by decide +kernel
theorem dX8_turns_34 : decode cX8_turns 34 = .ok (.iadd, 1) := by decide +kernel
theorem dX8_turns_35 : decode cX8_turns 35 = .ok (.iconst 2, 1) := by decide +kernel
theorem dX8_turns_36 : decode cX8_turns 36 = .ok (.idiv, 1) := by decide +kernel
theorem dX8_turns_37 : decode cX8_turns 37 = .ok (.goto 9, 3) := by decide +kernel
theorem dX8_turns_40 : decode cX8_turns 40 = .ok (.iload 4, 2) := by decide +kernel
theorem dX8_turns_42 : decode cX8_turns 42 = .ok (.iconst 4, 1) := by decide +kernel
theorem dX8_turns_43 : decode cX8_turns 43 = .ok (.iadd, 1) := by decide +kernel
theorem dX8_turns_44 : decode cX8_turns 44 = .ok (.iconst 2, 1) := by decide +kernel
theorem dX8_turns_45 : decode cX8_turns 45 = .ok (.idiv, 1) := by decide +kernel
theorem dX8_turns_46 : decode cX8_turns 46 = .ok (.istore 7, 2) := by decide +kernel
theorem dX8_turns_48 : decode cX8_turns 48 = .ok (.iload 6, 2) := by decide +kernel
theorem dX8_turns_50 : decode cX8_turns 50 = .ok (.ifCond .eq 7, 3) := by decide +kernel
theorem dX8_turns_53 : decode cX8_turns 53 = .ok (.lconst 1, 1) := by decide +kernel
theorem dX8_turns_54 : decode cX8_turns 54 = .ok (.goto 11, 3) := by decide +kernel
theorem dX8_turns_57 : decode cX8_turns 57 = .ok (.aload_n 0, 1) := by decide +kernel
theorem dX8_turns_58 : decode cX8_turns 58 = .ok (.getfield 13, 3) := by decide +kernel
theorem dX8_turns_61 : decode cX8_turns 61 = .ok (.iconst 1, 1) := by decide +kernel
theorem dX8_turns_62 : decode cX8_turns 62 = .ok (.laload, 1) := by decide +kernel
theorem dX8_turns_63 : decode cX8_turns 63 = .ok (.lload_n 1, 1) := by decide +kernel
theorem dX8_turns_64 : decode cX8_turns 64 = .ok (.ldiv, 1) := by decide +kernel
theorem dX8_turns_65 : decode cX8_turns 65 = .ok (.lstore 8, 2) := by decide +kernel
theorem dX8_turns_67 : decode cX8_turns 67 = .ok (.iload 6, 2) := by decide +kernel
theorem dX8_turns_69 : decode cX8_turns 69 = .ok (.ifCond .eq 19, 3) := by decide +kernel
theorem dX8_turns_72 : decode cX8_turns 72 = .ok (.aload_n 0, 1) := by decide +kernel
theorem dX8_turns_73 : decode cX8_turns 73 = .ok (.getfield 13, 3) := by decide +kernel
theorem dX8_turns_76 : decode cX8_turns 76 = .ok (.iconst 2, 1) := by decide +kernel
theorem dX8_turns_77 : decode cX8_turns 77 = .ok (.laload, 1) := by decide +kernel
theorem dX8_turns_78 : decode cX8_turns 78 = .ok (.lload_n 1, 1) := by decide +kernel
theorem dX8_turns_79 : decode cX8_turns 79 = .ok (.iload 7, 2) := by decide +kernel
theorem dX8_turns_81 : decode cX8_turns 81 = .ok (.invokestatic 83, 3) := by decide +kernel
theorem dX8_turns_84 : decode cX8_turns 84 = .ok (.ldiv, 1) := by decide +kernel
theorem dX8_turns_85 : decode cX8_turns 85 = .ok (.goto 16, 3) := by decide +kernel
theorem dX8_turns_88 : decode cX8_turns 88 = .ok (.aload_n 0, 1) := by decide +kernel
theorem dX8_turns_89 : decode cX8_turns 89 = .ok (.getfield 13, 3) := by decide +kernel
theorem dX8_turns_92 : decode cX8_turns 92 = .ok (.iconst 3, 1) := by decide +kernel
theorem dX8_turns_93 : decode cX8_turns 93 = .ok (.laload, 1) := by decide +kernel
theorem dX8_turns_94 : decode cX8_turns 94 = .ok (.lload_n 1, 1) := by decide +kernel
theorem dX8_turns_95 : decode cX8_turns 95 = .ok (.iload 7, 2) := by decide +kernel
theorem dX8_turns_97 : decode cX8_turns 97 = .ok (.invokestatic 83, 3) := by decide +kernel
theorem dX8_turns_100 : decode cX8_turns 100 = .ok (.ldiv, 1) := by decide +kernel
theorem dX8_turns_101 : decode cX8_turns 101 = .ok (.lstore 10, 2) := by decide +kernel
theorem dX8_turns_103 : decode cX8_turns 103 = .ok (.iload 6, 2) := by decide +kernel
theorem dX8_turns_105 : decode cX8_turns 105 = .ok (.ifCond .eq 22, 3) := by decide +kernel
theorem dX8_turns_108 : decode cX8_turns 108 = .ok (.aload_n 0, 1) := by decide +kernel
theorem dX8_turns_109 : decode cX8_turns 109 = .ok (.getfield 13, 3) := by decide +kernel
theorem dX8_turns_112 : decode cX8_turns 112 = .ok (.iconst 4, 1) := by decide +kernel
theorem dX8_turns_113 : decode cX8_turns 113 = .ok (.laload, 1) := by decide +kernel
theorem dX8_turns_114 : decode cX8_turns 114 = .ok (.lload_n 1, 1) := by decide +kernel
theorem dX8_turns_115 : decode cX8_turns 115 = .ok (.iconst 2, 1) := by decide +kernel
theorem dX8_turns_116 : decode cX8_turns 116 = .ok (.iload 7, 2) := by decide +kernel
theorem dX8_turns_118 : decode cX8_turns 118 = .ok (.imul, 1) := by decide +kernel
theorem dX8_turns_119 : decode cX8_turns 119 = .ok (.invokestatic 83, 3) := by decide +kernel
theorem dX8_turns_122 : decode cX8_turns 122 = .ok (.ldiv, 1) := by decide +kernel
theorem dX8_turns_123 : decode cX8_turns 123 = .ok (.lneg, 1) := by decide +kernel
theorem dX8_turns_124 : decode cX8_turns 124 = .ok (.goto 20, 3) := by decide +kernel
theorem dX8_turns_127 : decode cX8_turns 127 = .ok (.aload_n 0, 1) := by decide +kernel
theorem dX8_turns_128 : decode cX8_turns 128 = .ok (.getfield 13, 3) := by decide +kernel
theorem dX8_turns_131 : decode cX8_turns 131 = .ok (.iconst 4, 1) := by decide +kernel
theorem dX8_turns_132 : decode cX8_turns 132 = .ok (.laload, 1) := by decide +kernel
theorem dX8_turns_133 : decode cX8_turns 133 = .ok (.lload_n 1, 1) := by decide +kernel
theorem dX8_turns_134 : decode cX8_turns 134 = .ok (.iconst 2, 1) := by decide +kernel
theorem dX8_turns_135 : decode cX8_turns 135 = .ok (.iload 7, 2) := by decide +kernel
theorem dX8_turns_137 : decode cX8_turns 137 = .ok (.imul, 1) := by decide +kernel
theorem dX8_turns_138 : decode cX8_turns 138 = .ok (.iconst 1, 1) := by decide +kernel
theorem dX8_turns_139 : decode cX8_turns 139 = .ok (.isub, 1) := by decide +kernel
theorem dX8_turns_140 : decode cX8_turns 140 = .ok (.invokestatic 83, 3) := by decide +kernel
theorem dX8_turns_143 : decode cX8_turns 143 = .ok (.ldiv, 1) := by decide +kernel
theorem dX8_turns_144 : decode cX8_turns 144 = .ok (.lstore 12, 2) := by decide +kernel
theorem dX8_turns_146 : decode cX8_turns 146 = .ok (.lload 8, 2) := by decide +kernel
theorem dX8_turns_148 : decode cX8_turns 148 = .ok (.lload_n 1, 1) := by decide +kernel
theorem dX8_turns_149 : decode cX8_turns 149 = .ok (.invokestatic 138, 3) := by decide +kernel
theorem dX8_turns_152 : decode cX8_turns 152 = .ok (.lstore 8, 2) := by decide +kernel
theorem dX8_turns_154 : decode cX8_turns 154 = .ok (.lload 10, 2) := by decide +kernel
theorem dX8_turns_156 : decode cX8_turns 156 = .ok (.lload_n 1, 1) := by decide +kernel
theorem dX8_turns_157 : decode cX8_turns 157 = .ok (.invokestatic 138, 3) := by decide +kernel
theorem dX8_turns_160 : decode cX8_turns 160 = .ok (.lstore 10, 2) := by decide +kernel
theorem dX8_turns_162 : decode cX8_turns 162 = .ok (.lload 12, 2) := by decide +kernel
theorem dX8_turns_164 : decode cX8_turns 164 = .ok (.lload_n 1, 1) := by decide +kernel
theorem dX8_turns_165 : decode cX8_turns 165 = .ok (.invokestatic 138, 3) := by decide +kernel
theorem dX8_turns_168 : decode cX8_turns 168 = .ok (.lstore 12, 2) := by decide +kernel
theorem dX8_turns_170 : decode cX8_turns 170 = .ok (.lload_n 1, 1) := by decide +kernel
theorem dX8_turns_171 : decode cX8_turns 171 = .ok (.lload 8, 2) := by decide +kernel
theorem dX8_turns_173 : decode cX8_turns 173 = .ok (.lload 10, 2) := by decide +kernel
theorem dX8_turns_175 : decode cX8_turns 175 = .ok (.lload 12, 2) := by decide +kernel
theorem dX8_turns_177 : decode cX8_turns 177 = .ok (.invokestatic 205, 3) := by decide +kernel
theorem dX8_turns_180 : decode cX8_turns 180 = .ok (.istore 5, 2) := by decide +kernel
theorem dX8_turns_182 : decode cX8_turns 182 = .ok (.aload_n 0, 1) := by decide +kernel
theorem dX8_turns_183 : decode cX8_turns 183 = .ok (.lload_n 1, 1) := by decide +kernel
theorem dX8_turns_184 : decode cX8_turns 184 = .ok (.lload 8, 2) := by decide +kernel
theorem dX8_turns_186 : decode cX8_turns 186 = .ok (.lload 10, 2) := by decide +kernel
theorem dX8_turns_188 : decode cX8_turns 188 = .ok (.lload 12, 2) := by decide +kernel
theorem dX8_turns_190 : decode cX8_turns 190 = .ok (.invokevirtual 209, 3) := by decide +kernel
theorem dX8_turns_193 : decode cX8_turns 193 = .ok (.istore 14, 2) := by decide +kernel
theorem dX8_turns_195 : decode cX8_turns 195 = .ok (.iload 5, 2) := by decide +kernel
theorem dX8_turns_197 : decode cX8_turns 197 = .ok (.ifCond .eq 35, 3) := by decide +kernel
theorem dX8_turns_200 : decode cX8_turns 200 = .ok (.aload_n 0, 1) := by decide +kernel
theorem dX8_turns_201 : decode cX8_turns 201 = .ok (.bipush 6, 2) := by decide +kernel
theorem dX8_turns_203 : decode cX8_turns 203 = .ok (.iload 4, 2) := by decide +kernel
theorem dX8_turns_205 : decode cX8_turns 205 = .ok (.iload_n 3, 1) := by decide +kernel
theorem dX8_turns_206 : decode cX8_turns 206 = .ok (.iconst 4, 1) := by decide +kernel
theorem dX8_turns_207 : decode cX8_turns 207 = .ok (.isub, 1) := by decide +kernel
theorem dX8_turns_208 : decode cX8_turns 208 = .ok (.iload 4, 2) := by decide +kernel
theorem dX8_turns_210 : decode cX8_turns 210 = .ok (.isub, 1) := by decide +kernel
theorem dX8_turns_211 : decode cX8_turns 211 = .ok (.iconst 5, 1) := by decide +kernel
theorem dX8_turns_212 : decode cX8_turns 212 = .ok (.iload 4, 2) := by decide +kernel
theorem dX8_turns_214 : decode cX8_turns 214 = .ok (.iadd, 1) := by decide +kernel
theorem dX8_turns_215 : decode cX8_turns 215 = .ok (.iload 14, 2) := by decide +kernel
theorem dX8_turns_217 : decode cX8_turns 217 = .ok (.ifCond .le 7, 3) := by decide +kernel
theorem dX8_turns_220 : decode cX8_turns 220 = .ok (.iconst 4, 1) := by decide +kernel
theorem dX8_turns_221 : decode cX8_turns 221 = .ok (.goto 4, 3) := by decide +kernel
theorem dX8_turns_224 : decode cX8_turns 224 = .ok (.iconst 2, 1) := by decide +kernel
theorem dX8_turns_225 : decode cX8_turns 225 = .ok (.iload_n 3, 1) := by decide +kernel
theorem dX8_turns_226 : decode cX8_turns 226 = .ok (.invokevirtual 164, 3) := by decide +kernel
theorem dX8_turns_229 : decode cX8_turns 229 = .ok (.goto 53, 3) := by decide +kernel
theorem dX8_turns_232 : decode cX8_turns 232 = .ok (.aload_n 0, 1) := by decide +kernel
theorem dX8_turns_233 : decode cX8_turns 233 = .ok (.iload 6, 2) := by decide +kernel
theorem dX8_turns_235 : decode cX8_turns 235 = .ok (.ifCond .eq 7, 3) := by decide +kernel
theorem dX8_turns_238 : decode cX8_turns 238 = .ok (.lconst 0, 1) := by decide +kernel
theorem dX8_turns_239 : decode cX8_turns 239 = .ok (.goto 16, 3) := by decide +kernel
theorem dX8_turns_242 : decode cX8_turns 242 = .ok (.aload_n 0, 1) := by decide +kernel
theorem dX8_turns_243 : decode cX8_turns 243 = .ok (.getfield 183, 3) := by decide +kernel
theorem dX8_turns_246 : decode cX8_turns 246 = .ok (.lload_n 1, 1) := by decide +kernel
theorem dX8_turns_247 : decode cX8_turns 247 = .ok (.iload 7, 2) := by decide +kernel
theorem dX8_turns_249 : decode cX8_turns 249 = .ok (.iconst 1, 1) := by decide +kernel
theorem dX8_turns_250 : decode cX8_turns 250 = .ok (.isub, 1) := by decide +kernel
theorem dX8_turns_251 : decode cX8_turns 251 = .ok (.invokestatic 83, 3) := by decide +kernel
theorem dX8_turns_254 : decode cX8_turns 254 = .ok (.lmul, 1) := by decide +kernel
theorem dX8_turns_255 : decode cX8_turns 255 = .ok (.lconst 0, 1) := by decide +kernel
theorem dX8_turns_256 : decode cX8_turns 256 = .ok (.iload 6, 2) := by decide +kernel
theorem dX8_turns_258 : decode cX8_turns 258 = .ok (.ifCond .eq 17, 3) := by decide +kernel
theorem dX8_turns_261 : decode cX8_turns 261 = .ok (.aload_n 0, 1) := by decide +kernel
theorem dX8_turns_262 : decode cX8_turns 262 = .ok (.getfield 183, 3) := by decide +kernel
theorem dX8_turns_265 : decode cX8_turns 265 = .ok (.lload_n 1, 1) := by decide +kernel
theorem dX8_turns_266 : decode cX8_turns 266 = .ok (.iload 7, 2) := by decide +kernel
theorem dX8_turns_268 : decode cX8_turns 268 = .ok (.invokestatic 83, 3) := by decide +kernel
theorem dX8_turns_271 : decode cX8_turns 271 = .ok (.lmul, 1) := by decide +kernel
theorem dX8_turns_272 : decode cX8_turns 272 = .ok (.goto 4, 3) := by decide +kernel
theorem dX8_turns_275 : decode cX8_turns 275 = .ok (.lconst 0, 1) := by decide +kernel
theorem dX8_turns_276 : decode cX8_turns 276 = .ok (.invokevirtual 124, 3) := by decide +kernel
theorem dX8_turns_279 : decode cX8_turns 279 = .ok (.iinc 4 1, 3) := by decide +kernel
theorem dX8_turns_282 : decode cX8_turns 282 = .ok (.goto (-276), 3) := by decide +kernel
theorem dX8_turns_285 : decode cX8_turns 285 = .ok (.return_, 1) := by decide +kernel
theorem dX8_splits_0 : decode cX8_splits 0 = .ok (.aload_n 0, 1) := by decide +kernel
theorem dX8_splits_1 : decode cX8_splits 1 = .ok (.lload_n 1, 1) := by decide +kernel
theorem dX8_splits_2 : decode cX8_splits 2 = .ok (.lconst 1, 1) := by decide +kernel
theorem dX8_splits_3 : decode cX8_splits 3 = .ok (.aload_n 0, 1) := by decide +kernel
theorem dX8_splits_4 : decode cX8_splits 4 = .ok (.getfield 13, 3) := by decide +kernel
theorem dX8_splits_7 : decode cX8_splits 7 = .ok (.iconst 0, 1) := by decide +kernel
theorem dX8_splits_8 : decode cX8_splits 8 = .ok (.laload, 1) := by decide +kernel
theorem dX8_splits_9 : decode cX8_splits 9 = .ok (.lload_n 1, 1) := by decide +kernel
theorem dX8_splits_10 : decode cX8_splits 10 = .ok (.invokestatic 138, 3) := by decide +kernel
theorem dX8_splits_13 : decode cX8_splits 13 = .ok (.aload_n 0, 1) := by decide +kernel
theorem dX8_splits_14 : decode cX8_splits 14 = .ok (.getfield 13, 3) := by decide +kernel
theorem dX8_splits_17 : decode cX8_splits 17 = .ok (.iconst 1, 1) := by decide +kernel
theorem dX8_splits_18 : decode cX8_splits 18 = .ok (.laload, 1) := by decide +kernel
theorem dX8_splits_19 : decode cX8_splits 19 = .ok (.lneg, 1) := by decide +kernel
theorem dX8_splits_20 : decode cX8_splits 20 = .ok (.lload_n 1, 1) := by decide +kernel
theorem dX8_splits_21 : decode cX8_splits 21 = .ok (.invokestatic 138, 3) := by decide +kernel
theorem dX8_splits_24 : decode cX8_splits 24 = .ok (.invokevirtual 209, 3) := by decide +kernel
theorem dX8_splits_27 : decode cX8_splits 27 = .ok (.ifCond .le 7, 3) := by decide +kernel
theorem dX8_splits_30 : decode cX8_splits 30 = .ok (.iconst 1, 1) := by decide +kernel
theorem dX8_splits_31 : decode cX8_splits 31 = .ok (.goto 4, 3) := by decide +kernel
theorem dX8_splits_34 : decode cX8_splits 34 = .ok (.iconst 0, 1) := by decide +kernel
theorem dX8_splits_35 : decode cX8_splits 35 = .ok (.ireturn, 1) := by decide +kernel
theorem dX8_falls_0 : decode cX8_falls 0 = .ok (.lload_n 1, 1) := by decide +kernel
theorem dX8_falls_1 : decode cX8_falls 1 = .ok (.aload_n 0, 1) := by decide +kernel
theorem dX8_falls_2 : decode cX8_falls 2 = .ok (.invokevirtual 87, 3) := by decide +kernel
theorem dX8_falls_5 : decode cX8_falls 5 = .ok (.invokestatic 152, 3) := by decide +kernel
theorem dX8_falls_8 : decode cX8_falls 8 = .ok (.istore_n 3, 1) := by decide +kernel
theorem dX8_falls_9 : decode cX8_falls 9 = .ok (.iload_n 3, 1) := by decide +kernel
theorem dX8_falls_10 : decode cX8_falls 10 = .ok (.ifCond .ne 15, 3) := by decide +kernel
theorem dX8_falls_13 : decode cX8_falls 13 = .ok (.aload_n 0, 1) := by decide +kernel
theorem dX8_falls_14 : decode cX8_falls 14 = .ok (.iconst 0, 1) := by decide +kernel
theorem dX8_falls_15 : decode cX8_falls 15 = .ok (.iconst 0, 1) := by decide +kernel
theorem dX8_falls_16 : decode cX8_falls 16 = .ok (.iconst 0, 1) := by decide +kernel
theorem dX8_falls_17 : decode cX8_falls 17 = .ok (.iconst 1, 1) := by decide +kernel
theorem dX8_falls_18 : decode cX8_falls 18 = .ok (.iconst 1, 1) := by decide +kernel
theorem dX8_falls_19 : decode cX8_falls 19 = .ok (.iconst 0, 1) := by decide +kernel
theorem dX8_falls_20 : decode cX8_falls 20 = .ok (.invokevirtual 164, 3) := by decide +kernel
theorem dX8_falls_23 : decode cX8_falls 23 = .ok (.iconst 1, 1) := by decide +kernel
theorem dX8_falls_24 : decode cX8_falls 24 = .ok (.ireturn, 1) := by decide +kernel
theorem dX8_falls_25 : decode cX8_falls 25 = .ok (.aload_n 0, 1) := by decide +kernel
theorem dX8_falls_26 : decode cX8_falls 26 = .ok (.lload_n 1, 1) := by decide +kernel
theorem dX8_falls_27 : decode cX8_falls 27 = .ok (.invokevirtual 213, 3) := by decide +kernel
theorem dX8_falls_30 : decode cX8_falls 30 = .ok (.aload_n 0, 1) := by decide +kernel
theorem dX8_falls_31 : decode cX8_falls 31 = .ok (.invokevirtual 52, 3) := by decide +kernel
theorem dX8_falls_34 : decode cX8_falls 34 = .ok (.lload_n 1, 1) := by decide +kernel
theorem dX8_falls_35 : decode cX8_falls 35 = .ok (.lrem, 1) := by decide +kernel
theorem dX8_falls_36 : decode cX8_falls 36 = .ok (.lconst 0, 1) := by decide +kernel
theorem dX8_falls_37 : decode cX8_falls 37 = .ok (.lcmp, 1) := by decide +kernel
theorem dX8_falls_38 : decode cX8_falls 38 = .ok (.ifCond .eq 58, 3) := by decide +kernel
theorem dX8_falls_41 : decode cX8_falls 41 = .ok (.aload_n 0, 1) := by decide +kernel
theorem dX8_falls_42 : decode cX8_falls 42 = .ok (.lload_n 1, 1) := by decide +kernel
theorem dX8_falls_43 : decode cX8_falls 43 = .ok (.invokevirtual 217, 3) := by decide +kernel
theorem dX8_falls_46 : decode cX8_falls 46 = .ok (.istore 4, 2) := by decide +kernel
theorem dX8_falls_48 : decode cX8_falls 48 = .ok (.aload_n 0, 1) := by decide +kernel
theorem dX8_falls_49 : decode cX8_falls 49 = .ok (.iconst 1, 1) := by decide +kernel
theorem dX8_falls_50 : decode cX8_falls 50 = .ok (.iload_n 3, 1) := by decide +kernel
theorem dX8_falls_51 : decode cX8_falls 51 = .ok (.iconst 1, 1) := by decide +kernel
theorem dX8_falls_52 : decode cX8_falls 52 = .ok (.iload_n 3, 1) := by decide +kernel
theorem dX8_falls_53 : decode cX8_falls 53 = .ok (.iload 4, 2) := by decide +kernel
theorem dX8_falls_55 : decode cX8_falls 55 = .ok (.ifCond .eq 7, 3) := by decide +kernel
theorem dX8_falls_58 : decode cX8_falls 58 = .ok (.iload_n 3, 1) := by decide +kernel
theorem dX8_falls_59 : decode cX8_falls 59 = .ok (.goto 14, 3) := by decide +kernel
theorem dX8_falls_62 : decode cX8_falls 62 = .ok (.iload_n 3, 1) := by decide +kernel
theorem dX8_falls_63 : decode cX8_falls 63 = .ok (.iconst 2, 1) := by decide +kernel
theorem dX8_falls_64 : decode cX8_falls 64 = .ok (.irem, 1) := by decide +kernel
theorem dX8_falls_65 : decode cX8_falls 65 = .ok (.ifCond .ne 7, 3) := by decide +kernel
theorem dX8_falls_68 : decode cX8_falls 68 = .ok (.iconst 2, 1) := by decide +kernel
theorem dX8_falls_69 : decode cX8_falls 69 = .ok (.goto 4, 3) := by decide +kernel
theorem dX8_falls_72 : decode cX8_falls 72 = .ok (.iconst 1, 1) := by decide +kernel
theorem dX8_falls_73 : decode cX8_falls 73 = .ok (.iload_n 3, 1) := by decide +kernel
theorem dX8_falls_74 : decode cX8_falls 74 = .ok (.invokevirtual 164, 3) := by decide +kernel
theorem dX8_falls_77 : decode cX8_falls 77 = .ok (.aload_n 0, 1) := by decide +kernel
theorem dX8_falls_78 : decode cX8_falls 78 = .ok (.getfield 22, 3) := by decide +kernel
theorem dX8_falls_81 : decode cX8_falls 81 = .ok (.bipush 6, 2) := by decide +kernel
theorem dX8_falls_83 : decode cX8_falls 83 = .ok (.iload 4, 2) := by decide +kernel
theorem dX8_falls_85 : decode cX8_falls 85 = .ok (.ifCond .eq 7, 3) := by decide +kernel
theorem dX8_falls_88 : decode cX8_falls 88 = .ok (.iconst 1, 1) := by decide +kernel
theorem dX8_falls_89 : decode cX8_falls 89 = .ok (.goto 4, 3) := by decide +kernel
theorem dX8_falls_92 : decode cX8_falls 92 = .ok (.iconst 0, 1) := by decide +kernel
theorem dX8_falls_93 : decode cX8_falls 93 = .ok (.iastore, 1) := by decide +kernel
theorem dX8_falls_94 : decode cX8_falls 94 = .ok (.iconst 1, 1) := by decide +kernel
theorem dX8_falls_95 : decode cX8_falls 95 = .ok (.ireturn, 1) := by decide +kernel
theorem dX8_falls_96 : decode cX8_falls 96 = .ok (.aload_n 0, 1) := by decide +kernel
theorem dX8_falls_97 : decode cX8_falls 97 = .ok (.lload_n 1, 1) := by decide +kernel
theorem dX8_falls_98 : decode cX8_falls 98 = .ok (.iconst 4, 1) := by decide +kernel
theorem dX8_falls_99 : decode cX8_falls 99 = .ok (.iconst 2, 1) := by decide +kernel
theorem dX8_falls_100 : decode cX8_falls 100 = .ok (.invokevirtual 187, 3) := by decide +kernel
theorem dX8_falls_103 : decode cX8_falls 103 = .ok (.ifCond .ne 16, 3) := by decide +kernel
theorem dX8_falls_106 : decode cX8_falls 106 = .ok (.aload_n 0, 1) := by decide +kernel
theorem dX8_falls_107 : decode cX8_falls 107 = .ok (.iconst 2, 1) := by decide +kernel
theorem dX8_falls_108 : decode cX8_falls 108 = .ok (.iconst 0, 1) := by decide +kernel
theorem dX8_falls_109 : decode cX8_falls 109 = .ok (.iload_n 3, 1) := by decide +kernel
theorem dX8_falls_110 : decode cX8_falls 110 = .ok (.iconst 1, 1) := by decide +kernel
theorem dX8_falls_111 : decode cX8_falls 111 = .ok (.iconst 1, 1) := by decide +kernel
theorem dX8_falls_112 : decode cX8_falls 112 = .ok (.iload_n 3, 1) := by decide +kernel
theorem dX8_falls_113 : decode cX8_falls 113 = .ok (.invokevirtual 164, 3) := by decide +kernel
theorem dX8_falls_116 : decode cX8_falls 116 = .ok (.goto 110, 3) := by decide +kernel
theorem dX8_falls_119 : decode cX8_falls 119 = .ok (.aload_n 0, 1) := by decide +kernel
theorem dX8_falls_120 : decode cX8_falls 120 = .ok (.invokevirtual 70, 3) := by decide +kernel
theorem dX8_falls_123 : decode cX8_falls 123 = .ok (.lload_n 1, 1) := by decide +kernel
theorem dX8_falls_124 : decode cX8_falls 124 = .ok (.iconst 3, 1) := by decide +kernel
theorem dX8_falls_125 : decode cX8_falls 125 = .ok (.invokestatic 83, 3) := by decide +kernel
theorem dX8_falls_128 : decode cX8_falls 128 = .ok (.lrem, 1) := by decide +kernel
theorem dX8_falls_129 : decode cX8_falls 129 = .ok (.lconst 0, 1) := by decide +kernel
theorem dX8_falls_130 : decode cX8_falls 130 = .ok (.lcmp, 1) := by decide +kernel
theorem dX8_falls_131 : decode cX8_falls 131 = .ok (.ifCond .eq 18, 3) := by decide +kernel
theorem dX8_falls_134 : decode cX8_falls 134 = .ok (.aload_n 0, 1) := by decide +kernel
theorem dX8_falls_135 : decode cX8_falls 135 = .ok (.iconst 3, 1) := by decide +kernel
theorem dX8_falls_136 : decode cX8_falls 136 = .ok (.iconst 0, 1) := by decide +kernel
theorem dX8_falls_137 : decode cX8_falls 137 = .ok (.iload_n 3, 1) := by decide +kernel
theorem dX8_falls_138 : decode cX8_falls 138 = .ok (.iconst 1, 1) := by decide +kernel
theorem dX8_falls_139 : decode cX8_falls 139 = .ok (.isub, 1) := by decide +kernel
theorem dX8_falls_140 : decode cX8_falls 140 = .ok (.iconst 2, 1) := by decide +kernel
theorem dX8_falls_141 : decode cX8_falls 141 = .ok (.iconst 2, 1) := by decide +kernel
theorem dX8_falls_142 : decode cX8_falls 142 = .ok (.iload_n 3, 1) := by decide +kernel
theorem dX8_falls_143 : decode cX8_falls 143 = .ok (.invokevirtual 164, 3) := by decide +kernel
theorem dX8_falls_146 : decode cX8_falls 146 = .ok (.goto 80, 3) := by decide +kernel
theorem dX8_falls_149 : decode cX8_falls 149 = .ok (.aload_n 0, 1) := by decide +kernel
theorem dX8_falls_150 : decode cX8_falls 150 = .ok (.invokevirtual 65, 3) := by decide +kernel
theorem dX8_falls_153 : decode cX8_falls 153 = .ok (.lload_n 1, 1) := by decide +kernel
theorem dX8_falls_154 : decode cX8_falls 154 = .ok (.iconst 3, 1) := by decide +kernel
theorem dX8_falls_155 : decode cX8_falls 155 = .ok (.invokestatic 83, 3) := by decide +kernel
theorem dX8_falls_158 : decode cX8_falls 158 = .ok (.lrem, 1) := by decide +kernel
theorem dX8_falls_159 : decode cX8_falls 159 = .ok (.lconst 0, 1) := by decide +kernel
theorem dX8_falls_160 : decode cX8_falls 160 = .ok (.lcmp, 1) := by decide +kernel
theorem dX8_falls_161 : decode cX8_falls 161 = .ok (.ifCond .eq 58, 3) := by decide +kernel
theorem dX8_falls_164 : decode cX8_falls 164 = .ok (.aload_n 0, 1) := by decide +kernel
theorem dX8_falls_165 : decode cX8_falls 165 = .ok (.iconst 4, 1) := by decide +kernel
theorem dX8_falls_166 : decode cX8_falls 166 = .ok (.iconst 0, 1) := by decide +kernel
theorem dX8_falls_167 : decode cX8_falls 167 = .ok (.iload_n 3, 1) := by decide +kernel
theorem dX8_falls_168 : decode cX8_falls 168 = .ok (.iconst 2, 1) := by decide +kernel
theorem dX8_falls_169 : decode cX8_falls 169 = .ok (.isub, 1) := by decide +kernel
theorem dX8_falls_170 : decode cX8_falls 170 = .ok (.iconst 3, 1) := by decide +kernel
theorem dX8_falls_171 : decode cX8_falls 171 = .ok (.aload_n 0, 1) := by decide +kernel
theorem dX8_falls_172 : decode cX8_falls 172 = .ok (.lload_n 1, 1) := by decide +kernel
theorem dX8_falls_173 : decode cX8_falls 173 = .ok (.lconst 1, 1) := by decide +kernel
theorem dX8_falls_174 : decode cX8_falls 174 = .ok (.aload_n 0, 1) := by decide +kernel
theorem dX8_falls_175 : decode cX8_falls 175 = .ok (.getfield 13, 3) := by decide +kernel
theorem dX8_falls_178 : decode cX8_falls 178 = .ok (.iconst 2, 1) := by decide +kernel
theorem dX8_falls_179 : decode cX8_falls 179 = .ok (.laload, 1) := by decide +kernel
theorem dX8_falls_180 : decode cX8_falls 180 = .ok (.lload_n 1, 1) := by decide +kernel
theorem dX8_falls_181 : decode cX8_falls 181 = .ok (.ldiv, 1) := by decide +kernel
theorem dX8_falls_182 : decode cX8_falls 182 = .ok (.lload_n 1, 1) := by decide +kernel
theorem dX8_falls_183 : decode cX8_falls 183 = .ok (.invokestatic 138, 3) := by decide +kernel
theorem dX8_falls_186 : decode cX8_falls 186 = .ok (.aload_n 0, 1) := by decide +kernel
theorem dX8_falls_187 : decode cX8_falls 187 = .ok (.getfield 13, 3) := by decide +kernel
theorem dX8_falls_190 : decode cX8_falls 190 = .ok (.iconst 4, 1) := by decide +kernel
theorem dX8_falls_191 : decode cX8_falls 191 = .ok (.laload, 1) := by decide +kernel
theorem dX8_falls_192 : decode cX8_falls 192 = .ok (.lload_n 1, 1) := by decide +kernel
theorem dX8_falls_193 : decode cX8_falls 193 = .ok (.lload_n 1, 1) := by decide +kernel
theorem dX8_falls_194 : decode cX8_falls 194 = .ok (.lmul, 1) := by decide +kernel
theorem dX8_falls_195 : decode cX8_falls 195 = .ok (.ldiv, 1) := by decide +kernel
theorem dX8_falls_196 : decode cX8_falls 196 = .ok (.lneg, 1) := by decide +kernel
theorem dX8_falls_197 : decode cX8_falls 197 = .ok (.lload_n 1, 1) := by decide +kernel
theorem dX8_falls_198 : decode cX8_falls 198 = .ok (.invokestatic 138, 3) := by decide +kernel
theorem dX8_falls_201 : decode cX8_falls 201 = .ok (.invokevirtual 209, 3) := by decide +kernel
theorem dX8_falls_204 : decode cX8_falls 204 = .ok (.ifCond .le 7, 3) := by decide +kernel
theorem dX8_falls_207 : decode cX8_falls 207 = .ok (.iconst 3, 1) := by decide +kernel
theorem dX8_falls_208 : decode cX8_falls 208 = .ok (.goto 4, 3) := by decide +kernel
theorem dX8_falls_211 : decode cX8_falls 211 = .ok (.iconst 1, 1) := by decide +kernel
theorem dX8_falls_212 : decode cX8_falls 212 = .ok (.iload_n 3, 1) := by decide +kernel
