theorem dX7_best_50 : decode cX7_best 50 = .ok (.iload_n 1, 1) := by decide +kernel
theorem dX7_best_51 : decode cX7_best 51 = .ok (.iload 8, 2) := by decide +kernel
theorem dX7_best_53 : decode cX7_best 53 = .ok (.invokevirtual 192, 3) := by decide +kernel
theorem dX7_best_56 : decode cX7_best 56 = .ok (.lstore 9, 2) := by decide +kernel
theorem dX7_best_58 : decode cX7_best 58 = .ok (.iload_n 2, 1) := by decide +kernel
theorem dX7_best_59 : decode cX7_best 59 = .ok (.ifCond .eq 10, 3) := by decide +kernel
theorem dX7_best_62 : decode cX7_best 62 = .ok (.lload 9, 2) := by decide +kernel
theorem dX7_best_64 : decode cX7_best 64 = .ok (.lload_n 3, 1) := by decide +kernel
theorem dX7_best_65 : decode cX7_best 65 = .ok (.lcmp, 1) := by decide +kernel
theorem dX7_best_66 : decode cX7_best 66 = .ok (.ifCond .ge 9, 3) := by decide +kernel
theorem dX7_best_69 : decode cX7_best 69 = .ok (.iload 8, 2) := by decide +kernel
theorem dX7_best_71 : decode cX7_best 71 = .ok (.istore_n 2, 1) := by decide +kernel
theorem dX7_best_72 : decode cX7_best 72 = .ok (.lload 9, 2) := by decide +kernel
theorem dX7_best_74 : decode cX7_best 74 = .ok (.lstore_n 3, 1) := by decide +kernel
theorem dX7_best_75 : decode cX7_best 75 = .ok (.iinc 7 1, 3) := by decide +kernel
theorem dX7_best_78 : decode cX7_best 78 = .ok (.goto (-43), 3) := by decide +kernel
theorem dX7_best_81 : decode cX7_best 81 = .ok (.iload_n 2, 1) := by decide +kernel
theorem dX7_best_82 : decode cX7_best 82 = .ok (.ireturn, 1) := by decide +kernel
theorem dX7_twisted_0 : decode cX7_twisted 0 = .ok (.aload_n 0, 1) := by decide +kernel
theorem dX7_twisted_1 : decode cX7_twisted 1 = .ok (.iload_n 1, 1) := by decide +kernel
theorem dX7_twisted_2 : decode cX7_twisted 2 = .ok (.invokevirtual 68, 3) := by decide +kernel
theorem dX7_twisted_5 : decode cX7_twisted 5 = .ok (.ifCond .eq 23, 3) := by decide +kernel
theorem dX7_twisted_8 : decode cX7_twisted 8 = .ok (.aload_n 0, 1) := by decide +kernel
theorem dX7_twisted_9 : decode cX7_twisted 9 = .ok (.iload_n 1, 1) := by decide +kernel
theorem dX7_twisted_10 : decode cX7_twisted 10 = .ok (.invokevirtual 118, 3) := by decide +kernel
theorem dX7_twisted_13 : decode cX7_twisted 13 = .ok (.ifCond .eq 15, 3) := by decide +kernel
theorem dX7_twisted_16 : decode cX7_twisted 16 = .ok (.iload_n 2, 1) := by decide +kernel
theorem dX7_twisted_17 : decode cX7_twisted 17 = .ok (.iconst 1, 1) := by decide +kernel
theorem dX7_twisted_18 : decode cX7_twisted 18 = .ok (.if_icmp .eq 12, 3) := by decide +kernel
theorem dX7_twisted_21 : decode cX7_twisted 21 = .ok (.iload_n 2, 1) := by decide +kernel
theorem dX7_twisted_22 : decode cX7_twisted 22 = .ok (.invokestatic 115, 3) := by decide +kernel
theorem dX7_twisted_25 : decode cX7_twisted 25 = .ok (.ifCond .ne 5, 3) := by decide +kernel
theorem dX7_twisted_28 : decode cX7_twisted 28 = .ok (.lconst 0, 1) := by decide +kernel
theorem dX7_twisted_29 : decode cX7_twisted 29 = .ok (.lreturn, 1) := by decide +kernel
theorem dX7_twisted_30 : decode cX7_twisted 30 = .ok (.aload_n 0, 1) := by decide +kernel
theorem dX7_twisted_31 : decode cX7_twisted 31 = .ok (.iload_n 1, 1) := by decide +kernel
theorem dX7_twisted_32 : decode cX7_twisted 32 = .ok (.iload_n 2, 1) := by decide +kernel
theorem dX7_twisted_33 : decode cX7_twisted 33 = .ok (.invokevirtual 192, 3) := by decide +kernel
theorem dX7_twisted_36 : decode cX7_twisted 36 = .ok (.lreturn, 1) := by decide +kernel
theorem dX7_small_0 : decode cX7_small 0 = .ok (.aload_n 0, 1) := by decide +kernel
theorem dX7_small_1 : decode cX7_small 1 = .ok (.iload_n 1, 1) := by decide +kernel
theorem dX7_small_2 : decode cX7_small 2 = .ok (.invokevirtual 68, 3) := by decide +kernel
theorem dX7_small_5 : decode cX7_small 5 = .ok (.ifCond .ne 5, 3) := by decide +kernel
theorem dX7_small_8 : decode cX7_small 8 = .ok (.iconst (-1), 1) := by decide +kernel
theorem dX7_small_9 : decode cX7_small 9 = .ok (.ireturn, 1) := by decide +kernel
theorem dX7_small_10 : decode cX7_small 10 = .ok (.aload_n 0, 1) := by decide +kernel
theorem dX7_small_11 : decode cX7_small 11 = .ok (.iload_n 1, 1) := by decide +kernel
theorem dX7_small_12 : decode cX7_small 12 = .ok (.invokevirtual 196, 3) := by decide +kernel
theorem dX7_small_15 : decode cX7_small 15 = .ok (.aload_n 0, 1) := by decide +kernel
theorem dX7_small_16 : decode cX7_small 16 = .ok (.getfield 37, 3) := by decide +kernel
theorem dX7_small_19 : decode cX7_small 19 = .ok (.getfield 200, 3) := by decide +kernel
theorem dX7_small_22 : decode cX7_small 22 = .ok (.ireturn, 1) := by decide +kernel
theorem dX7_point_0 : decode cX7_point 0 = .ok (.aload_n 0, 1) := by decide +kernel
theorem dX7_point_1 : decode cX7_point 1 = .ok (.iload_n 1, 1) := by decide +kernel
theorem dX7_point_2 : decode cX7_point 2 = .ok (.iload_n 2, 1) := by decide +kernel
theorem dX7_point_3 : decode cX7_point 3 = .ok (.invokevirtual 201, 3) := by decide +kernel
theorem dX7_point_6 : decode cX7_point 6 = .ok (.ifCond .eq 12, 3) := by decide +kernel
theorem dX7_point_9 : decode cX7_point 9 = .ok (.iload_n 3, 1) := by decide +kernel
theorem dX7_point_10 : decode cX7_point 10 = .ok (.ifCond .lt 8, 3) := by decide +kernel
theorem dX7_point_13 : decode cX7_point 13 = .ok (.iload_n 3, 1) := by decide +kernel
theorem dX7_point_14 : decode cX7_point 14 = .ok (.iconst 1, 1) := by decide +kernel
theorem dX7_point_15 : decode cX7_point 15 = .ok (.if_icmp .le 11, 3) := by decide +kernel
theorem dX7_point_18 : decode cX7_point 18 = .ok (.new 125, 3) := by decide +kernel
theorem dX7_point_21 : decode cX7_point 21 = .ok (.dup, 1) := by decide +kernel
theorem dX7_point_22 : decode cX7_point 22 = .ok (.invokespecial 127, 3) := by decide +kernel
theorem dX7_point_25 : decode cX7_point 25 = .ok (.athrow, 1) := by decide +kernel
theorem dX7_point_26 : decode cX7_point 26 = .ok (.iload_n 3, 1) := by decide +kernel
theorem dX7_point_27 : decode cX7_point 27 = .ok (.ifCond .ne 15, 3) := by decide +kernel
theorem dX7_point_30 : decode cX7_point 30 = .ok (.aload_n 0, 1) := by decide +kernel
theorem dX7_point_31 : decode cX7_point 31 = .ok (.getfield 37, 3) := by decide +kernel
theorem dX7_point_34 : decode cX7_point 34 = .ok (.getfield 205, 3) := by decide +kernel
theorem dX7_point_37 : decode cX7_point 37 = .ok (.iload_n 2, 1) := by decide +kernel
theorem dX7_point_38 : decode cX7_point 38 = .ok (.iaload, 1) := by decide +kernel
theorem dX7_point_39 : decode cX7_point 39 = .ok (.goto 12, 3) := by decide +kernel
theorem dX7_point_42 : decode cX7_point 42 = .ok (.aload_n 0, 1) := by decide +kernel
theorem dX7_point_43 : decode cX7_point 43 = .ok (.getfield 37, 3) := by decide +kernel
theorem dX7_point_46 : decode cX7_point 46 = .ok (.getfield 208, 3) := by decide +kernel
theorem dX7_point_49 : decode cX7_point 49 = .ok (.iload_n 2, 1) := by decide +kernel
theorem dX7_point_50 : decode cX7_point 50 = .ok (.iaload, 1) := by decide +kernel
theorem dX7_point_51 : decode cX7_point 51 = .ok (.ireturn, 1) := by decide +kernel
theorem dX7_minus_0 : decode cX7_minus 0 = .ok (.aload_n 0, 1) := by decide +kernel
theorem dX7_minus_1 : decode cX7_minus 1 = .ok (.iload_n 1, 1) := by decide +kernel
theorem dX7_minus_2 : decode cX7_minus 2 = .ok (.iload_n 2, 1) := by decide +kernel
theorem dX7_minus_3 : decode cX7_minus 3 = .ok (.invokevirtual 201, 3) := by decide +kernel
theorem dX7_minus_6 : decode cX7_minus 6 = .ok (.ifCond .eq 23, 3) := by decide +kernel
theorem dX7_minus_9 : decode cX7_minus 9 = .ok (.aload_n 0, 1) := by decide +kernel
theorem dX7_minus_10 : decode cX7_minus 10 = .ok (.getfield 37, 3) := by decide +kernel
theorem dX7_minus_13 : decode cX7_minus 13 = .ok (.aload_n 0, 1) := by decide +kernel
theorem dX7_minus_14 : decode cX7_minus 14 = .ok (.getfield 11, 3) := by decide +kernel
theorem dX7_minus_17 : decode cX7_minus 17 = .ok (.iload_n 1, 1) := by decide +kernel
theorem dX7_minus_18 : decode cX7_minus 18 = .ok (.aaload, 1) := by decide +kernel
theorem dX7_minus_19 : decode cX7_minus 19 = .ok (.getfield 72, 3) := by decide +kernel
theorem dX7_minus_22 : decode cX7_minus 22 = .ok (.iload_n 2, 1) := by decide +kernel
theorem dX7_minus_23 : decode cX7_minus 23 = .ok (.invokevirtual 211, 3) := by decide +kernel
theorem dX7_minus_26 : decode cX7_minus 26 = .ok (.goto 4, 3) := by decide +kernel
theorem dX7_minus_29 : decode cX7_minus 29 = .ok (.iconst (-1), 1) := by decide +kernel
theorem dX7_minus_30 : decode cX7_minus 30 = .ok (.ireturn, 1) := by decide +kernel
theorem dX7_count_0 : decode cX7_count 0 = .ok (.iload_n 1, 1) := by decide +kernel
theorem dX7_count_1 : decode cX7_count 1 = .ok (.tableswitch 53 0 3 #[31, 36, 41, 47], 31) := by decide +kernel
theorem dX7_count_32 : decode cX7_count 32 = .ok (.aload_n 0, 1) := by decide +kernel
theorem dX7_count_33 : decode cX7_count 33 = .ok (.getfield 16, 3) := by decide +kernel
theorem dX7_count_36 : decode cX7_count 36 = .ok (.ireturn, 1) := by decide +kernel
theorem dX7_count_37 : decode cX7_count 37 = .ok (.aload_n 0, 1) := by decide +kernel
theorem dX7_count_38 : decode cX7_count 38 = .ok (.invokevirtual 214, 3) := by decide +kernel
theorem dX7_count_41 : decode cX7_count 41 = .ok (.ireturn, 1) := by decide +kernel
theorem dX7_count_42 : decode cX7_count 42 = .ok (.aload_n 0, 1) := by decide +kernel
theorem dX7_count_43 : decode cX7_count 43 = .ok (.iconst 1, 1) := by decide +kernel
theorem dX7_count_44 : decode cX7_count 44 = .ok (.invokevirtual 217, 3) := by decide +kernel
theorem dX7_count_47 : decode cX7_count 47 = .ok (.ireturn, 1) := by decide +kernel
theorem dX7_count_48 : decode cX7_count 48 = .ok (.aload_n 0, 1) := by decide +kernel
theorem dX7_count_49 : decode cX7_count 49 = .ok (.iconst 0, 1) := by decide +kernel
theorem dX7_count_50 : decode cX7_count 50 = .ok (.invokevirtual 217, 3) := by decide +kernel
theorem dX7_count_53 : decode cX7_count 53 = .ok (.ireturn, 1) := by decide +kernel
theorem dX7_count_54 : decode cX7_count 54 = .ok (.iconst (-1), 1) := by decide +kernel
theorem dX7_count_55 : decode cX7_count 55 = .ok (.ireturn, 1) := by decide +kernel
theorem dX7_there_0 : decode cX7_there 0 = .ok (.iload_n 1, 1) := by decide +kernel
theorem dX7_there_1 : decode cX7_there 1 = .ok (.ifCond .lt 15, 3) := by decide +kernel
theorem dX7_there_4 : decode cX7_there 4 = .ok (.iload_n 1, 1) := by decide +kernel
theorem dX7_there_5 : decode cX7_there 5 = .ok (.aload_n 0, 1) := by decide +kernel
theorem dX7_there_6 : decode cX7_there 6 = .ok (.getfield 16, 3) := by decide +kernel
theorem dX7_there_9 : decode cX7_there 9 = .ok (.if_icmp .ge 7, 3) := by decide +kernel
theorem dX7_there_12 : decode cX7_there 12 = .ok (.iconst 1, 1) := by decide +kernel
theorem dX7_there_13 : decode cX7_there 13 = .ok (.goto 4, 3) := by decide +kernel
theorem dX7_there_16 : decode cX7_there 16 = .ok (.iconst 0, 1) := by decide +kernel
theorem dX7_there_17 : decode cX7_there 17 = .ok (.ireturn, 1) := by decide +kernel
theorem dX7_within_0 : decode cX7_within 0 = .ok (.lload_n 0, 1) := by decide +kernel
theorem dX7_within_1 : decode cX7_within 1 = .ok (.lload_n 2, 1) := by decide +kernel
theorem dX7_within_2 : decode cX7_within 2 = .ok (.lneg, 1) := by decide +kernel
theorem dX7_within_3 : decode cX7_within 3 = .ok (.lcmp, 1) := by decide +kernel
theorem dX7_within_4 : decode cX7_within 4 = .ok (.ifCond .lt 13, 3) := by decide +kernel
theorem dX7_within_7 : decode cX7_within 7 = .ok (.lload_n 0, 1) := by decide +kernel
theorem dX7_within_8 : decode cX7_within 8 = .ok (.lload_n 2, 1) := by decide +kernel
theorem dX7_within_9 : decode cX7_within 9 = .ok (.lcmp, 1) := by decide +kernel
theorem dX7_within_10 : decode cX7_within 10 = .ok (.ifCond .gt 7, 3) := by decide +kernel
theorem dX7_within_13 : decode cX7_within 13 = .ok (.iconst 1, 1) := by decide +kernel
theorem dX7_within_14 : decode cX7_within 14 = .ok (.goto 4, 3) := by decide +kernel
theorem dX7_within_17 : decode cX7_within 17 = .ok (.iconst 0, 1) := by decide +kernel
theorem dX7_within_18 : decode cX7_within 18 = .ok (.ireturn, 1) := by decide +kernel
theorem dX7_isCountedPrime_0 : decode cX7_isCountedPrime 0 = .ok (.iload_n 0, 1) := by decide +kernel
theorem dX7_isCountedPrime_1 : decode cX7_isCountedPrime 1 = .ok (.sipush 199, 3) := by decide +kernel
theorem dX7_isCountedPrime_4 : decode cX7_isCountedPrime 4 = .ok (.if_icmp .gt 14, 3) := by decide +kernel
theorem dX7_isCountedPrime_7 : decode cX7_isCountedPrime 7 = .ok (.iload_n 0, 1) := by decide +kernel
theorem dX7_isCountedPrime_8 : decode cX7_isCountedPrime 8 = .ok (.invokestatic 133, 3) := by decide +kernel
theorem dX7_isCountedPrime_11 : decode cX7_isCountedPrime 11 = .ok (.ifCond .eq 7, 3) := by decide +kernel
theorem dX7_isCountedPrime_14 : decode cX7_isCountedPrime 14 = .ok (.iconst 1, 1) := by decide +kernel
theorem dX7_isCountedPrime_15 : decode cX7_isCountedPrime 15 = .ok (.goto 4, 3) := by decide +kernel
theorem dX7_isCountedPrime_18 : decode cX7_isCountedPrime 18 = .ok (.iconst 0, 1) := by decide +kernel
theorem dX7_isCountedPrime_19 : decode cX7_isCountedPrime 19 = .ok (.ireturn, 1) := by decide +kernel
theorem dX7_keepDraft_0 : decode cX7_keepDraft 0 = .ok (.aload_n 0, 1) := by decide +kernel
theorem dX7_keepDraft_1 : decode cX7_keepDraft 1 = .ok (.getfield 16, 3) := by decide +kernel
theorem dX7_keepDraft_4 : decode cX7_keepDraft 4 = .ok (.bipush 16, 2) := by decide +kernel
theorem dX7_keepDraft_6 : decode cX7_keepDraft 6 = .ok (.if_icmp .ge 13, 3) := by decide +kernel
theorem dX7_keepDraft_9 : decode cX7_keepDraft 9 = .ok (.aload_n 0, 1) := by decide +kernel
theorem dX7_keepDraft_10 : decode cX7_keepDraft 10 = .ok (.getfield 23, 3) := by decide +kernel
theorem dX7_keepDraft_13 : decode cX7_keepDraft 13 = .ok (.invokevirtual 221, 3) := by decide +kernel
theorem dX7_keepDraft_16 : decode cX7_keepDraft 16 = .ok (.ifCond .ne 5, 3) := by decide +kernel
theorem dX7_keepDraft_19 : decode cX7_keepDraft 19 = .ok (.iconst (-1), 1) := by decide +kernel
theorem dX7_keepDraft_20 : decode cX7_keepDraft 20 = .ok (.ireturn, 1) := by decide +kernel
theorem dX7_keepDraft_21 : decode cX7_keepDraft 21 = .ok (.aload_n 0, 1) := by decide +kernel
theorem dX7_keepDraft_22 : decode cX7_keepDraft 22 = .ok (.getfield 11, 3) := by decide +kernel
theorem dX7_keepDraft_25 : decode cX7_keepDraft 25 = .ok (.aload_n 0, 1) := by decide +kernel
theorem dX7_keepDraft_26 : decode cX7_keepDraft 26 = .ok (.getfield 16, 3) := by decide +kernel
theorem dX7_keepDraft_29 : decode cX7_keepDraft 29 = .ok (.aaload, 1) := by decide +kernel
theorem dX7_keepDraft_30 : decode cX7_keepDraft 30 = .ok (.aload_n 0, 1) := by decide +kernel
theorem dX7_keepDraft_31 : decode cX7_keepDraft 31 = .ok (.getfield 23, 3) := by decide +kernel
theorem dX7_keepDraft_34 : decode cX7_keepDraft 34 = .ok (.invokevirtual 225, 3) := by decide +kernel
theorem dX7_keepDraft_37 : decode cX7_keepDraft 37 = .ok (.aload_n 0, 1) := by decide +kernel
theorem dX7_keepDraft_38 : decode cX7_keepDraft 38 = .ok (.iconst (-1), 1) := by decide +kernel
theorem dX7_keepDraft_39 : decode cX7_keepDraft 39 = .ok (.putfield 41, 3) := by decide +kernel
theorem dX7_keepDraft_42 : decode cX7_keepDraft 42 = .ok (.aload_n 0, 1) := by decide +kernel
theorem dX7_keepDraft_43 : decode cX7_keepDraft 43 = .ok (.dup, 1) := by decide +kernel
theorem dX7_keepDraft_44 : decode cX7_keepDraft 44 = .ok (.getfield 16, 3) := by decide +kernel
theorem dX7_keepDraft_47 : decode cX7_keepDraft 47 = .ok (.iconst 1, 1) := by decide +kernel
theorem dX7_keepDraft_48 : decode cX7_keepDraft 48 = .ok (.iadd, 1) := by decide +kernel
theorem dX7_keepDraft_49 : decode cX7_keepDraft 49 = .ok (.putfield 16, 3) := by decide +kernel
theorem dX7_keepDraft_52 : decode cX7_keepDraft 52 = .ok (.aload_n 0, 1) := by decide +kernel
theorem dX7_keepDraft_53 : decode cX7_keepDraft 53 = .ok (.getfield 16, 3) := by decide +kernel
theorem dX7_keepDraft_56 : decode cX7_keepDraft 56 = .ok (.iconst 1, 1) := by decide +kernel
theorem dX7_keepDraft_57 : decode cX7_keepDraft 57 = .ok (.isub, 1) := by decide +kernel
theorem dX7_keepDraft_58 : decode cX7_keepDraft 58 = .ok (.ireturn, 1) := by decide +kernel
theorem dX7_isTwister_0 : decode cX7_isTwister 0 = .ok (.iload_n 0, 1) := by decide +kernel
theorem dX7_isTwister_1 : decode cX7_isTwister 1 = .ok (.iconst 1, 1) := by decide +kernel
theorem dX7_isTwister_2 : decode cX7_isTwister 2 = .ok (.if_icmp .ne 5, 3) := by decide +kernel
theorem dX7_isTwister_5 : decode cX7_isTwister 5 = .ok (.iconst 0, 1) := by decide +kernel
theorem dX7_isTwister_6 : decode cX7_isTwister 6 = .ok (.ireturn, 1) := by decide +kernel
theorem dX7_isTwister_7 : decode cX7_isTwister 7 = .ok (.getstatic 189, 3) := by decide +kernel
theorem dX7_isTwister_10 : decode cX7_isTwister 10 = .ok (.astore_n 1, 1) := by decide +kernel
theorem dX7_isTwister_11 : decode cX7_isTwister 11 = .ok (.aload_n 1, 1) := by decide +kernel
theorem dX7_isTwister_12 : decode cX7_isTwister 12 = .ok (.arraylength, 1) := by decide +kernel
theorem dX7_isTwister_13 : decode cX7_isTwister 13 = .ok (.istore_n 2, 1) := by decide +kernel
theorem dX7_isTwister_14 : decode cX7_isTwister 14 = .ok (.iconst 0, 1) := by decide +kernel
theorem dX7_isTwister_15 : decode cX7_isTwister 15 = .ok (.istore_n 3, 1) := by decide +kernel
theorem dX7_isTwister_16 : decode cX7_isTwister 16 = .ok (.iload_n 3, 1) := by decide +kernel
theorem dX7_isTwister_17 : decode cX7_isTwister 17 = .ok (.iload_n 2, 1) := by decide +kernel
theorem dX7_isTwister_18 : decode cX7_isTwister 18 = .ok (.if_icmp .ge 22, 3) := by decide +kernel
theorem dX7_isTwister_21 : decode cX7_isTwister 21 = .ok (.aload_n 1, 1) := by decide +kernel
theorem dX7_isTwister_22 : decode cX7_isTwister 22 = .ok (.iload_n 3, 1) := by decide +kernel
theorem dX7_isTwister_23 : decode cX7_isTwister 23 = .ok (.iaload, 1) := by decide +kernel
theorem dX7_isTwister_24 : decode cX7_isTwister 24 = .ok (.istore 4, 2) := by decide +kernel
theorem dX7_isTwister_26 : decode cX7_isTwister 26 = .ok (.iload_n 0, 1) := by decide +kernel
theorem dX7_isTwister_27 : decode cX7_isTwister 27 = .ok (.iload 4, 2) := by decide +kernel
theorem dX7_isTwister_29 : decode cX7_isTwister 29 = .ok (.if_icmp .ne 5, 3) := by decide +kernel
theorem dX7_isTwister_32 : decode cX7_isTwister 32 = .ok (.iconst 1, 1) := by decide +kernel
theorem dX7_isTwister_33 : decode cX7_isTwister 33 = .ok (.ireturn, 1) := by decide +kernel
theorem dX7_isTwister_34 : decode cX7_isTwister 34 = .ok (.iinc 3 1, 3) := by decide +kernel
theorem dX7_isTwister_37 : decode cX7_isTwister 37 = .ok (.goto (-21), 3) := by decide +kernel
theorem dX7_isTwister_40 : decode cX7_isTwister 40 = .ok (.iconst 0, 1) := by decide +kernel
theorem dX7_isTwister_41 : decode cX7_isTwister 41 = .ok (.ireturn, 1) := by decide +kernel
theorem dX7_hasTwists_0 : decode cX7_hasTwists 0 = .ok (.aload_n 0, 1) := by decide +kernel
theorem dX7_hasTwists_1 : decode cX7_hasTwists 1 = .ok (.getfield 11, 3) := by decide +kernel
theorem dX7_hasTwists_4 : decode cX7_hasTwists 4 = .ok (.iload_n 1, 1) := by decide +kernel
theorem dX7_hasTwists_5 : decode cX7_hasTwists 5 = .ok (.aaload, 1) := by decide +kernel
theorem dX7_hasTwists_6 : decode cX7_hasTwists 6 = .ok (.getfield 112, 3) := by decide +kernel
theorem dX7_hasTwists_9 : decode cX7_hasTwists 9 = .ok (.getfield 60, 3) := by decide +kernel
theorem dX7_hasTwists_12 : decode cX7_hasTwists 12 = .ok (.ldc2_w 228, 3) := by decide +kernel
theorem dX7_hasTwists_15 : decode cX7_hasTwists 15 = .ok (.invokestatic 50, 3) := by decide +kernel
theorem dX7_hasTwists_18 : decode cX7_hasTwists 18 = .ok (.ireturn, 1) := by decide +kernel
theorem dX7_draftTwist_0 : decode cX7_draftTwist 0 = .ok (.aload_n 0, 1) := by decide +kernel
theorem dX7_draftTwist_1 : decode cX7_draftTwist 1 = .ok (.getfield 11, 3) := by decide +kernel
theorem dX7_draftTwist_4 : decode cX7_draftTwist 4 = .ok (.iload_n 1, 1) := by decide +kernel
theorem dX7_draftTwist_5 : decode cX7_draftTwist 5 = .ok (.aaload, 1) := by decide +kernel
theorem dX7_draftTwist_6 : decode cX7_draftTwist 6 = .ok (.getfield 112, 3) := by decide +kernel
theorem dX7_draftTwist_9 : decode cX7_draftTwist 9 = .ok (.astore_n 3, 1) := by decide +kernel
theorem dX7_draftTwist_10 : decode cX7_draftTwist 10 = .ok (.iload_n 2, 1) := by decide +kernel
theorem dX7_draftTwist_11 : decode cX7_draftTwist 11 = .ok (.i2l, 1) := by decide +kernel
theorem dX7_draftTwist_12 : decode cX7_draftTwist 12 = .ok (.iload_n 2, 1) := by decide +kernel
theorem dX7_draftTwist_13 : decode cX7_draftTwist 13 = .ok (.i2l, 1) := by decide +kernel
theorem dX7_draftTwist_14 : decode cX7_draftTwist 14 = .ok (.lmul, 1) := by decide +kernel
theorem dX7_draftTwist_15 : decode cX7_draftTwist 15 = .ok (.lstore 4, 2) := by decide +kernel
theorem dX7_draftTwist_17 : decode cX7_draftTwist 17 = .ok (.lload 4, 2) := by decide +kernel
theorem dX7_draftTwist_19 : decode cX7_draftTwist 19 = .ok (.lload 4, 2) := by decide +kernel
theorem dX7_draftTwist_21 : decode cX7_draftTwist 21 = .ok (.lmul, 1) := by decide +kernel
theorem dX7_draftTwist_22 : decode cX7_draftTwist 22 = .ok (.lload 4, 2) := by decide +kernel
theorem dX7_draftTwist_24 : decode cX7_draftTwist 24 = .ok (.lmul, 1) := by decide +kernel
theorem dX7_draftTwist_25 : decode cX7_draftTwist 25 = .ok (.lstore 6, 2) := by decide +kernel
theorem dX7_draftTwist_27 : decode cX7_draftTwist 27 = .ok (.ldc2_w 230, 3) := by decide +kernel
theorem dX7_draftTwist_30 : decode cX7_draftTwist 30 = .ok (.lload 4, 2) := by decide +kernel
theorem dX7_draftTwist_32 : decode cX7_draftTwist 32 = .ok (.lmul, 1) := by decide +kernel
theorem dX7_draftTwist_33 : decode cX7_draftTwist 33 = .ok (.aload_n 3, 1) := by decide +kernel
theorem dX7_draftTwist_34 : decode cX7_draftTwist 34 = .ok (.getfield 232, 3) := by decide +kernel
theorem dX7_draftTwist_37 : decode cX7_draftTwist 37 = .ok (.lmul, 1) := by decide +kernel
theorem dX7_draftTwist_38 : decode cX7_draftTwist 38 = .ok (.ldc2_w 235, 3) := by decide +kernel
theorem dX7_draftTwist_41 : decode cX7_draftTwist 41 = .ok (.lload 4, 2) := by decide +kernel
theorem dX7_draftTwist_43 : decode cX7_draftTwist 43 = .ok (.lmul, 1) := by decide +kernel
theorem dX7_draftTwist_44 : decode cX7_draftTwist 44 = .ok (.iload_n 2, 1) := by decide +kernel
theorem dX7_draftTwist_45 : decode cX7_draftTwist 45 = .ok (.i2l, 1) := by decide +kernel
theorem dX7_draftTwist_46 : decode cX7_draftTwist 46 = .ok (.lmul, 1) := by decide +kernel
theorem dX7_draftTwist_47 : decode cX7_draftTwist 47 = .ok (.aload_n 3, 1) := by decide +kernel
theorem dX7_draftTwist_48 : decode cX7_draftTwist 48 = .ok (.getfield 237, 3) := by decide +kernel
theorem dX7_draftTwist_51 : decode cX7_draftTwist 51 = .ok (.lmul, 1) := by decide +kernel
theorem dX7_draftTwist_52 : decode cX7_draftTwist 52 = .ok (.ldc2_w 240, 3) := by decide +kernel
theorem dX7_draftTwist_55 : decode cX7_draftTwist 55 = .ok (.lload 6, 2) := by decide +kernel
theorem dX7_draftTwist_57 : decode cX7_draftTwist 57 = .ok (.lmul, 1) := by decide +kernel
theorem dX7_draftTwist_58 : decode cX7_draftTwist 58 = .ok (.aload_n 3, 1) := by decide +kernel
theorem dX7_draftTwist_59 : decode cX7_draftTwist 59 = .ok (.getfield 60, 3) := by decide +kernel
theorem dX7_draftTwist_62 : decode cX7_draftTwist 62 = .ok (.lmul, 1) := by decide +kernel
theorem dX7_draftTwist_63 : decode cX7_draftTwist 63 = .ok (.aload_n 0, 1) := by decide +kernel
theorem dX7_draftTwist_64 : decode cX7_draftTwist 64 = .ok (.getfield 23, 3) := by decide +kernel
theorem dX7_draftTwist_67 : decode cX7_draftTwist 67 = .ok (.invokestatic 242, 3) := by decide +kernel
theorem dX7_draftTwist_70 : decode cX7_draftTwist 70 = .ok (.pop2, 1) := by decide +kernel
theorem dX7_draftTwist_71 : decode cX7_draftTwist 71 = .ok (.return_, 1) := by decide +kernel
theorem dX7_twistedConductor_0 : decode cX7_twistedConductor 0 = .ok (.iload_n 2, 1) := by decide +kernel
theorem dX7_twistedConductor_1 : decode cX7_twistedConductor 1 = .ok (.iconst 1, 1) := by decide +kernel
theorem dX7_twistedConductor_2 : decode cX7_twistedConductor 2 = .ok (.if_icmp .ne 22, 3) := by decide +kernel
theorem dX7_twistedConductor_5 : decode cX7_twistedConductor 5 = .ok (.aload_n 0, 1) := by decide +kernel
theorem dX7_twistedConductor_6 : decode cX7_twistedConductor 6 = .ok (.getfield 23, 3) := by decide +kernel
theorem dX7_twistedConductor_9 : decode cX7_twistedConductor 9 = .ok (.aload_n 0, 1) := by decide +kernel
theorem dX7_twistedConductor_10 : decode cX7_twistedConductor 10 = .ok (.getfield 11, 3) := by decide +kernel
theorem dX7_twistedConductor_13 : decode cX7_twistedConductor 13 = .ok (.iload_n 1, 1) := by decide +kernel
theorem dX7_twistedConductor_14 : decode cX7_twistedConductor 14 = .ok (.aaload, 1) := by decide +kernel
theorem dX7_twistedConductor_15 : decode cX7_twistedConductor 15 = .ok (.getfield 112, 3) := by decide +kernel
theorem dX7_twistedConductor_18 : decode cX7_twistedConductor 18 = .ok (.invokevirtual 75, 3) := by decide +kernel
theorem dX7_twistedConductor_21 : decode cX7_twistedConductor 21 = .ok (.goto 9, 3) := by decide +kernel
theorem dX7_twistedConductor_24 : decode cX7_twistedConductor 24 = .ok (.aload_n 0, 1) := by decide +kernel
theorem dX7_twistedConductor_25 : decode cX7_twistedConductor 25 = .ok (.iload_n 1, 1) := by decide +kernel
theorem dX7_twistedConductor_26 : decode cX7_twistedConductor 26 = .ok (.iload_n 2, 1) := by decide +kernel
theorem dX7_twistedConductor_27 : decode cX7_twistedConductor 27 = .ok (.invokevirtual 121, 3) := by decide +kernel
theorem dX7_twistedConductor_30 : decode cX7_twistedConductor 30 = .ok (.aload_n 0, 1) := by decide +kernel
theorem dX7_twistedConductor_31 : decode cX7_twistedConductor 31 = .ok (.aload_n 0, 1) := by decide +kernel
theorem dX7_twistedConductor_32 : decode cX7_twistedConductor 32 = .ok (.getfield 23, 3) := by decide +kernel
theorem dX7_twistedConductor_35 : decode cX7_twistedConductor 35 = .ok (.aload_n 0, 1) := by decide +kernel
theorem dX7_twistedConductor_36 : decode cX7_twistedConductor 36 = .ok (.getfield 11, 3) := by decide +kernel
theorem dX7_twistedConductor_39 : decode cX7_twistedConductor 39 = .ok (.iload_n 1, 1) := by decide +kernel
theorem dX7_twistedConductor_40 : decode cX7_twistedConductor 40 = .ok (.aaload, 1) := by decide +kernel
theorem dX7_twistedConductor_41 : decode cX7_twistedConductor 41 = .ok (.invokevirtual 150, 3) := by decide +kernel
theorem dX7_twistedConductor_44 : decode cX7_twistedConductor 44 = .ok (.invokevirtual 162, 3) := by decide +kernel
theorem dX7_twistedConductor_47 : decode cX7_twistedConductor 47 = .ok (.lreturn, 1) := by decide +kernel
theorem dX7_conductorOf_0 : decode cX7_conductorOf 0 = .ok (.lconst 1, 1) := by decide +kernel
theorem dX7_conductorOf_1 : decode cX7_conductorOf 1 = .ok (.lstore_n 3, 1) := by decide +kernel
theorem dX7_conductorOf_2 : decode cX7_conductorOf 2 = .ok (.getstatic 248, 3) := by decide +kernel
theorem dX7_conductorOf_5 : decode cX7_conductorOf 5 = .ok (.astore 5, 2) := by decide +kernel
theorem dX7_conductorOf_7 : decode cX7_conductorOf 7 = .ok (.aload 5, 2) := by decide +kernel
theorem dX7_conductorOf_9 : decode cX7_conductorOf 9 = .ok (.arraylength, 1) := by decide +kernel
theorem dX7_conductorOf_10 : decode cX7_conductorOf 10 = .ok (.istore 6, 2) := by decide +kernel
theorem dX7_conductorOf_12 : decode cX7_conductorOf 12 = .ok (.iconst 0, 1) := by decide +kernel
theorem dX7_conductorOf_13 : decode cX7_conductorOf 13 = .ok (.istore 7, 2) := by decide +kernel
theorem dX7_conductorOf_15 : decode cX7_conductorOf 15 = .ok (.iload 7, 2) := by decide +kernel
theorem dX7_conductorOf_17 : decode cX7_conductorOf 17 = .ok (.iload 6, 2) := by decide +kernel
theorem dX7_conductorOf_19 : decode cX7_conductorOf 19 = .ok (.if_icmp .ge 42, 3) := by decide +kernel
theorem dX7_conductorOf_22 : decode cX7_conductorOf 22 = .ok (.aload 5, 2) := by decide +kernel
theorem dX7_conductorOf_24 : decode cX7_conductorOf 24 = .ok (.iload 7, 2) := by decide +kernel
theorem dX7_conductorOf_26 : decode cX7_conductorOf 26 = .ok (.iaload, 1) := by decide +kernel
theorem dX7_conductorOf_27 : decode cX7_conductorOf 27 = .ok (.istore 8, 2) := by decide +kernel
theorem dX7_conductorOf_29 : decode cX7_conductorOf 29 = .ok (.aload_n 0, 1) := by decide +kernel
theorem dX7_conductorOf_30 : decode cX7_conductorOf 30 = .ok (.getfield 30, 3) := by decide +kernel
theorem dX7_conductorOf_33 : decode cX7_conductorOf 33 = .ok (.aload_n 1, 1) := by decide +kernel
theorem dX7_conductorOf_34 : decode cX7_conductorOf 34 = .ok (.iload 8, 2) := by decide +kernel
theorem dX7_conductorOf_36 : decode cX7_conductorOf 36 = .ok (.invokevirtual 143, 3) := by decide +kernel
theorem dX7_conductorOf_39 : decode cX7_conductorOf 39 = .ok (.lload_n 3, 1) := by decide +kernel
theorem dX7_conductorOf_40 : decode cX7_conductorOf 40 = .ok (.iload 8, 2) := by decide +kernel
theorem dX7_conductorOf_42 : decode cX7_conductorOf 42 = .ok (.i2l, 1) := by decide +kernel
theorem dX7_conductorOf_43 : decode cX7_conductorOf 43 = .ok (.aload_n 0, 1) := by decide +kernel
theorem dX7_conductorOf_44 : decode cX7_conductorOf 44 = .ok (.getfield 30, 3) := by decide +kernel
theorem dX7_conductorOf_47 : decode cX7_conductorOf 47 = .ok (.getfield 251, 3) := by decide +kernel
theorem dX7_conductorOf_50 : decode cX7_conductorOf 50 = .ok (.invokestatic 91, 3) := by decide +kernel
theorem dX7_conductorOf_53 : decode cX7_conductorOf 53 = .ok (.lmul, 1) := by decide +kernel
theorem dX7_conductorOf_54 : decode cX7_conductorOf 54 = .ok (.lstore_n 3, 1) := by decide +kernel
theorem dX7_conductorOf_55 : decode cX7_conductorOf 55 = .ok (.iinc 7 1, 3) := by decide +kernel
theorem dX7_conductorOf_58 : decode cX7_conductorOf 58 = .ok (.goto (-43), 3) := by decide +kernel
theorem dX7_conductorOf_61 : decode cX7_conductorOf 61 = .ok (.iconst 0, 1) := by decide +kernel
theorem dX7_conductorOf_62 : decode cX7_conductorOf 62 = .ok (.istore 5, 2) := by decide +kernel
theorem dX7_conductorOf_64 : decode cX7_conductorOf 64 = .ok (.iload 5, 2) := by decide +kernel
theorem dX7_conductorOf_66 : decode cX7_conductorOf 66 = .ok (.aload_n 2, 1) := by decide +kernel
theorem dX7_conductorOf_67 : decode cX7_conductorOf 67 = .ok (.getfield 154, 3) := by decide +kernel
theorem dX7_conductorOf_70 : decode cX7_conductorOf 70 = .ok (.if_icmp .ge 50, 3) := by decide +kernel
theorem dX7_conductorOf_73 : decode cX7_conductorOf 73 = .ok (.aload_n 2, 1) := by decide +kernel
theorem dX7_conductorOf_74 : decode cX7_conductorOf 74 = .ok (.iload 5, 2) := by decide +kernel
theorem dX7_conductorOf_76 : decode cX7_conductorOf 76 = .ok (.invokevirtual 159, 3) := by decide +kernel
theorem dX7_conductorOf_79 : decode cX7_conductorOf 79 = .ok (.istore 6, 2) := by decide +kernel
theorem dX7_conductorOf_81 : decode cX7_conductorOf 81 = .ok (.iload 6, 2) := by decide +kernel
theorem dX7_conductorOf_83 : decode cX7_conductorOf 83 = .ok (.bipush 7, 2) := by decide +kernel
theorem dX7_conductorOf_85 : decode cX7_conductorOf 85 = .ok (.if_icmp .le 29, 3) := by decide +kernel
theorem dX7_conductorOf_88 : decode cX7_conductorOf 88 = .ok (.aload_n 0, 1) := by decide +kernel
theorem dX7_conductorOf_89 : decode cX7_conductorOf 89 = .ok (.getfield 30, 3) := by decide +kernel
theorem dX7_conductorOf_92 : decode cX7_conductorOf 92 = .ok (.aload_n 1, 1) := by decide +kernel
theorem dX7_conductorOf_93 : decode cX7_conductorOf 93 = .ok (.iload 6, 2) := by decide +kernel
theorem dX7_conductorOf_95 : decode cX7_conductorOf 95 = .ok (.invokevirtual 143, 3) := by decide +kernel
theorem dX7_conductorOf_98 : decode cX7_conductorOf 98 = .ok (.lload_n 3, 1) := by decide +kernel
theorem dX7_conductorOf_99 : decode cX7_conductorOf 99 = .ok (.iload 6, 2) := by decide +kernel
theorem dX7_conductorOf_101 : decode cX7_conductorOf 101 = .ok (.i2l, 1) := by decide +kernel
theorem dX7_conductorOf_102 : decode cX7_conductorOf 102 = .ok (.aload_n 0, 1) := by decide +kernel
theorem dX7_conductorOf_103 : decode cX7_conductorOf 103 = .ok (.getfield 30, 3) := by decide +kernel
theorem dX7_conductorOf_106 : decode cX7_conductorOf 106 = .ok (.getfield 251, 3) := by decide +kernel
theorem dX7_conductorOf_109 : decode cX7_conductorOf 109 = .ok (.invokestatic 91, 3) := by decide +kernel
theorem dX7_conductorOf_112 : decode cX7_conductorOf 112 = .ok (.lmul, 1) := by decide +kernel
theorem dX7_conductorOf_113 : decode cX7_conductorOf 113 = .ok (.lstore_n 3, 1) := by decide +kernel
theorem dX7_conductorOf_114 : decode cX7_conductorOf 114 = .ok (.iinc 5 1, 3) := by decide +kernel
theorem dX7_conductorOf_117 : decode cX7_conductorOf 117 = .ok (.goto (-53), 3) := by decide +kernel
theorem dX7_conductorOf_120 : decode cX7_conductorOf 120 = .ok (.lload_n 3, 1) := by decide +kernel
theorem dX7_conductorOf_121 : decode cX7_conductorOf 121 = .ok (.lreturn, 1) := by decide +kernel
theorem dX7_pointsOn_0 : decode cX7_pointsOn 0 = .ok (.iload_n 2, 1) := by decide +kernel
theorem dX7_pointsOn_1 : decode cX7_pointsOn 1 = .ok (.iconst 2, 1) := by decide +kernel
theorem dX7_pointsOn_2 : decode cX7_pointsOn 2 = .ok (.if_icmp .ne 8, 3) := by decide +kernel
theorem dX7_pointsOn_5 : decode cX7_pointsOn 5 = .ok (.aload_n 1, 1) := by decide +kernel
theorem dX7_pointsOn_6 : decode cX7_pointsOn 6 = .ok (.invokestatic 254, 3) := by decide +kernel
theorem dX7_pointsOn_9 : decode cX7_pointsOn 9 = .ok (.ireturn, 1) := by decide +kernel
theorem dX7_pointsOn_10 : decode cX7_pointsOn 10 = .ok (.iconst 0, 1) := by decide +kernel
theorem dX7_pointsOn_11 : decode cX7_pointsOn 11 = .ok (.istore_n 3, 1) := by decide +kernel
theorem dX7_pointsOn_12 : decode cX7_pointsOn 12 = .ok (.iload_n 3, 1) := by decide +kernel
theorem dX7_pointsOn_13 : decode cX7_pointsOn 13 = .ok (.iload_n 2, 1) := by decide +kernel
theorem dX7_pointsOn_14 : decode cX7_pointsOn 14 = .ok (.if_icmp .ge 16, 3) := by decide +kernel
theorem dX7_pointsOn_17 : decode cX7_pointsOn 17 = .ok (.aload_n 0, 1) := by decide +kernel
theorem dX7_pointsOn_18 : decode cX7_pointsOn 18 = .ok (.getfield 44, 3) := by decide +kernel
theorem dX7_pointsOn_21 : decode cX7_pointsOn 21 = .ok (.iload_n 3, 1) := by decide +kernel
theorem dX7_pointsOn_22 : decode cX7_pointsOn 22 = .ok (.iconst 0, 1) := by decide +kernel
theorem dX7_pointsOn_23 : decode cX7_pointsOn 23 = .ok (.iastore, 1) := by decide +kernel
theorem dX7_pointsOn_24 : decode cX7_pointsOn 24 = .ok (.iinc 3 1, 3) := by decide +kernel
theorem dX7_pointsOn_27 : decode cX7_pointsOn 27 = .ok (.goto (-15), 3) := by decide +kernel
theorem dX7_pointsOn_30 : decode cX7_pointsOn 30 = .ok (.iconst 0, 1) := by decide +kernel
theorem dX7_pointsOn_31 : decode cX7_pointsOn 31 = .ok (.istore_n 3, 1) := by decide +kernel
theorem dX7_pointsOn_32 : decode cX7_pointsOn 32 = .ok (.iload_n 3, 1) := by decide +kernel
theorem dX7_pointsOn_33 : decode cX7_pointsOn 33 = .ok (.iload_n 2, 1) := by decide +kernel
theorem dX7_pointsOn_34 : decode cX7_pointsOn 34 = .ok (.if_icmp .ge 29, 3) := by decide +kernel
theorem dX7_pointsOn_37 : decode cX7_pointsOn 37 = .ok (.aload_n 0, 1) := by decide +kernel
theorem dX7_pointsOn_38 : decode cX7_pointsOn 38 = .ok (.getfield 44, 3) := by decide +kernel
theorem dX7_pointsOn_41 : decode cX7_pointsOn 41 = .ok (.iload_n 3, 1) := by decide +kernel
theorem dX7_pointsOn_42 : decode cX7_pointsOn 42 = .ok (.i2l, 1) := by decide +kernel
theorem dX7_pointsOn_43 : decode cX7_pointsOn 43 = .ok (.iload_n 3, 1) := by decide +kernel
theorem dX7_pointsOn_44 : decode cX7_pointsOn 44 = .ok (.i2l, 1) := by decide +kernel
theorem dX7_pointsOn_45 : decode cX7_pointsOn 45 = .ok (.lmul, 1) := by decide +kernel
theorem dX7_pointsOn_46 : decode cX7_pointsOn 46 = .ok (.iload_n 2, 1) := by decide +kernel
theorem dX7_pointsOn_47 : decode cX7_pointsOn 47 = .ok (.i2l, 1) := by decide +kernel
theorem dX7_pointsOn_48 : decode cX7_pointsOn 48 = .ok (.invokestatic 258, 3) := by decide +kernel
theorem dX7_pointsOn_51 : decode cX7_pointsOn 51 = .ok (.l2i, 1) := by decide +kernel
theorem dX7_pointsOn_52 : decode cX7_pointsOn 52 = .ok (.dup2, 1) := by decide +kernel
theorem dX7_pointsOn_53 : decode cX7_pointsOn 53 = .ok (.iaload, 1) := by decide +kernel
theorem dX7_pointsOn_54 : decode cX7_pointsOn 54 = .ok (.iconst 1, 1) := by decide +kernel
theorem dX7_pointsOn_55 : decode cX7_pointsOn 55 = .ok (.iadd, 1) := by decide +kernel
theorem dX7_pointsOn_56 : decode cX7_pointsOn 56 = .ok (.iastore, 1) := by decide +kernel
theorem dX7_pointsOn_57 : decode cX7_pointsOn 57 = .ok (.iinc 3 1, 3) := by decide +kernel
theorem dX7_pointsOn_60 : decode cX7_pointsOn 60 = .ok (.goto (-28), 3) := by decide +kernel
theorem dX7_pointsOn_63 : decode cX7_pointsOn 63 = .ok (.iconst 1, 1) := by decide +kernel
theorem dX7_pointsOn_64 : decode cX7_pointsOn 64 = .ok (.istore_n 3, 1) := by decide +kernel
theorem dX7_pointsOn_65 : decode cX7_pointsOn 65 = .ok (.iconst 0, 1) := by decide +kernel
theorem dX7_pointsOn_66 : decode cX7_pointsOn 66 = .ok (.istore 4, 2) := by decide +kernel
theorem dX7_pointsOn_68 : decode cX7_pointsOn 68 = .ok (.iload 4, 2) := by decide +kernel
theorem dX7_pointsOn_70 : decode cX7_pointsOn 70 = .ok (.iload_n 2, 1) := by decide +kernel
theorem dX7_pointsOn_71 : decode cX7_pointsOn 71 = .ok (.if_icmp .ge 30, 3) := by decide +kernel
theorem dX7_pointsOn_74 : decode cX7_pointsOn 74 = .ok (.iload_n 3, 1) := by decide +kernel
theorem dX7_pointsOn_75 : decode cX7_pointsOn 75 = .ok (.aload_n 0, 1) := by decide +kernel
theorem dX7_pointsOn_76 : decode cX7_pointsOn 76 = .ok (.getfield 44, 3) := by decide +kernel
theorem dX7_pointsOn_79 : decode cX7_pointsOn 79 = .ok (.aload_n 1, 1) := by decide +kernel
theorem dX7_pointsOn_80 : decode cX7_pointsOn 80 = .ok (.iload 4, 2) := by decide +kernel
theorem dX7_pointsOn_82 : decode cX7_pointsOn 82 = .ok (.i2l, 1) := by decide +kernel
theorem dX7_pointsOn_83 : decode cX7_pointsOn 83 = .ok (.invokevirtual 261, 3) := by decide +kernel
theorem dX7_pointsOn_86 : decode cX7_pointsOn 86 = .ok (.iload_n 2, 1) := by decide +kernel
theorem dX7_pointsOn_87 : decode cX7_pointsOn 87 = .ok (.i2l, 1) := by decide +kernel
theorem dX7_pointsOn_88 : decode cX7_pointsOn 88 = .ok (.invokestatic 258, 3) := by decide +kernel
theorem dX7_pointsOn_91 : decode cX7_pointsOn 91 = .ok (.l2i, 1) := by decide +kernel
theorem dX7_pointsOn_92 : decode cX7_pointsOn 92 = .ok (.iaload, 1) := by decide +kernel
theorem dX7_pointsOn_93 : decode cX7_pointsOn 93 = .ok (.iadd, 1) := by decide +kernel
theorem dX7_pointsOn_94 : decode cX7_pointsOn 94 = .ok (.istore_n 3, 1) := by decide +kernel
theorem dX7_pointsOn_95 : decode cX7_pointsOn 95 = .ok (.iinc 4 1, 3) := by decide +kernel
theorem dX7_pointsOn_98 : decode cX7_pointsOn 98 = .ok (.goto (-30), 3) := by decide +kernel
theorem dX7_pointsOn_101 : decode cX7_pointsOn 101 = .ok (.iload_n 3, 1) := by decide +kernel
theorem dX7_pointsOn_102 : decode cX7_pointsOn 102 = .ok (.ireturn, 1) := by decide +kernel
theorem dX7_pointsAtTwo_0 : decode cX7_pointsAtTwo 0 = .ok (.iconst 1, 1) := by decide +kernel
theorem dX7_pointsAtTwo_1 : decode cX7_pointsAtTwo 1 = .ok (.istore_n 1, 1) := by decide +kernel
theorem dX7_pointsAtTwo_2 : decode cX7_pointsAtTwo 2 = .ok (.iconst 0, 1) := by decide +kernel
theorem dX7_pointsAtTwo_3 : decode cX7_pointsAtTwo 3 = .ok (.istore_n 2, 1) := by decide +kernel
theorem dX7_pointsAtTwo_4 : decode cX7_pointsAtTwo 4 = .ok (.iload_n 2, 1) := by decide +kernel
theorem dX7_pointsAtTwo_5 : decode cX7_pointsAtTwo 5 = .ok (.iconst 2, 1) := by decide +kernel
theorem dX7_pointsAtTwo_6 : decode cX7_pointsAtTwo 6 = .ok (.if_icmp .ge 61, 3) := by decide +kernel
theorem dX7_pointsAtTwo_9 : decode cX7_pointsAtTwo 9 = .ok (.iconst 0, 1) := by decide +kernel
theorem dX7_pointsAtTwo_10 : decode cX7_pointsAtTwo 10 = .ok (.istore_n 3, 1) := by decide +kernel
theorem dX7_pointsAtTwo_11 : decode cX7_pointsAtTwo 11 = .ok (.iload_n 3, 1) := by decide +kernel
theorem dX7_pointsAtTwo_12 : decode cX7_pointsAtTwo 12 = .ok (.iconst 2, 1) := by decide +kernel
theorem dX7_pointsAtTwo_13 : decode cX7_pointsAtTwo 13 = .ok (.if_icmp .ge 48, 3) := by decide +kernel
theorem dX7_pointsAtTwo_16 : decode cX7_pointsAtTwo 16 = .ok (.iload_n 3, 1) := by decide +kernel
theorem dX7_pointsAtTwo_17 : decode cX7_pointsAtTwo 17 = .ok (.iload_n 3, 1) := by decide +kernel
theorem dX7_pointsAtTwo_18 : decode cX7_pointsAtTwo 18 = .ok (.imul, 1) := by decide +kernel
theorem dX7_pointsAtTwo_19 : decode cX7_pointsAtTwo 19 = .ok (.i2l, 1) := by decide +kernel
theorem dX7_pointsAtTwo_20 : decode cX7_pointsAtTwo 20 = .ok (.aload_n 0, 1) := by decide +kernel
theorem dX7_pointsAtTwo_21 : decode cX7_pointsAtTwo 21 = .ok (.iload_n 2, 1) := by decide +kernel
theorem dX7_pointsAtTwo_22 : decode cX7_pointsAtTwo 22 = .ok (.i2l, 1) := by decide +kernel
theorem dX7_pointsAtTwo_23 : decode cX7_pointsAtTwo 23 = .ok (.invokevirtual 264, 3) := by decide +kernel
theorem dX7_pointsAtTwo_26 : decode cX7_pointsAtTwo 26 = .ok (.iload_n 3, 1) := by decide +kernel
theorem dX7_pointsAtTwo_27 : decode cX7_pointsAtTwo 27 = .ok (.i2l, 1) := by decide +kernel
theorem dX7_pointsAtTwo_28 : decode cX7_pointsAtTwo 28 = .ok (.lmul, 1) := by decide +kernel
theorem dX7_pointsAtTwo_29 : decode cX7_pointsAtTwo 29 = .ok (.ladd, 1) := by decide +kernel
theorem dX7_pointsAtTwo_30 : decode cX7_pointsAtTwo 30 = .ok (.lstore 4, 2) := by decide +kernel
theorem dX7_pointsAtTwo_32 : decode cX7_pointsAtTwo 32 = .ok (.lload 4, 2) := by decide +kernel
theorem dX7_pointsAtTwo_34 : decode cX7_pointsAtTwo 34 = .ok (.aload_n 0, 1) := by decide +kernel
theorem dX7_pointsAtTwo_35 : decode cX7_pointsAtTwo 35 = .ok (.iload_n 2, 1) := by decide +kernel
theorem dX7_pointsAtTwo_36 : decode cX7_pointsAtTwo 36 = .ok (.i2l, 1) := by decide +kernel
theorem dX7_pointsAtTwo_37 : decode cX7_pointsAtTwo 37 = .ok (.invokevirtual 267, 3) := by decide +kernel
theorem dX7_pointsAtTwo_40 : decode cX7_pointsAtTwo 40 = .ok (.lsub, 1) := by decide +kernel
theorem dX7_pointsAtTwo_41 : decode cX7_pointsAtTwo 41 = .ok (.ldc2_w 270, 3) := by decide +kernel
theorem dX7_pointsAtTwo_44 : decode cX7_pointsAtTwo 44 = .ok (.invokestatic 258, 3) := by decide +kernel
theorem dX7_pointsAtTwo_47 : decode cX7_pointsAtTwo 47 = .ok (.lconst 0, 1) := by decide +kernel
theorem dX7_pointsAtTwo_48 : decode cX7_pointsAtTwo 48 = .ok (.lcmp, 1) := by decide +kernel
theorem dX7_pointsAtTwo_49 : decode cX7_pointsAtTwo 49 = .ok (.ifCond .ne 6, 3) := by decide +kernel
theorem dX7_pointsAtTwo_52 : decode cX7_pointsAtTwo 52 = .ok (.iinc 1 1, 3) := by decide +kernel
theorem dX7_pointsAtTwo_55 : decode cX7_pointsAtTwo 55 = .ok (.iinc 3 1, 3) := by decide +kernel
theorem dX7_pointsAtTwo_58 : decode cX7_pointsAtTwo 58 = .ok (.goto (-47), 3) := by decide +kernel
theorem dX7_pointsAtTwo_61 : decode cX7_pointsAtTwo 61 = .ok (.iinc 2 1, 3) := by decide +kernel
theorem dX7_pointsAtTwo_64 : decode cX7_pointsAtTwo 64 = .ok (.goto (-60), 3) := by decide +kernel
theorem dX7_pointsAtTwo_67 : decode cX7_pointsAtTwo 67 = .ok (.iload_n 1, 1) := by decide +kernel
theorem dX7_pointsAtTwo_68 : decode cX7_pointsAtTwo 68 = .ok (.ireturn, 1) := by decide +kernel
theorem dX7_findSmallPoints_0 : decode cX7_findSmallPoints 0 = .ok (.aload_n 0, 1) := by decide +kernel
theorem dX7_findSmallPoints_1 : decode cX7_findSmallPoints 1 = .ok (.getfield 41, 3) := by decide +kernel
theorem dX7_findSmallPoints_4 : decode cX7_findSmallPoints 4 = .ok (.iload_n 1, 1) := by decide +kernel
theorem dX7_findSmallPoints_5 : decode cX7_findSmallPoints 5 = .ok (.if_icmp .eq 24, 3) := by decide +kernel
theorem dX7_findSmallPoints_8 : decode cX7_findSmallPoints 8 = .ok (.aload_n 0, 1) := by decide +kernel
theorem dX7_findSmallPoints_9 : decode cX7_findSmallPoints 9 = .ok (.getfield 37, 3) := by decide +kernel
theorem dX7_findSmallPoints_12 : decode cX7_findSmallPoints 12 = .ok (.aload_n 0, 1) := by decide +kernel
theorem dX7_findSmallPoints_13 : decode cX7_findSmallPoints 13 = .ok (.getfield 11, 3) := by decide +kernel
theorem dX7_findSmallPoints_16 : decode cX7_findSmallPoints 16 = .ok (.iload_n 1, 1) := by decide +kernel
theorem dX7_findSmallPoints_17 : decode cX7_findSmallPoints 17 = .ok (.aaload, 1) := by decide +kernel
theorem dX7_findSmallPoints_18 : decode cX7_findSmallPoints 18 = .ok (.getfield 72, 3) := by decide +kernel
theorem dX7_findSmallPoints_21 : decode cX7_findSmallPoints 21 = .ok (.invokevirtual 272, 3) := by decide +kernel
theorem dX7_findSmallPoints_24 : decode cX7_findSmallPoints 24 = .ok (.aload_n 0, 1) := by decide +kernel
theorem dX7_findSmallPoints_25 : decode cX7_findSmallPoints 25 = .ok (.iload_n 1, 1) := by decide +kernel
theorem dX7_findSmallPoints_26 : decode cX7_findSmallPoints 26 = .ok (.putfield 41, 3) := by decide +kernel
theorem dX7_findSmallPoints_29 : decode cX7_findSmallPoints 29 = .ok (.return_, 1) := by decide +kernel
theorem dX7_hasSmallPoint_0 : decode cX7_hasSmallPoint 0 = .ok (.aload_n 0, 1) := by decide +kernel
theorem dX7_hasSmallPoint_1 : decode cX7_hasSmallPoint 1 = .ok (.iload_n 1, 1) := by decide +kernel
theorem dX7_hasSmallPoint_2 : decode cX7_hasSmallPoint 2 = .ok (.invokevirtual 68, 3) := by decide +kernel
theorem dX7_hasSmallPoint_5 : decode cX7_hasSmallPoint 5 = .ok (.ifCond .ne 5, 3) := by decide +kernel
theorem dX7_hasSmallPoint_8 : decode cX7_hasSmallPoint 8 = .ok (.iconst 0, 1) := by decide +kernel
theorem dX7_hasSmallPoint_9 : decode cX7_hasSmallPoint 9 = .ok (.ireturn, 1) := by decide +kernel
theorem dX7_hasSmallPoint_10 : decode cX7_hasSmallPoint 10 = .ok (.aload_n 0, 1) := by decide +kernel
theorem dX7_hasSmallPoint_11 : decode cX7_hasSmallPoint 11 = .ok (.iload_n 1, 1) := by decide +kernel
theorem dX7_hasSmallPoint_12 : decode cX7_hasSmallPoint 12 = .ok (.invokevirtual 196, 3) := by decide +kernel
theorem dX7_hasSmallPoint_15 : decode cX7_hasSmallPoint 15 = .ok (.iload_n 2, 1) := by decide +kernel
theorem dX7_hasSmallPoint_16 : decode cX7_hasSmallPoint 16 = .ok (.ifCond .lt 18, 3) := by decide +kernel
theorem dX7_hasSmallPoint_19 : decode cX7_hasSmallPoint 19 = .ok (.iload_n 2, 1) := by decide +kernel
theorem dX7_hasSmallPoint_20 : decode cX7_hasSmallPoint 20 = .ok (.aload_n 0, 1) := by decide +kernel
theorem dX7_hasSmallPoint_21 : decode cX7_hasSmallPoint 21 = .ok (.getfield 37, 3) := by decide +kernel
theorem dX7_hasSmallPoint_24 : decode cX7_hasSmallPoint 24 = .ok (.getfield 200, 3) := by decide +kernel
theorem dX7_hasSmallPoint_27 : decode cX7_hasSmallPoint 27 = .ok (.if_icmp .ge 7, 3) := by decide +kernel
theorem dX7_hasSmallPoint_30 : decode cX7_hasSmallPoint 30 = .ok (.iconst 1, 1) := by decide +kernel
theorem dX7_hasSmallPoint_31 : decode cX7_hasSmallPoint 31 = .ok (.goto 4, 3) := by decide +kernel
theorem dX7_hasSmallPoint_34 : decode cX7_hasSmallPoint 34 = .ok (.iconst 0, 1) := by decide +kernel
theorem dX7_hasSmallPoint_35 : decode cX7_hasSmallPoint 35 = .ok (.ireturn, 1) := by decide +kernel
theorem dX7_countUnlike_0 : decode cX7_countUnlike 0 = .ok (.iconst 0, 1) := by decide +kernel
theorem dX7_countUnlike_1 : decode cX7_countUnlike 1 = .ok (.istore_n 1, 1) := by decide +kernel
theorem dX7_countUnlike_2 : decode cX7_countUnlike 2 = .ok (.iconst 0, 1) := by decide +kernel
theorem dX7_countUnlike_3 : decode cX7_countUnlike 3 = .ok (.istore_n 2, 1) := by decide +kernel
theorem dX7_countUnlike_4 : decode cX7_countUnlike 4 = .ok (.iload_n 2, 1) := by decide +kernel
theorem dX7_countUnlike_5 : decode cX7_countUnlike 5 = .ok (.aload_n 0, 1) := by decide +kernel
theorem dX7_countUnlike_6 : decode cX7_countUnlike 6 = .ok (.getfield 16, 3) := by decide +kernel
theorem dX7_countUnlike_9 : decode cX7_countUnlike 9 = .ok (.if_icmp .ge 60, 3) := by decide +kernel
theorem dX7_countUnlike_12 : decode cX7_countUnlike 12 = .ok (.iconst 0, 1) := by decide +kernel
theorem dX7_countUnlike_13 : decode cX7_countUnlike 13 = .ok (.istore_n 3, 1) := by decide +kernel
theorem dX7_countUnlike_14 : decode cX7_countUnlike 14 = .ok (.iconst 0, 1) := by decide +kernel
theorem dX7_countUnlike_15 : decode cX7_countUnlike 15 = .ok (.istore 4, 2) := by decide +kernel
theorem dX7_countUnlike_17 : decode cX7_countUnlike 17 = .ok (.iload 4, 2) := by decide +kernel
theorem dX7_countUnlike_19 : decode cX7_countUnlike 19 = .ok (.iload_n 2, 1) := by decide +kernel
theorem dX7_countUnlike_20 : decode cX7_countUnlike 20 = .ok (.if_icmp .ge 36, 3) := by decide +kernel
theorem dX7_countUnlike_23 : decode cX7_countUnlike 23 = .ok (.iload_n 3, 1) := by decide +kernel
theorem dX7_countUnlike_24 : decode cX7_countUnlike 24 = .ok (.ifCond .ne 32, 3) := by decide +kernel
theorem dX7_countUnlike_27 : decode cX7_countUnlike 27 = .ok (.aload_n 0, 1) := by decide +kernel
theorem dX7_countUnlike_28 : decode cX7_countUnlike 28 = .ok (.getfield 11, 3) := by decide +kernel
theorem dX7_countUnlike_31 : decode cX7_countUnlike 31 = .ok (.iload_n 2, 1) := by decide +kernel
theorem dX7_countUnlike_32 : decode cX7_countUnlike 32 = .ok (.aaload, 1) := by decide +kernel
theorem dX7_countUnlike_33 : decode cX7_countUnlike 33 = .ok (.getfield 112, 3) := by decide +kernel
theorem dX7_countUnlike_36 : decode cX7_countUnlike 36 = .ok (.aload_n 0, 1) := by decide +kernel
theorem dX7_countUnlike_37 : decode cX7_countUnlike 37 = .ok (.getfield 11, 3) := by decide +kernel
theorem dX7_countUnlike_40 : decode cX7_countUnlike 40 = .ok (.iload 4, 2) := by decide +kernel
theorem dX7_countUnlike_42 : decode cX7_countUnlike 42 = .ok (.aaload, 1) := by decide +kernel
theorem dX7_countUnlike_43 : decode cX7_countUnlike 43 = .ok (.getfield 112, 3) := by decide +kernel
theorem dX7_countUnlike_46 : decode cX7_countUnlike 46 = .ok (.invokevirtual 166, 3) := by decide +kernel
theorem dX7_countUnlike_49 : decode cX7_countUnlike 49 = .ok (.istore_n 3, 1) := by decide +kernel
theorem dX7_countUnlike_50 : decode cX7_countUnlike 50 = .ok (.iinc 4 1, 3) := by decide +kernel
theorem dX7_countUnlike_53 : decode cX7_countUnlike 53 = .ok (.goto (-36), 3) := by decide +kernel
theorem dX7_countUnlike_56 : decode cX7_countUnlike 56 = .ok (.iload_n 3, 1) := by decide +kernel
theorem dX7_countUnlike_57 : decode cX7_countUnlike 57 = .ok (.ifCond .ne 6, 3) := by decide +kernel
theorem dX7_countUnlike_60 : decode cX7_countUnlike 60 = .ok (.iinc 1 1, 3) := by decide +kernel
theorem dX7_countUnlike_63 : decode cX7_countUnlike 63 = .ok (.iinc 2 1, 3) := by decide +kernel
theorem dX7_countUnlike_66 : decode cX7_countUnlike 66 = .ok (.goto (-62), 3) := by decide +kernel
theorem dX7_countUnlike_69 : decode cX7_countUnlike 69 = .ok (.iload_n 1, 1) := by decide +kernel
theorem dX7_countUnlike_70 : decode cX7_countUnlike 70 = .ok (.ireturn, 1) := by decide +kernel
theorem dX7_bitsOfLeast_0 : decode cX7_bitsOfLeast 0 = .ok (.iconst 0, 1) := by decide +kernel
theorem dX7_bitsOfLeast_1 : decode cX7_bitsOfLeast 1 = .ok (.istore_n 2, 1) := by decide +kernel
theorem dX7_bitsOfLeast_2 : decode cX7_bitsOfLeast 2 = .ok (.iconst 0, 1) := by decide +kernel
theorem dX7_bitsOfLeast_3 : decode cX7_bitsOfLeast 3 = .ok (.istore_n 3, 1) := by decide +kernel
theorem dX7_bitsOfLeast_4 : decode cX7_bitsOfLeast 4 = .ok (.iload_n 3, 1) := by decide +kernel
theorem dX7_bitsOfLeast_5 : decode cX7_bitsOfLeast 5 = .ok (.aload_n 0, 1) := by decide +kernel
theorem dX7_bitsOfLeast_6 : decode cX7_bitsOfLeast 6 = .ok (.getfield 16, 3) := by decide +kernel
theorem dX7_bitsOfLeast_9 : decode cX7_bitsOfLeast 9 = .ok (.if_icmp .ge 56, 3) := by decide +kernel
theorem dX7_bitsOfLeast_12 : decode cX7_bitsOfLeast 12 = .ok (.aload_n 0, 1) := by decide +kernel
theorem dX7_bitsOfLeast_13 : decode cX7_bitsOfLeast 13 = .ok (.getfield 11, 3) := by decide +kernel
theorem dX7_bitsOfLeast_16 : decode cX7_bitsOfLeast 16 = .ok (.iload_n 3, 1) := by decide +kernel
theorem dX7_bitsOfLeast_17 : decode cX7_bitsOfLeast 17 = .ok (.aaload, 1) := by decide +kernel
theorem dX7_bitsOfLeast_18 : decode cX7_bitsOfLeast 18 = .ok (.astore 4, 2) := by decide +kernel
theorem dX7_bitsOfLeast_20 : decode cX7_bitsOfLeast 20 = .ok (.iload_n 1, 1) := by decide +kernel
theorem dX7_bitsOfLeast_21 : decode cX7_bitsOfLeast 21 = .ok (.ifCond .eq 22, 3) := by decide +kernel
theorem dX7_bitsOfLeast_24 : decode cX7_bitsOfLeast 24 = .ok (.aload 4, 2) := by decide +kernel
theorem dX7_bitsOfLeast_26 : decode cX7_bitsOfLeast 26 = .ok (.getfield 72, 3) := by decide +kernel
theorem dX7_bitsOfLeast_29 : decode cX7_bitsOfLeast 29 = .ok (.aload 4, 2) := by decide +kernel
theorem dX7_bitsOfLeast_31 : decode cX7_bitsOfLeast 31 = .ok (.getfield 112, 3) := by decide +kernel
theorem dX7_bitsOfLeast_34 : decode cX7_bitsOfLeast 34 = .ok (.invokevirtual 166, 3) := by decide +kernel
theorem dX7_bitsOfLeast_37 : decode cX7_bitsOfLeast 37 = .ok (.ifCond .eq 22, 3) := by decide +kernel
theorem dX7_bitsOfLeast_40 : decode cX7_bitsOfLeast 40 = .ok (.goto 13, 3) := by decide +kernel
theorem dX7_bitsOfLeast_43 : decode cX7_bitsOfLeast 43 = .ok (.aload 4, 2) := by decide +kernel
theorem dX7_bitsOfLeast_45 : decode cX7_bitsOfLeast 45 = .ok (.getfield 136, 3) := by decide +kernel
theorem dX7_bitsOfLeast_48 : decode cX7_bitsOfLeast 48 = .ok (.lconst 1, 1) := by decide +kernel
theorem dX7_bitsOfLeast_49 : decode cX7_bitsOfLeast 49 = .ok (.lcmp, 1) := by decide +kernel
theorem dX7_bitsOfLeast_50 : decode cX7_bitsOfLeast 50 = .ok (.ifCond .ne 9, 3) := by decide +kernel
theorem dX7_bitsOfLeast_53 : decode cX7_bitsOfLeast 53 = .ok (.iload_n 2, 1) := by decide +kernel
theorem dX7_bitsOfLeast_54 : decode cX7_bitsOfLeast 54 = .ok (.iconst 1, 1) := by decide +kernel
theorem dX7_bitsOfLeast_55 : decode cX7_bitsOfLeast 55 = .ok (.iload_n 3, 1) := by decide +kernel
theorem dX7_bitsOfLeast_56 : decode cX7_bitsOfLeast 56 = .ok (.ishl, 1) := by decide +kernel
theorem dX7_bitsOfLeast_57 : decode cX7_bitsOfLeast 57 = .ok (.ior, 1) := by decide +kernel
theorem dX7_bitsOfLeast_58 : decode cX7_bitsOfLeast 58 = .ok (.istore_n 2, 1) := by decide +kernel
theorem dX7_bitsOfLeast_59 : decode cX7_bitsOfLeast 59 = .ok (.iinc 3 1, 3) := by decide +kernel
theorem dX7_bitsOfLeast_62 : decode cX7_bitsOfLeast 62 = .ok (.goto (-58), 3) := by decide +kernel
theorem dX7_bitsOfLeast_65 : decode cX7_bitsOfLeast 65 = .ok (.iload_n 2, 1) := by decide +kernel
theorem dX7_bitsOfLeast_66 : decode cX7_bitsOfLeast 66 = .ok (.ireturn, 1) := by decide +kernel
theorem dX8_init_0 : decode cX8_init 0 = .ok (.aload_n 0, 1) := by decide +kernel
theorem dX8_init_1 : decode cX8_init 1 = .ok (.invokespecial 1, 3) := by decide +kernel
theorem dX8_init_4 : decode cX8_init 4 = .ok (.aload_n 0, 1) := by decide +kernel
theorem dX8_init_5 : decode cX8_init 5 = .ok (.bipush 80, 2) := by decide +kernel
theorem dX8_init_7 : decode cX8_init 7 = .ok (.newarray .long, 2) := by decide +kernel
theorem dX8_init_9 : decode cX8_init 9 = .ok (.putfield 7, 3) := by decide +kernel
theorem dX8_init_12 : decode cX8_init 12 = .ok (.aload_n 0, 1) := by decide +kernel
theorem dX8_init_13 : decode cX8_init 13 = .ok (.iconst 5, 1) := by decide +kernel
theorem dX8_init_14 : decode cX8_init 14 = .ok (.newarray .long, 2) := by decide +kernel
theorem dX8_init_16 : decode cX8_init 16 = .ok (.putfield 13, 3) := by decide +kernel
theorem dX8_init_19 : decode cX8_init 19 = .ok (.aload_n 0, 1) := by decide +kernel
theorem dX8_init_20 : decode cX8_init 20 = .ok (.iconst 5, 1) := by decide +kernel
theorem dX8_init_21 : decode cX8_init 21 = .ok (.newarray .long, 2) := by decide +kernel
theorem dX8_init_23 : decode cX8_init 23 = .ok (.putfield 16, 3) := by decide +kernel
theorem dX8_init_26 : decode cX8_init 26 = .ok (.aload_n 0, 1) := by decide +kernel
theorem dX8_init_27 : decode cX8_init 27 = .ok (.bipush 20, 2) := by decide +kernel
theorem dX8_init_29 : decode cX8_init 29 = .ok (.newarray .long, 2) := by decide +kernel
theorem dX8_init_31 : decode cX8_init 31 = .ok (.putfield 19, 3) := by decide +kernel
theorem dX8_init_34 : decode cX8_init 34 = .ok (.aload_n 0, 1) := by decide +kernel
theorem dX8_init_35 : decode cX8_init 35 = .ok (.bipush 8, 2) := by decide +kernel
theorem dX8_init_37 : decode cX8_init 37 = .ok (.newarray .int, 2) := by decide +kernel
theorem dX8_init_39 : decode cX8_init 39 = .ok (.putfield 22, 3) := by decide +kernel
theorem dX8_init_42 : decode cX8_init 42 = .ok (.aload_n 0, 1) := by decide +kernel
theorem dX8_init_43 : decode cX8_init 43 = .ok (.iconst 5, 1) := by decide +kernel
theorem dX8_init_44 : decode cX8_init 44 = .ok (.newarray .long, 2) := by decide +kernel
theorem dX8_init_46 : decode cX8_init 46 = .ok (.putfield 26, 3) := by decide +kernel
theorem dX8_init_49 : decode cX8_init 49 = .ok (.aload_n 0, 1) := by decide +kernel
theorem dX8_init_50 : decode cX8_init 50 = .ok (.iconst 5, 1) := by decide +kernel
theorem dX8_init_51 : decode cX8_init 51 = .ok (.newarray .long, 2) := by decide +kernel
theorem dX8_init_53 : decode cX8_init 53 = .ok (.putfield 29, 3) := by decide +kernel
theorem dX8_init_56 : decode cX8_init 56 = .ok (.aload_n 0, 1) := by decide +kernel
theorem dX8_init_57 : decode cX8_init 57 = .ok (.iconst 5, 1) := by decide +kernel
theorem dX8_init_58 : decode cX8_init 58 = .ok (.newarray .long, 2) := by decide +kernel
theorem dX8_init_60 : decode cX8_init 60 = .ok (.putfield 32, 3) := by decide +kernel
theorem dX8_init_63 : decode cX8_init 63 = .ok (.aload_n 0, 1) := by decide +kernel
theorem dX8_init_64 : decode cX8_init 64 = .ok (.bipush 14, 2) := by decide +kernel
theorem dX8_init_66 : decode cX8_init 66 = .ok (.newarray .int, 2) := by decide +kernel
theorem dX8_init_68 : decode cX8_init 68 = .ok (.dup, 1) := by decide +kernel
theorem dX8_init_69 : decode cX8_init 69 = .ok (.iconst 0, 1) := by decide +kernel
theorem dX8_init_70 : decode cX8_init 70 = .ok (.iconst 1, 1) := by decide +kernel
theorem dX8_init_71 : decode cX8_init 71 = .ok (.iastore, 1) := by decide +kernel
theorem dX8_init_72 : decode cX8_init 72 = .ok (.dup, 1) := by decide +kernel
theorem dX8_init_73 : decode cX8_init 73 = .ok (.iconst 1, 1) := by decide +kernel
theorem dX8_init_74 : decode cX8_init 74 = .ok (.iconst (-1), 1) := by decide +kernel
theorem dX8_init_75 : decode cX8_init 75 = .ok (.iastore, 1) := by decide +kernel
theorem dX8_init_76 : decode cX8_init 76 = .ok (.dup, 1) := by decide +kernel
theorem dX8_init_77 : decode cX8_init 77 = .ok (.iconst 2, 1) := by decide +kernel
theorem dX8_init_78 : decode cX8_init 78 = .ok (.iconst 2, 1) := by decide +kernel
theorem dX8_init_79 : decode cX8_init 79 = .ok (.iastore, 1) := by decide +kernel
theorem dX8_init_80 : decode cX8_init 80 = .ok (.dup, 1) := by decide +kernel
theorem dX8_init_81 : decode cX8_init 81 = .ok (.iconst 3, 1) := by decide +kernel
theorem dX8_init_82 : decode cX8_init 82 = .ok (.bipush (-2), 2) := by decide +kernel
theorem dX8_init_84 : decode cX8_init 84 = .ok (.iastore, 1) := by decide +kernel
theorem dX8_init_85 : decode cX8_init 85 = .ok (.dup, 1) := by decide +kernel
theorem dX8_init_86 : decode cX8_init 86 = .ok (.iconst 4, 1) := by decide +kernel
theorem dX8_init_87 : decode cX8_init 87 = .ok (.iconst 3, 1) := by decide +kernel
theorem dX8_init_88 : decode cX8_init 88 = .ok (.iastore, 1) := by decide +kernel
theorem dX8_init_89 : decode cX8_init 89 = .ok (.dup, 1) := by decide +kernel
theorem dX8_init_90 : decode cX8_init 90 = .ok (.iconst 5, 1) := by decide +kernel
theorem dX8_init_91 : decode cX8_init 91 = .ok (.bipush (-3), 2) := by decide +kernel
theorem dX8_init_93 : decode cX8_init 93 = .ok (.iastore, 1) := by decide +kernel
theorem dX8_init_94 : decode cX8_init 94 = .ok (.dup, 1) := by decide +kernel
theorem dX8_init_95 : decode cX8_init 95 = .ok (.bipush 6, 2) := by decide +kernel
theorem dX8_init_97 : decode cX8_init 97 = .ok (.iconst 5, 1) := by decide +kernel
theorem dX8_init_98 : decode cX8_init 98 = .ok (.iastore, 1) := by decide +kernel
theorem dX8_init_99 : decode cX8_init 99 = .ok (.dup, 1) := by decide +kernel
theorem dX8_init_100 : decode cX8_init 100 = .ok (.bipush 7, 2) := by decide +kernel
theorem dX8_init_102 : decode cX8_init 102 = .ok (.bipush (-5), 2) := by decide +kernel
theorem dX8_init_104 : decode cX8_init 104 = .ok (.iastore, 1) := by decide +kernel
theorem dX8_init_105 : decode cX8_init 105 = .ok (.dup, 1) := by decide +kernel
theorem dX8_init_106 : decode cX8_init 106 = .ok (.bipush 8, 2) := by decide +kernel
theorem dX8_init_108 : decode cX8_init 108 = .ok (.bipush 6, 2) := by decide +kernel
theorem dX8_init_110 : decode cX8_init 110 = .ok (.iastore, 1) := by decide +kernel
theorem dX8_init_111 : decode cX8_init 111 = .ok (.dup, 1) := by decide +kernel
theorem dX8_init_112 : decode cX8_init 112 = .ok (.bipush 9, 2) := by decide +kernel
theorem dX8_init_114 : decode cX8_init 114 = .ok (.bipush (-6), 2) := by decide +kernel
theorem dX8_init_116 : decode cX8_init 116 = .ok (.iastore, 1) := by decide +kernel
theorem dX8_init_117 : decode cX8_init 117 = .ok (.dup, 1) := by decide +kernel
theorem dX8_init_118 : decode cX8_init 118 = .ok (.bipush 10, 2) := by decide +kernel
theorem dX8_init_120 : decode cX8_init 120 = .ok (.bipush 7, 2) := by decide +kernel
theorem dX8_init_122 : decode cX8_init 122 = .ok (.iastore, 1) := by decide +kernel
theorem dX8_init_123 : decode cX8_init 123 = .ok (.dup, 1) := by decide +kernel
theorem dX8_init_124 : decode cX8_init 124 = .ok (.bipush 11, 2) := by decide +kernel
theorem dX8_init_126 : decode cX8_init 126 = .ok (.bipush (-7), 2) := by decide +kernel
theorem dX8_init_128 : decode cX8_init 128 = .ok (.iastore, 1) := by decide +kernel
theorem dX8_init_129 : decode cX8_init 129 = .ok (.dup, 1) := by decide +kernel
theorem dX8_init_130 : decode cX8_init 130 = .ok (.bipush 12, 2) := by decide +kernel
theorem dX8_init_132 : decode cX8_init 132 = .ok (.bipush 10, 2) := by decide +kernel
theorem dX8_init_134 : decode cX8_init 134 = .ok (.iastore, 1) := by decide +kernel
theorem dX8_init_135 : decode cX8_init 135 = .ok (.dup, 1) := by decide +kernel
theorem dX8_init_136 : decode cX8_init 136 = .ok (.bipush 13, 2) := by decide +kernel
theorem dX8_init_138 : decode cX8_init 138 = .ok (.bipush (-10), 2) := by decide +kernel
theorem dX8_init_140 : decode cX8_init 140 = .ok (.iastore, 1) := by decide +kernel
theorem dX8_init_141 : decode cX8_init 141 = .ok (.putfield 35, 3) := by decide +kernel
theorem dX8_init_144 : decode cX8_init 144 = .ok (.aload_n 0, 1) := by decide +kernel
theorem dX8_init_145 : decode cX8_init 145 = .ok (.sipush 484, 3) := by decide +kernel
theorem dX8_init_148 : decode cX8_init 148 = .ok (.newarray .long, 2) := by decide +kernel
theorem dX8_init_150 : decode cX8_init 150 = .ok (.putfield 38, 3) := by decide +kernel
theorem dX8_init_153 : decode cX8_init 153 = .ok (.return_, 1) := by decide +kernel
theorem dX8_thrown_0 : decode cX8_thrown 0 = .ok (.aload_n 0, 1) := by decide +kernel
theorem dX8_thrown_1 : decode cX8_thrown 1 = .ok (.getfield 41, 3) := by decide +kernel
theorem dX8_thrown_4 : decode cX8_thrown 4 = .ok (.ireturn, 1) := by decide +kernel
theorem dX8_within_0 : decode cX8_within 0 = .ok (.lload_n 0, 1) := by decide +kernel
theorem dX8_within_1 : decode cX8_within 1 = .ok (.lload_n 2, 1) := by decide +kernel
theorem dX8_within_2 : decode cX8_within 2 = .ok (.lcmp, 1) := by decide +kernel
theorem dX8_within_3 : decode cX8_within 3 = .ok (.ifCond .lt 14, 3) := by decide +kernel
theorem dX8_within_6 : decode cX8_within 6 = .ok (.lload_n 0, 1) := by decide +kernel
theorem dX8_within_7 : decode cX8_within 7 = .ok (.lload 4, 2) := by decide +kernel
theorem dX8_within_9 : decode cX8_within 9 = .ok (.lcmp, 1) := by decide +kernel
theorem dX8_within_10 : decode cX8_within 10 = .ok (.ifCond .gt 7, 3) := by decide +kernel
theorem dX8_within_13 : decode cX8_within 13 = .ok (.iconst 1, 1) := by decide +kernel
theorem dX8_within_14 : decode cX8_within 14 = .ok (.goto 4, 3) := by decide +kernel
theorem dX8_within_17 : decode cX8_within 17 = .ok (.iconst 0, 1) := by decide +kernel
theorem dX8_within_18 : decode cX8_within 18 = .ok (.ireturn, 1) := by decide +kernel
theorem dX8_size_0 : decode cX8_size 0 = .ok (.lload_n 0, 1) := by decide +kernel
theorem dX8_size_1 : decode cX8_size 1 = .ok (.lconst 0, 1) := by decide +kernel
theorem dX8_size_2 : decode cX8_size 2 = .ok (.lcmp, 1) := by decide +kernel
theorem dX8_size_3 : decode cX8_size 3 = .ok (.ifCond .ge 8, 3) := by decide +kernel
theorem dX8_size_6 : decode cX8_size 6 = .ok (.lload_n 0, 1) := by decide +kernel
theorem dX8_size_7 : decode cX8_size 7 = .ok (.lneg, 1) := by decide +kernel
theorem dX8_size_8 : decode cX8_size 8 = .ok (.goto 4, 3) := by decide +kernel
theorem dX8_size_11 : decode cX8_size 11 = .ok (.lload_n 0, 1) := by decide +kernel
theorem dX8_size_12 : decode cX8_size 12 = .ok (.lreturn, 1) := by decide +kernel
theorem dX8_loads_0 : decode cX8_loads 0 = .ok (.iconst 0, 1) := by decide +kernel
theorem dX8_loads_1 : decode cX8_loads 1 = .ok (.istore_n 2, 1) := by decide +kernel
theorem dX8_loads_2 : decode cX8_loads 2 = .ok (.iload_n 2, 1) := by decide +kernel
theorem dX8_loads_3 : decode cX8_loads 3 = .ok (.iconst 5, 1) := by decide +kernel
theorem dX8_loads_4 : decode cX8_loads 4 = .ok (.if_icmp .ge 25, 3) := by decide +kernel
theorem dX8_loads_7 : decode cX8_loads 7 = .ok (.aload_n 0, 1) := by decide +kernel
theorem dX8_loads_8 : decode cX8_loads 8 = .ok (.getfield 13, 3) := by decide +kernel
theorem dX8_loads_11 : decode cX8_loads 11 = .ok (.iload_n 2, 1) := by decide +kernel
theorem dX8_loads_12 : decode cX8_loads 12 = .ok (.aload_n 0, 1) := by decide +kernel
theorem dX8_loads_13 : decode cX8_loads 13 = .ok (.getfield 7, 3) := by decide +kernel
theorem dX8_loads_16 : decode cX8_loads 16 = .ok (.iconst 5, 1) := by decide +kernel
theorem dX8_loads_17 : decode cX8_loads 17 = .ok (.iload_n 1, 1) := by decide +kernel
theorem dX8_loads_18 : decode cX8_loads 18 = .ok (.imul, 1) := by decide +kernel
theorem dX8_loads_19 : decode cX8_loads 19 = .ok (.iload_n 2, 1) := by decide +kernel
theorem dX8_loads_20 : decode cX8_loads 20 = .ok (.iadd, 1) := by decide +kernel
theorem dX8_loads_21 : decode cX8_loads 21 = .ok (.laload, 1) := by decide +kernel
theorem dX8_loads_22 : decode cX8_loads 22 = .ok (.lastore, 1) := by decide +kernel
theorem dX8_loads_23 : decode cX8_loads 23 = .ok (.iinc 2 1, 3) := by decide +kernel
theorem dX8_loads_26 : decode cX8_loads 26 = .ok (.goto (-24), 3) := by decide +kernel
theorem dX8_loads_29 : decode cX8_loads 29 = .ok (.return_, 1) := by decide +kernel
theorem dX8_isCurve_0 : decode cX8_isCurve 0 = .ok (.iload_n 1, 1) := by decide +kernel
theorem dX8_isCurve_1 : decode cX8_isCurve 1 = .ok (.ifCond .lt 15, 3) := by decide +kernel
theorem dX8_isCurve_4 : decode cX8_isCurve 4 = .ok (.iload_n 1, 1) := by decide +kernel
theorem dX8_isCurve_5 : decode cX8_isCurve 5 = .ok (.aload_n 0, 1) := by decide +kernel
theorem dX8_isCurve_6 : decode cX8_isCurve 6 = .ok (.getfield 45, 3) := by decide +kernel
theorem dX8_isCurve_9 : decode cX8_isCurve 9 = .ok (.if_icmp .ge 7, 3) := by decide +kernel
theorem dX8_isCurve_12 : decode cX8_isCurve 12 = .ok (.iconst 1, 1) := by decide +kernel
theorem dX8_isCurve_13 : decode cX8_isCurve 13 = .ok (.goto 4, 3) := by decide +kernel
theorem dX8_isCurve_16 : decode cX8_isCurve 16 = .ok (.iconst 0, 1) := by decide +kernel
theorem dX8_isCurve_17 : decode cX8_isCurve 17 = .ok (.ireturn, 1) := by decide +kernel
theorem dX8_b2_0 : decode cX8_b2 0 = .ok (.aload_n 0, 1) := by decide +kernel
theorem dX8_b2_1 : decode cX8_b2 1 = .ok (.getfield 13, 3) := by decide +kernel
theorem dX8_b2_4 : decode cX8_b2 4 = .ok (.iconst 0, 1) := by decide +kernel
theorem dX8_b2_5 : decode cX8_b2 5 = .ok (.laload, 1) := by decide +kernel
theorem dX8_b2_6 : decode cX8_b2 6 = .ok (.aload_n 0, 1) := by decide +kernel
theorem dX8_b2_7 : decode cX8_b2 7 = .ok (.getfield 13, 3) := by decide +kernel
theorem dX8_b2_10 : decode cX8_b2 10 = .ok (.iconst 0, 1) := by decide +kernel
theorem dX8_b2_11 : decode cX8_b2 11 = .ok (.laload, 1) := by decide +kernel
theorem dX8_b2_12 : decode cX8_b2 12 = .ok (.lmul, 1) := by decide +kernel
theorem dX8_b2_13 : decode cX8_b2 13 = .ok (.ldc2_w 48, 3) := by decide +kernel
theorem dX8_b2_16 : decode cX8_b2 16 = .ok (.aload_n 0, 1) := by decide +kernel
theorem dX8_b2_17 : decode cX8_b2 17 = .ok (.getfield 13, 3) := by decide +kernel
theorem dX8_b2_20 : decode cX8_b2 20 = .ok (.iconst 1, 1) := by decide +kernel
theorem dX8_b2_21 : decode cX8_b2 21 = .ok (.laload, 1) := by decide +kernel
theorem dX8_b2_22 : decode cX8_b2 22 = .ok (.lmul, 1) := by decide +kernel
theorem dX8_b2_23 : decode cX8_b2 23 = .ok (.ladd, 1) := by decide +kernel
theorem dX8_b2_24 : decode cX8_b2 24 = .ok (.lreturn, 1) := by decide +kernel
theorem dX8_b4_0 : decode cX8_b4 0 = .ok (.aload_n 0, 1) := by decide +kernel
theorem dX8_b4_1 : decode cX8_b4 1 = .ok (.getfield 13, 3) := by decide +kernel
theorem dX8_b4_4 : decode cX8_b4 4 = .ok (.iconst 0, 1) := by decide +kernel
theorem dX8_b4_5 : decode cX8_b4 5 = .ok (.laload, 1) := by decide +kernel
theorem dX8_b4_6 : decode cX8_b4 6 = .ok (.aload_n 0, 1) := by decide +kernel
theorem dX8_b4_7 : decode cX8_b4 7 = .ok (.getfield 13, 3) := by decide +kernel
theorem dX8_b4_10 : decode cX8_b4 10 = .ok (.iconst 2, 1) := by decide +kernel
theorem dX8_b4_11 : decode cX8_b4 11 = .ok (.laload, 1) := by decide +kernel
theorem dX8_b4_12 : decode cX8_b4 12 = .ok (.lmul, 1) := by decide +kernel
theorem dX8_b4_13 : decode cX8_b4 13 = .ok (.ldc2_w 50, 3) := by decide +kernel
theorem dX8_b4_16 : decode cX8_b4 16 = .ok (.aload_n 0, 1) := by decide +kernel
theorem dX8_b4_17 : decode cX8_b4 17 = .ok (.getfield 13, 3) := by decide +kernel
theorem dX8_b4_20 : decode cX8_b4 20 = .ok (.iconst 3, 1) := by decide +kernel
theorem dX8_b4_21 : decode cX8_b4 21 = .ok (.laload, 1) := by decide +kernel
theorem dX8_b4_22 : decode cX8_b4 22 = .ok (.lmul, 1) := by decide +kernel
theorem dX8_b4_23 : decode cX8_b4 23 = .ok (.ladd, 1) := by decide +kernel
theorem dX8_b4_24 : decode cX8_b4 24 = .ok (.lreturn, 1) := by decide +kernel
theorem dX8_b6_0 : decode cX8_b6 0 = .ok (.aload_n 0, 1) := by decide +kernel
theorem dX8_b6_1 : decode cX8_b6 1 = .ok (.getfield 13, 3) := by decide +kernel
theorem dX8_b6_4 : decode cX8_b6 4 = .ok (.iconst 2, 1) := by decide +kernel
theorem dX8_b6_5 : decode cX8_b6 5 = .ok (.laload, 1) := by decide +kernel
theorem dX8_b6_6 : decode cX8_b6 6 = .ok (.aload_n 0, 1) := by decide +kernel
theorem dX8_b6_7 : decode cX8_b6 7 = .ok (.getfield 13, 3) := by decide +kernel
theorem dX8_b6_10 : decode cX8_b6 10 = .ok (.iconst 2, 1) := by decide +kernel
theorem dX8_b6_11 : decode cX8_b6 11 = .ok (.laload, 1) := by decide +kernel
theorem dX8_b6_12 : decode cX8_b6 12 = .ok (.lmul, 1) := by decide +kernel
theorem dX8_b6_13 : decode cX8_b6 13 = .ok (.ldc2_w 48, 3) := by decide +kernel
theorem dX8_b6_16 : decode cX8_b6 16 = .ok (.aload_n 0, 1) := by decide +kernel
theorem dX8_b6_17 : decode cX8_b6 17 = .ok (.getfield 13, 3) := by decide +kernel
theorem dX8_b6_20 : decode cX8_b6 20 = .ok (.iconst 4, 1) := by decide +kernel
theorem dX8_b6_21 : decode cX8_b6 21 = .ok (.laload, 1) := by decide +kernel
theorem dX8_b6_22 : decode cX8_b6 22 = .ok (.lmul, 1) := by decide +kernel
theorem dX8_b6_23 : decode cX8_b6 23 = .ok (.ladd, 1) := by decide +kernel
theorem dX8_b6_24 : decode cX8_b6 24 = .ok (.lreturn, 1) := by decide +kernel
theorem dX8_b8_0 : decode cX8_b8 0 = .ok (.aload_n 0, 1) := by decide +kernel
theorem dX8_b8_1 : decode cX8_b8 1 = .ok (.getfield 13, 3) := by decide +kernel
theorem dX8_b8_4 : decode cX8_b8 4 = .ok (.iconst 0, 1) := by decide +kernel
theorem dX8_b8_5 : decode cX8_b8 5 = .ok (.laload, 1) := by decide +kernel
theorem dX8_b8_6 : decode cX8_b8 6 = .ok (.aload_n 0, 1) := by decide +kernel
theorem dX8_b8_7 : decode cX8_b8 7 = .ok (.getfield 13, 3) := by decide +kernel
theorem dX8_b8_10 : decode cX8_b8 10 = .ok (.iconst 0, 1) := by decide +kernel
theorem dX8_b8_11 : decode cX8_b8 11 = .ok (.laload, 1) := by decide +kernel
theorem dX8_b8_12 : decode cX8_b8 12 = .ok (.lmul, 1) := by decide +kernel
theorem dX8_b8_13 : decode cX8_b8 13 = .ok (.aload_n 0, 1) := by decide +kernel
theorem dX8_b8_14 : decode cX8_b8 14 = .ok (.getfield 13, 3) := by decide +kernel
theorem dX8_b8_17 : decode cX8_b8 17 = .ok (.iconst 4, 1) := by decide +kernel
theorem dX8_b8_18 : decode cX8_b8 18 = .ok (.laload, 1) := by decide +kernel
theorem dX8_b8_19 : decode cX8_b8 19 = .ok (.lmul, 1) := by decide +kernel
theorem dX8_b8_20 : decode cX8_b8 20 = .ok (.ldc2_w 48, 3) := by decide +kernel
theorem dX8_b8_23 : decode cX8_b8 23 = .ok (.aload_n 0, 1) := by decide +kernel
theorem dX8_b8_24 : decode cX8_b8 24 = .ok (.getfield 13, 3) := by decide +kernel
theorem dX8_b8_27 : decode cX8_b8 27 = .ok (.iconst 1, 1) := by decide +kernel
theorem dX8_b8_28 : decode cX8_b8 28 = .ok (.laload, 1) := by decide +kernel
theorem dX8_b8_29 : decode cX8_b8 29 = .ok (.lmul, 1) := by decide +kernel
theorem dX8_b8_30 : decode cX8_b8 30 = .ok (.aload_n 0, 1) := by decide +kernel
theorem dX8_b8_31 : decode cX8_b8 31 = .ok (.getfield 13, 3) := by decide +kernel
theorem dX8_b8_34 : decode cX8_b8 34 = .ok (.iconst 4, 1) := by decide +kernel
theorem dX8_b8_35 : decode cX8_b8 35 = .ok (.laload, 1) := by decide +kernel
theorem dX8_b8_36 : decode cX8_b8 36 = .ok (.lmul, 1) := by decide +kernel
theorem dX8_b8_37 : decode cX8_b8 37 = .ok (.ladd, 1) := by decide +kernel
theorem dX8_b8_38 : decode cX8_b8 38 = .ok (.aload_n 0, 1) := by decide +kernel
theorem dX8_b8_39 : decode cX8_b8 39 = .ok (.getfield 13, 3) := by decide +kernel
theorem dX8_b8_42 : decode cX8_b8 42 = .ok (.iconst 0, 1) := by decide +kernel
theorem dX8_b8_43 : decode cX8_b8 43 = .ok (.laload, 1) := by decide +kernel
theorem dX8_b8_44 : decode cX8_b8 44 = .ok (.aload_n 0, 1) := by decide +kernel
theorem dX8_b8_45 : decode cX8_b8 45 = .ok (.getfield 13, 3) := by decide +kernel
theorem dX8_b8_48 : decode cX8_b8 48 = .ok (.iconst 2, 1) := by decide +kernel
theorem dX8_b8_49 : decode cX8_b8 49 = .ok (.laload, 1) := by decide +kernel
theorem dX8_b8_50 : decode cX8_b8 50 = .ok (.lmul, 1) := by decide +kernel
theorem dX8_b8_51 : decode cX8_b8 51 = .ok (.aload_n 0, 1) := by decide +kernel
theorem dX8_b8_52 : decode cX8_b8 52 = .ok (.getfield 13, 3) := by decide +kernel
theorem dX8_b8_55 : decode cX8_b8 55 = .ok (.iconst 3, 1) := by decide +kernel
theorem dX8_b8_56 : decode cX8_b8 56 = .ok (.laload, 1) := by decide +kernel
theorem dX8_b8_57 : decode cX8_b8 57 = .ok (.lmul, 1) := by decide +kernel
theorem dX8_b8_58 : decode cX8_b8 58 = .ok (.lsub, 1) := by decide +kernel
theorem dX8_b8_59 : decode cX8_b8 59 = .ok (.aload_n 0, 1) := by decide +kernel
theorem dX8_b8_60 : decode cX8_b8 60 = .ok (.getfield 13, 3) := by decide +kernel
theorem dX8_b8_63 : decode cX8_b8 63 = .ok (.iconst 1, 1) := by decide +kernel
theorem dX8_b8_64 : decode cX8_b8 64 = .ok (.laload, 1) := by decide +kernel
theorem dX8_b8_65 : decode cX8_b8 65 = .ok (.aload_n 0, 1) := by decide +kernel
theorem dX8_b8_66 : decode cX8_b8 66 = .ok (.getfield 13, 3) := by decide +kernel
theorem dX8_b8_69 : decode cX8_b8 69 = .ok (.iconst 2, 1) := by decide +kernel
theorem dX8_b8_70 : decode cX8_b8 70 = .ok (.laload, 1) := by decide +kernel
theorem dX8_b8_71 : decode cX8_b8 71 = .ok (.lmul, 1) := by decide +kernel
theorem dX8_b8_72 : decode cX8_b8 72 = .ok (.aload_n 0, 1) := by decide +kernel
theorem dX8_b8_73 : decode cX8_b8 73 = .ok (.getfield 13, 3) := by decide +kernel
theorem dX8_b8_76 : decode cX8_b8 76 = .ok (.iconst 2, 1) := by decide +kernel
theorem dX8_b8_77 : decode cX8_b8 77 = .ok (.laload, 1) := by decide +kernel
theorem dX8_b8_78 : decode cX8_b8 78 = .ok (.lmul, 1) := by decide +kernel
theorem dX8_b8_79 : decode cX8_b8 79 = .ok (.ladd, 1) := by decide +kernel
theorem dX8_b8_80 : decode cX8_b8 80 = .ok (.aload_n 0, 1) := by decide +kernel
theorem dX8_b8_81 : decode cX8_b8 81 = .ok (.getfield 13, 3) := by decide +kernel
theorem dX8_b8_84 : decode cX8_b8 84 = .ok (.iconst 3, 1) := by decide +kernel
theorem dX8_b8_85 : decode cX8_b8 85 = .ok (.laload, 1) := by decide +kernel
theorem dX8_b8_86 : decode cX8_b8 86 = .ok (.aload_n 0, 1) := by decide +kernel
theorem dX8_b8_87 : decode cX8_b8 87 = .ok (.getfield 13, 3) := by decide +kernel
theorem dX8_b8_90 : decode cX8_b8 90 = .ok (.iconst 3, 1) := by decide +kernel
theorem dX8_b8_91 : decode cX8_b8 91 = .ok (.laload, 1) := by decide +kernel
theorem dX8_b8_92 : decode cX8_b8 92 = .ok (.lmul, 1) := by decide +kernel
theorem dX8_b8_93 : decode cX8_b8 93 = .ok (.lsub, 1) := by decide +kernel
theorem dX8_b8_94 : decode cX8_b8 94 = .ok (.lreturn, 1) := by decide +kernel
theorem dX8_c4_0 : decode cX8_c4 0 = .ok (.aload_n 0, 1) := by decide +kernel
theorem dX8_c4_1 : decode cX8_c4 1 = .ok (.invokevirtual 52, 3) := by decide +kernel
theorem dX8_c4_4 : decode cX8_c4 4 = .ok (.aload_n 0, 1) := by decide +kernel
theorem dX8_c4_5 : decode cX8_c4 5 = .ok (.invokevirtual 52, 3) := by decide +kernel
theorem dX8_c4_8 : decode cX8_c4 8 = .ok (.lmul, 1) := by decide +kernel
theorem dX8_c4_9 : decode cX8_c4 9 = .ok (.ldc2_w 56, 3) := by decide +kernel
theorem dX8_c4_12 : decode cX8_c4 12 = .ok (.aload_n 0, 1) := by decide +kernel
theorem dX8_c4_13 : decode cX8_c4 13 = .ok (.invokevirtual 58, 3) := by decide +kernel
theorem dX8_c4_16 : decode cX8_c4 16 = .ok (.lmul, 1) := by decide +kernel
theorem dX8_c4_17 : decode cX8_c4 17 = .ok (.lsub, 1) := by decide +kernel
theorem dX8_c4_18 : decode cX8_c4 18 = .ok (.lreturn, 1) := by decide +kernel
theorem dX8_c6_0 : decode cX8_c6 0 = .ok (.ldc2_w 61, 3) := by decide +kernel
theorem dX8_c6_3 : decode cX8_c6 3 = .ok (.aload_n 0, 1) := by decide +kernel
theorem dX8_c6_4 : decode cX8_c6 4 = .ok (.invokevirtual 52, 3) := by decide +kernel
theorem dX8_c6_7 : decode cX8_c6 7 = .ok (.lmul, 1) := by decide +kernel
theorem dX8_c6_8 : decode cX8_c6 8 = .ok (.aload_n 0, 1) := by decide +kernel
theorem dX8_c6_9 : decode cX8_c6 9 = .ok (.invokevirtual 58, 3) := by decide +kernel
theorem dX8_c6_12 : decode cX8_c6 12 = .ok (.lmul, 1) := by decide +kernel
theorem dX8_c6_13 : decode cX8_c6 13 = .ok (.aload_n 0, 1) := by decide +kernel
theorem dX8_c6_14 : decode cX8_c6 14 = .ok (.invokevirtual 52, 3) := by decide +kernel
theorem dX8_c6_17 : decode cX8_c6 17 = .ok (.aload_n 0, 1) := by decide +kernel
theorem dX8_c6_18 : decode cX8_c6 18 = .ok (.invokevirtual 52, 3) := by decide +kernel
theorem dX8_c6_21 : decode cX8_c6 21 = .ok (.lmul, 1) := by decide +kernel
theorem dX8_c6_22 : decode cX8_c6 22 = .ok (.aload_n 0, 1) := by decide +kernel
theorem dX8_c6_23 : decode cX8_c6 23 = .ok (.invokevirtual 52, 3) := by decide +kernel
theorem dX8_c6_26 : decode cX8_c6 26 = .ok (.lmul, 1) := by decide +kernel
theorem dX8_c6_27 : decode cX8_c6 27 = .ok (.lsub, 1) := by decide +kernel
theorem dX8_c6_28 : decode cX8_c6 28 = .ok (.ldc2_w 63, 3) := by decide +kernel
theorem dX8_c6_31 : decode cX8_c6 31 = .ok (.aload_n 0, 1) := by decide +kernel
theorem dX8_c6_32 : decode cX8_c6 32 = .ok (.invokevirtual 65, 3) := by decide +kernel
theorem dX8_c6_35 : decode cX8_c6 35 = .ok (.lmul, 1) := by decide +kernel
theorem dX8_c6_36 : decode cX8_c6 36 = .ok (.lsub, 1) := by decide +kernel
theorem dX8_c6_37 : decode cX8_c6 37 = .ok (.lreturn, 1) := by decide +kernel
theorem dX8_disc_0 : decode cX8_disc 0 = .ok (.ldc2_w 68, 3) := by decide +kernel
theorem dX8_disc_3 : decode cX8_disc 3 = .ok (.aload_n 0, 1) := by decide +kernel
theorem dX8_disc_4 : decode cX8_disc 4 = .ok (.invokevirtual 52, 3) := by decide +kernel
theorem dX8_disc_7 : decode cX8_disc 7 = .ok (.lmul, 1) := by decide +kernel
theorem dX8_disc_8 : decode cX8_disc 8 = .ok (.aload_n 0, 1) := by decide +kernel
theorem dX8_disc_9 : decode cX8_disc 9 = .ok (.invokevirtual 58, 3) := by decide +kernel
theorem dX8_disc_12 : decode cX8_disc 12 = .ok (.lmul, 1) := by decide +kernel
theorem dX8_disc_13 : decode cX8_disc 13 = .ok (.aload_n 0, 1) := by decide +kernel
theorem dX8_disc_14 : decode cX8_disc 14 = .ok (.invokevirtual 65, 3) := by decide +kernel
theorem dX8_disc_17 : decode cX8_disc 17 = .ok (.lmul, 1) := by decide +kernel
theorem dX8_disc_18 : decode cX8_disc 18 = .ok (.aload_n 0, 1) := by decide +kernel
theorem dX8_disc_19 : decode cX8_disc 19 = .ok (.invokevirtual 52, 3) := by decide +kernel
theorem dX8_disc_22 : decode cX8_disc 22 = .ok (.aload_n 0, 1) := by decide +kernel
theorem dX8_disc_23 : decode cX8_disc 23 = .ok (.invokevirtual 52, 3) := by decide +kernel
theorem dX8_disc_26 : decode cX8_disc 26 = .ok (.lmul, 1) := by decide +kernel
theorem dX8_disc_27 : decode cX8_disc 27 = .ok (.aload_n 0, 1) := by decide +kernel
theorem dX8_disc_28 : decode cX8_disc 28 = .ok (.invokevirtual 70, 3) := by decide +kernel
theorem dX8_disc_31 : decode cX8_disc 31 = .ok (.lmul, 1) := by decide +kernel
theorem dX8_disc_32 : decode cX8_disc 32 = .ok (.lsub, 1) := by decide +kernel
theorem dX8_disc_33 : decode cX8_disc 33 = .ok (.ldc2_w 73, 3) := by decide +kernel
theorem dX8_disc_36 : decode cX8_disc 36 = .ok (.aload_n 0, 1) := by decide +kernel
theorem dX8_disc_37 : decode cX8_disc 37 = .ok (.invokevirtual 58, 3) := by decide +kernel
theorem dX8_disc_40 : decode cX8_disc 40 = .ok (.lmul, 1) := by decide +kernel
theorem dX8_disc_41 : decode cX8_disc 41 = .ok (.aload_n 0, 1) := by decide +kernel
theorem dX8_disc_42 : decode cX8_disc 42 = .ok (.invokevirtual 58, 3) := by decide +kernel
theorem dX8_disc_45 : decode cX8_disc 45 = .ok (.lmul, 1) := by decide +kernel
theorem dX8_disc_46 : decode cX8_disc 46 = .ok (.aload_n 0, 1) := by decide +kernel
theorem dX8_disc_47 : decode cX8_disc 47 = .ok (.invokevirtual 58, 3) := by decide +kernel
theorem dX8_disc_50 : decode cX8_disc 50 = .ok (.lmul, 1) := by decide +kernel
theorem dX8_disc_51 : decode cX8_disc 51 = .ok (.lsub, 1) := by decide +kernel
theorem dX8_disc_52 : decode cX8_disc 52 = .ok (.ldc2_w 75, 3) := by decide +kernel
theorem dX8_disc_55 : decode cX8_disc 55 = .ok (.aload_n 0, 1) := by decide +kernel
theorem dX8_disc_56 : decode cX8_disc 56 = .ok (.invokevirtual 65, 3) := by decide +kernel
theorem dX8_disc_59 : decode cX8_disc 59 = .ok (.lmul, 1) := by decide +kernel
theorem dX8_disc_60 : decode cX8_disc 60 = .ok (.aload_n 0, 1) := by decide +kernel
theorem dX8_disc_61 : decode cX8_disc 61 = .ok (.invokevirtual 65, 3) := by decide +kernel
theorem dX8_disc_64 : decode cX8_disc 64 = .ok (.lmul, 1) := by decide +kernel
theorem dX8_disc_65 : decode cX8_disc 65 = .ok (.lsub, 1) := by decide +kernel
theorem dX8_disc_66 : decode cX8_disc 66 = .ok (.lreturn, 1) := by decide +kernel
theorem dX8_changes_0 : decode cX8_changes 0 = .ok (.aload_n 0, 1) := by decide +kernel
theorem dX8_changes_1 : decode cX8_changes 1 = .ok (.getfield 13, 3) := by decide +kernel
theorem dX8_changes_4 : decode cX8_changes 4 = .ok (.iconst 0, 1) := by decide +kernel
theorem dX8_changes_5 : decode cX8_changes 5 = .ok (.laload, 1) := by decide +kernel
theorem dX8_changes_6 : decode cX8_changes 6 = .ok (.lstore 7, 2) := by decide +kernel
theorem dX8_changes_8 : decode cX8_changes 8 = .ok (.aload_n 0, 1) := by decide +kernel
theorem dX8_changes_9 : decode cX8_changes 9 = .ok (.getfield 13, 3) := by decide +kernel
theorem dX8_changes_12 : decode cX8_changes 12 = .ok (.iconst 1, 1) := by decide +kernel
theorem dX8_changes_13 : decode cX8_changes 13 = .ok (.laload, 1) := by decide +kernel
theorem dX8_changes_14 : decode cX8_changes 14 = .ok (.lstore 9, 2) := by decide +kernel
theorem dX8_changes_16 : decode cX8_changes 16 = .ok (.aload_n 0, 1) := by decide +kernel
theorem dX8_changes_17 : decode cX8_changes 17 = .ok (.getfield 13, 3) := by decide +kernel
theorem dX8_changes_20 : decode cX8_changes 20 = .ok (.iconst 2, 1) := by decide +kernel
theorem dX8_changes_21 : decode cX8_changes 21 = .ok (.laload, 1) := by decide +kernel
theorem dX8_changes_22 : decode cX8_changes 22 = .ok (.lstore 11, 2) := by decide +kernel
theorem dX8_changes_24 : decode cX8_changes 24 = .ok (.aload_n 0, 1) := by decide +kernel
theorem dX8_changes_25 : decode cX8_changes 25 = .ok (.getfield 13, 3) := by decide +kernel
theorem dX8_changes_28 : decode cX8_changes 28 = .ok (.iconst 3, 1) := by decide +kernel
theorem dX8_changes_29 : decode cX8_changes 29 = .ok (.laload, 1) := by decide +kernel
theorem dX8_changes_30 : decode cX8_changes 30 = .ok (.lstore 13, 2) := by decide +kernel
theorem dX8_changes_32 : decode cX8_changes 32 = .ok (.aload_n 0, 1) := by decide +kernel
theorem dX8_changes_33 : decode cX8_changes 33 = .ok (.getfield 13, 3) := by decide +kernel
theorem dX8_changes_36 : decode cX8_changes 36 = .ok (.iconst 0, 1) := by decide +kernel
theorem dX8_changes_37 : decode cX8_changes 37 = .ok (.lload 7, 2) := by decide +kernel
theorem dX8_changes_39 : decode cX8_changes 39 = .ok (.ldc2_w 50, 3) := by decide +kernel
theorem dX8_changes_42 : decode cX8_changes 42 = .ok (.lload_n 3, 1) := by decide +kernel
theorem dX8_changes_43 : decode cX8_changes 43 = .ok (.lmul, 1) := by decide +kernel
theorem dX8_changes_44 : decode cX8_changes 44 = .ok (.ladd, 1) := by decide +kernel
theorem dX8_changes_45 : decode cX8_changes 45 = .ok (.lastore, 1) := by decide +kernel
theorem dX8_changes_46 : decode cX8_changes 46 = .ok (.aload_n 0, 1) := by decide +kernel
theorem dX8_changes_47 : decode cX8_changes 47 = .ok (.getfield 13, 3) := by decide +kernel
theorem dX8_changes_50 : decode cX8_changes 50 = .ok (.iconst 1, 1) := by decide +kernel
theorem dX8_changes_51 : decode cX8_changes 51 = .ok (.lload 9, 2) := by decide +kernel
theorem dX8_changes_53 : decode cX8_changes 53 = .ok (.lload_n 3, 1) := by decide +kernel
theorem dX8_changes_54 : decode cX8_changes 54 = .ok (.lload 7, 2) := by decide +kernel
theorem dX8_changes_56 : decode cX8_changes 56 = .ok (.lmul, 1) := by decide +kernel
theorem dX8_changes_57 : decode cX8_changes 57 = .ok (.lsub, 1) := by decide +kernel
theorem dX8_changes_58 : decode cX8_changes 58 = .ok (.ldc2_w 77, 3) := by decide +kernel
theorem dX8_changes_61 : decode cX8_changes 61 = .ok (.lload_n 1, 1) := by decide +kernel
theorem dX8_changes_62 : decode cX8_changes 62 = .ok (.lmul, 1) := by decide +kernel
theorem dX8_changes_63 : decode cX8_changes 63 = .ok (.ladd, 1) := by decide +kernel
theorem dX8_changes_64 : decode cX8_changes 64 = .ok (.lload_n 3, 1) := by decide +kernel
theorem dX8_changes_65 : decode cX8_changes 65 = .ok (.lload_n 3, 1) := by decide +kernel
theorem dX8_changes_66 : decode cX8_changes 66 = .ok (.lmul, 1) := by decide +kernel
theorem dX8_changes_67 : decode cX8_changes 67 = .ok (.lsub, 1) := by decide +kernel
theorem dX8_changes_68 : decode cX8_changes 68 = .ok (.lastore, 1) := by decide +kernel
theorem dX8_changes_69 : decode cX8_changes 69 = .ok (.aload_n 0, 1) := by decide +kernel
theorem dX8_changes_70 : decode cX8_changes 70 = .ok (.getfield 13, 3) := by decide +kernel
theorem dX8_changes_73 : decode cX8_changes 73 = .ok (.iconst 2, 1) := by decide +kernel
theorem dX8_changes_74 : decode cX8_changes 74 = .ok (.lload 11, 2) := by decide +kernel
theorem dX8_changes_76 : decode cX8_changes 76 = .ok (.lload_n 1, 1) := by decide +kernel
theorem dX8_changes_77 : decode cX8_changes 77 = .ok (.lload 7, 2) := by decide +kernel
theorem dX8_changes_79 : decode cX8_changes 79 = .ok (.lmul, 1) := by decide +kernel
theorem dX8_changes_80 : decode cX8_changes 80 = .ok (.ladd, 1) := by decide +kernel
theorem dX8_changes_81 : decode cX8_changes 81 = .ok (.ldc2_w 50, 3) := by decide +kernel
theorem dX8_changes_84 : decode cX8_changes 84 = .ok (.lload 5, 2) := by decide +kernel
theorem dX8_changes_86 : decode cX8_changes 86 = .ok (.lmul, 1) := by decide +kernel
theorem dX8_changes_87 : decode cX8_changes 87 = .ok (.ladd, 1) := by decide +kernel
theorem dX8_changes_88 : decode cX8_changes 88 = .ok (.lastore, 1) := by decide +kernel
theorem dX8_changes_89 : decode cX8_changes 89 = .ok (.aload_n 0, 1) := by decide +kernel
theorem dX8_changes_90 : decode cX8_changes 90 = .ok (.getfield 13, 3) := by decide +kernel
theorem dX8_changes_93 : decode cX8_changes 93 = .ok (.iconst 3, 1) := by decide +kernel
theorem dX8_changes_94 : decode cX8_changes 94 = .ok (.lload 13, 2) := by decide +kernel
theorem dX8_changes_96 : decode cX8_changes 96 = .ok (.lload_n 3, 1) := by decide +kernel
theorem dX8_changes_97 : decode cX8_changes 97 = .ok (.lload 11, 2) := by decide +kernel
theorem dX8_changes_99 : decode cX8_changes 99 = .ok (.lmul, 1) := by decide +kernel
theorem dX8_changes_100 : decode cX8_changes 100 = .ok (.lsub, 1) := by decide +kernel
theorem dX8_changes_101 : decode cX8_changes 101 = .ok (.ldc2_w 50, 3) := by decide +kernel
theorem dX8_changes_104 : decode cX8_changes 104 = .ok (.lload_n 1, 1) := by decide +kernel
theorem dX8_changes_105 : decode cX8_changes 105 = .ok (.lmul, 1) := by decide +kernel
theorem dX8_changes_106 : decode cX8_changes 106 = .ok (.lload 9, 2) := by decide +kernel
theorem dX8_changes_108 : decode cX8_changes 108 = .ok (.lmul, 1) := by decide +kernel
theorem dX8_changes_109 : decode cX8_changes 109 = .ok (.ladd, 1) := by decide +kernel
theorem dX8_changes_110 : decode cX8_changes 110 = .ok (.lload 5, 2) := by decide +kernel
theorem dX8_changes_112 : decode cX8_changes 112 = .ok (.lload_n 1, 1) := by decide +kernel
theorem dX8_changes_113 : decode cX8_changes 113 = .ok (.lload_n 3, 1) := by decide +kernel
theorem dX8_changes_114 : decode cX8_changes 114 = .ok (.lmul, 1) := by decide +kernel
theorem dX8_changes_115 : decode cX8_changes 115 = .ok (.ladd, 1) := by decide +kernel
theorem dX8_changes_116 : decode cX8_changes 116 = .ok (.lload 7, 2) := by decide +kernel
theorem dX8_changes_118 : decode cX8_changes 118 = .ok (.lmul, 1) := by decide +kernel
theorem dX8_changes_119 : decode cX8_changes 119 = .ok (.lsub, 1) := by decide +kernel
theorem dX8_changes_120 : decode cX8_changes 120 = .ok (.ldc2_w 77, 3) := by decide +kernel
theorem dX8_changes_123 : decode cX8_changes 123 = .ok (.lload_n 1, 1) := by decide +kernel
theorem dX8_changes_124 : decode cX8_changes 124 = .ok (.lmul, 1) := by decide +kernel
theorem dX8_changes_125 : decode cX8_changes 125 = .ok (.lload_n 1, 1) := by decide +kernel
theorem dX8_changes_126 : decode cX8_changes 126 = .ok (.lmul, 1) := by decide +kernel
theorem dX8_changes_127 : decode cX8_changes 127 = .ok (.ladd, 1) := by decide +kernel
theorem dX8_changes_128 : decode cX8_changes 128 = .ok (.ldc2_w 50, 3) := by decide +kernel
theorem dX8_changes_131 : decode cX8_changes 131 = .ok (.lload_n 3, 1) := by decide +kernel
theorem dX8_changes_132 : decode cX8_changes 132 = .ok (.lmul, 1) := by decide +kernel
theorem dX8_changes_133 : decode cX8_changes 133 = .ok (.lload 5, 2) := by decide +kernel
theorem dX8_changes_135 : decode cX8_changes 135 = .ok (.lmul, 1) := by decide +kernel
theorem dX8_changes_136 : decode cX8_changes 136 = .ok (.lsub, 1) := by decide +kernel
theorem dX8_changes_137 : decode cX8_changes 137 = .ok (.lastore, 1) := by decide +kernel
theorem dX8_changes_138 : decode cX8_changes 138 = .ok (.aload_n 0, 1) := by decide +kernel
theorem dX8_changes_139 : decode cX8_changes 139 = .ok (.getfield 13, 3) := by decide +kernel
theorem dX8_changes_142 : decode cX8_changes 142 = .ok (.iconst 4, 1) := by decide +kernel
theorem dX8_changes_143 : decode cX8_changes 143 = .ok (.aload_n 0, 1) := by decide +kernel
theorem dX8_changes_144 : decode cX8_changes 144 = .ok (.getfield 13, 3) := by decide +kernel
theorem dX8_changes_147 : decode cX8_changes 147 = .ok (.iconst 4, 1) := by decide +kernel
theorem dX8_changes_148 : decode cX8_changes 148 = .ok (.laload, 1) := by decide +kernel
theorem dX8_changes_149 : decode cX8_changes 149 = .ok (.lload_n 1, 1) := by decide +kernel
theorem dX8_changes_150 : decode cX8_changes 150 = .ok (.lload 13, 2) := by decide +kernel
theorem dX8_changes_152 : decode cX8_changes 152 = .ok (.lmul, 1) := by decide +kernel
theorem dX8_changes_153 : decode cX8_changes 153 = .ok (.ladd, 1) := by decide +kernel
theorem dX8_changes_154 : decode cX8_changes 154 = .ok (.lload_n 1, 1) := by decide +kernel
theorem dX8_changes_155 : decode cX8_changes 155 = .ok (.lload_n 1, 1) := by decide +kernel
theorem dX8_changes_156 : decode cX8_changes 156 = .ok (.lmul, 1) := by decide +kernel
theorem dX8_changes_157 : decode cX8_changes 157 = .ok (.lload 9, 2) := by decide +kernel
theorem dX8_changes_159 : decode cX8_changes 159 = .ok (.lmul, 1) := by decide +kernel
theorem dX8_changes_160 : decode cX8_changes 160 = .ok (.ladd, 1) := by decide +kernel
theorem dX8_changes_161 : decode cX8_changes 161 = .ok (.lload_n 1, 1) := by decide +kernel
theorem dX8_changes_162 : decode cX8_changes 162 = .ok (.lload_n 1, 1) := by decide +kernel
theorem dX8_changes_163 : decode cX8_changes 163 = .ok (.lmul, 1) := by decide +kernel
theorem dX8_changes_164 : decode cX8_changes 164 = .ok (.lload_n 1, 1) := by decide +kernel
theorem dX8_changes_165 : decode cX8_changes 165 = .ok (.lmul, 1) := by decide +kernel
theorem dX8_changes_166 : decode cX8_changes 166 = .ok (.ladd, 1) := by decide +kernel
theorem dX8_changes_167 : decode cX8_changes 167 = .ok (.lload 5, 2) := by decide +kernel
theorem dX8_changes_169 : decode cX8_changes 169 = .ok (.lload 11, 2) := by decide +kernel
theorem dX8_changes_171 : decode cX8_changes 171 = .ok (.lmul, 1) := by decide +kernel
theorem dX8_changes_172 : decode cX8_changes 172 = .ok (.lsub, 1) := by decide +kernel
theorem dX8_changes_173 : decode cX8_changes 173 = .ok (.lload 5, 2) := by decide +kernel
theorem dX8_changes_175 : decode cX8_changes 175 = .ok (.lload 5, 2) := by decide +kernel
theorem dX8_changes_177 : decode cX8_changes 177 = .ok (.lmul, 1) := by decide +kernel
theorem dX8_changes_178 : decode cX8_changes 178 = .ok (.lsub, 1) := by decide +kernel
theorem dX8_changes_179 : decode cX8_changes 179 = .ok (.lload_n 1, 1) := by decide +kernel
theorem dX8_changes_180 : decode cX8_changes 180 = .ok (.lload 5, 2) := by decide +kernel
theorem dX8_changes_182 : decode cX8_changes 182 = .ok (.lmul, 1) := by decide +kernel
theorem dX8_changes_183 : decode cX8_changes 183 = .ok (.lload 7, 2) := by decide +kernel
theorem dX8_changes_185 : decode cX8_changes 185 = .ok (.lmul, 1) := by decide +kernel
theorem dX8_changes_186 : decode cX8_changes 186 = .ok (.lsub, 1) := by decide +kernel
theorem dX8_changes_187 : decode cX8_changes 187 = .ok (.lastore, 1) := by decide +kernel
theorem dX8_changes_188 : decode cX8_changes 188 = .ok (.return_, 1) := by decide +kernel
theorem dX8_power_0 : decode cX8_power 0 = .ok (.lconst 1, 1) := by decide +kernel
theorem dX8_power_1 : decode cX8_power 1 = .ok (.lstore_n 3, 1) := by decide +kernel
theorem dX8_power_2 : decode cX8_power 2 = .ok (.iconst 0, 1) := by decide +kernel
theorem dX8_power_3 : decode cX8_power 3 = .ok (.istore 5, 2) := by decide +kernel
theorem dX8_power_5 : decode cX8_power 5 = .ok (.iload 5, 2) := by decide +kernel
theorem dX8_power_7 : decode cX8_power 7 = .ok (.iload_n 2, 1) := by decide +kernel
theorem dX8_power_8 : decode cX8_power 8 = .ok (.if_icmp .ge 13, 3) := by decide +kernel
theorem dX8_power_11 : decode cX8_power 11 = .ok (.lload_n 3, 1) := by decide +kernel
theorem dX8_power_12 : decode cX8_power 12 = .ok (.lload_n 0, 1) := by decide +kernel
theorem dX8_power_13 : decode cX8_power 13 = .ok (.lmul, 1) := by decide +kernel
theorem dX8_power_14 : decode cX8_power 14 = .ok (.lstore_n 3, 1) := by decide +kernel
theorem dX8_power_15 : decode cX8_power 15 = .ok (.iinc 5 1, 3) := by decide +kernel
theorem dX8_power_18 : decode cX8_power 18 = .ok (.goto (-13), 3) := by decide +kernel
theorem dX8_power_21 : decode cX8_power 21 = .ok (.lload_n 3, 1) := by decide +kernel
theorem dX8_power_22 : decode cX8_power 22 = .ok (.lreturn, 1) := by decide +kernel
theorem dX8_weight_0 : decode cX8_weight 0 = .ok (.iload_n 0, 1) := by decide +kernel
theorem dX8_weight_1 : decode cX8_weight 1 = .ok (.iconst 4, 1) := by decide +kernel
theorem dX8_weight_2 : decode cX8_weight 2 = .ok (.if_icmp .ne 8, 3) := by decide +kernel
theorem dX8_weight_5 : decode cX8_weight 5 = .ok (.bipush 6, 2) := by decide +kernel
theorem dX8_weight_7 : decode cX8_weight 7 = .ok (.goto 6, 3) := by decide +kernel
theorem dX8_weight_10 : decode cX8_weight 10 = .ok (.iload_n 0, 1) := by decide +kernel
theorem dX8_weight_11 : decode cX8_weight 11 = .ok (.iconst 1, 1) := by decide +kernel
theorem dX8_weight_12 : decode cX8_weight 12 = .ok (.iadd, 1) := by decide +kernel
theorem dX8_weight_13 : decode cX8_weight 13 = .ok (.ireturn, 1) := by decide +kernel
theorem dX8_shrinks_0 : decode cX8_shrinks 0 = .ok (.iconst 1, 1) := by decide +kernel
theorem dX8_shrinks_1 : decode cX8_shrinks 1 = .ok (.istore_n 3, 1) := by decide +kernel
theorem dX8_shrinks_2 : decode cX8_shrinks 2 = .ok (.iconst 0, 1) := by decide +kernel
theorem dX8_shrinks_3 : decode cX8_shrinks 3 = .ok (.istore 4, 2) := by decide +kernel
theorem dX8_shrinks_5 : decode cX8_shrinks 5 = .ok (.iload 4, 2) := by decide +kernel
theorem dX8_shrinks_7 : decode cX8_shrinks 7 = .ok (.iconst 5, 1) := by decide +kernel
theorem dX8_shrinks_8 : decode cX8_shrinks 8 = .ok (.if_icmp .ge 41, 3) := by decide +kernel
theorem dX8_shrinks_11 : decode cX8_shrinks 11 = .ok (.iload_n 3, 1) := by decide +kernel
theorem dX8_shrinks_12 : decode cX8_shrinks 12 = .ok (.ifCond .eq 29, 3) := by decide +kernel
theorem dX8_shrinks_15 : decode cX8_shrinks 15 = .ok (.aload_n 0, 1) := by decide +kernel
theorem dX8_shrinks_16 : decode cX8_shrinks 16 = .ok (.getfield 13, 3) := by decide +kernel
theorem dX8_shrinks_19 : decode cX8_shrinks 19 = .ok (.iload 4, 2) := by decide +kernel
theorem dX8_shrinks_21 : decode cX8_shrinks 21 = .ok (.laload, 1) := by decide +kernel
theorem dX8_shrinks_22 : decode cX8_shrinks 22 = .ok (.lload_n 1, 1) := by decide +kernel
theorem dX8_shrinks_23 : decode cX8_shrinks 23 = .ok (.iload 4, 2) := by decide +kernel
theorem dX8_shrinks_25 : decode cX8_shrinks 25 = .ok (.invokestatic 79, 3) := by decide +kernel
theorem dX8_shrinks_28 : decode cX8_shrinks 28 = .ok (.invokestatic 83, 3) := by decide +kernel
theorem dX8_shrinks_31 : decode cX8_shrinks 31 = .ok (.lrem, 1) := by decide +kernel
theorem dX8_shrinks_32 : decode cX8_shrinks 32 = .ok (.lconst 0, 1) := by decide +kernel
theorem dX8_shrinks_33 : decode cX8_shrinks 33 = .ok (.lcmp, 1) := by decide +kernel
theorem dX8_shrinks_34 : decode cX8_shrinks 34 = .ok (.ifCond .ne 7, 3) := by decide +kernel
theorem dX8_shrinks_37 : decode cX8_shrinks 37 = .ok (.iconst 1, 1) := by decide +kernel
theorem dX8_shrinks_38 : decode cX8_shrinks 38 = .ok (.goto 4, 3) := by decide +kernel
theorem dX8_shrinks_41 : decode cX8_shrinks 41 = .ok (.iconst 0, 1) := by decide +kernel
theorem dX8_shrinks_42 : decode cX8_shrinks 42 = .ok (.istore_n 3, 1) := by decide +kernel
theorem dX8_shrinks_43 : decode cX8_shrinks 43 = .ok (.iinc 4 1, 3) := by decide +kernel
theorem dX8_shrinks_46 : decode cX8_shrinks 46 = .ok (.goto (-41), 3) := by decide +kernel
theorem dX8_shrinks_49 : decode cX8_shrinks 49 = .ok (.iconst 0, 1) := by decide +kernel
theorem dX8_shrinks_50 : decode cX8_shrinks 50 = .ok (.istore 4, 2) := by decide +kernel
theorem dX8_shrinks_52 : decode cX8_shrinks 52 = .ok (.iload 4, 2) := by decide +kernel
theorem dX8_shrinks_54 : decode cX8_shrinks 54 = .ok (.iconst 5, 1) := by decide +kernel
theorem dX8_shrinks_55 : decode cX8_shrinks 55 = .ok (.if_icmp .ge 32, 3) := by decide +kernel
theorem dX8_shrinks_58 : decode cX8_shrinks 58 = .ok (.iload_n 3, 1) := by decide +kernel
theorem dX8_shrinks_59 : decode cX8_shrinks 59 = .ok (.ifCond .eq 28, 3) := by decide +kernel
theorem dX8_shrinks_62 : decode cX8_shrinks 62 = .ok (.aload_n 0, 1) := by decide +kernel
theorem dX8_shrinks_63 : decode cX8_shrinks 63 = .ok (.getfield 13, 3) := by decide +kernel
theorem dX8_shrinks_66 : decode cX8_shrinks 66 = .ok (.iload 4, 2) := by decide +kernel
theorem dX8_shrinks_68 : decode cX8_shrinks 68 = .ok (.dup2, 1) := by decide +kernel
theorem dX8_shrinks_69 : decode cX8_shrinks 69 = .ok (.laload, 1) := by decide +kernel
theorem dX8_shrinks_70 : decode cX8_shrinks 70 = .ok (.lload_n 1, 1) := by decide +kernel
theorem dX8_shrinks_71 : decode cX8_shrinks 71 = .ok (.iload 4, 2) := by decide +kernel
theorem dX8_shrinks_73 : decode cX8_shrinks 73 = .ok (.invokestatic 79, 3) := by decide +kernel
theorem dX8_shrinks_76 : decode cX8_shrinks 76 = .ok (.invokestatic 83, 3) := by decide +kernel
theorem dX8_shrinks_79 : decode cX8_shrinks 79 = .ok (.ldiv, 1) := by decide +kernel
theorem dX8_shrinks_80 : decode cX8_shrinks 80 = .ok (.lastore, 1) := by decide +kernel
theorem dX8_shrinks_81 : decode cX8_shrinks 81 = .ok (.iinc 4 1, 3) := by decide +kernel
theorem dX8_shrinks_84 : decode cX8_shrinks 84 = .ok (.goto (-32), 3) := by decide +kernel
theorem dX8_shrinks_87 : decode cX8_shrinks 87 = .ok (.iload_n 3, 1) := by decide +kernel
theorem dX8_shrinks_88 : decode cX8_shrinks 88 = .ok (.ireturn, 1) := by decide +kernel
theorem dX8_isSmall_0 : decode cX8_isSmall 0 = .ok (.aload_n 0, 1) := by decide +kernel
theorem dX8_isSmall_1 : decode cX8_isSmall 1 = .ok (.invokevirtual 87, 3) := by decide +kernel
theorem dX8_isSmall_4 : decode cX8_isSmall 4 = .ok (.invokestatic 90, 3) := by decide +kernel
theorem dX8_isSmall_7 : decode cX8_isSmall 7 = .ok (.ldc2_w 94, 3) := by decide +kernel
theorem dX8_isSmall_10 : decode cX8_isSmall 10 = .ok (.lcmp, 1) := by decide +kernel
theorem dX8_isSmall_11 : decode cX8_isSmall 11 = .ok (.ifCond .gt 7, 3) := by decide +kernel
theorem dX8_isSmall_14 : decode cX8_isSmall 14 = .ok (.iconst 1, 1) := by decide +kernel
theorem dX8_isSmall_15 : decode cX8_isSmall 15 = .ok (.goto 4, 3) := by decide +kernel
theorem dX8_isSmall_18 : decode cX8_isSmall 18 = .ok (.iconst 0, 1) := by decide +kernel
theorem dX8_isSmall_19 : decode cX8_isSmall 19 = .ok (.istore_n 1, 1) := by decide +kernel
theorem dX8_isSmall_20 : decode cX8_isSmall 20 = .ok (.iconst 0, 1) := by decide +kernel
theorem dX8_isSmall_21 : decode cX8_isSmall 21 = .ok (.istore_n 2, 1) := by decide +kernel
theorem dX8_isSmall_22 : decode cX8_isSmall 22 = .ok (.iload_n 2, 1) := by decide +kernel
theorem dX8_isSmall_23 : decode cX8_isSmall 23 = .ok (.iconst 5, 1) := by decide +kernel
theorem dX8_isSmall_24 : decode cX8_isSmall 24 = .ok (.if_icmp .ge 35, 3) := by decide +kernel
theorem dX8_isSmall_27 : decode cX8_isSmall 27 = .ok (.iload_n 1, 1) := by decide +kernel
theorem dX8_isSmall_28 : decode cX8_isSmall 28 = .ok (.ifCond .eq 23, 3) := by decide +kernel
theorem dX8_isSmall_31 : decode cX8_isSmall 31 = .ok (.aload_n 0, 1) := by decide +kernel
theorem dX8_isSmall_32 : decode cX8_isSmall 32 = .ok (.getfield 13, 3) := by decide +kernel
theorem dX8_isSmall_35 : decode cX8_isSmall 35 = .ok (.iload_n 2, 1) := by decide +kernel
theorem dX8_isSmall_36 : decode cX8_isSmall 36 = .ok (.laload, 1) := by decide +kernel
theorem dX8_isSmall_37 : decode cX8_isSmall 37 = .ok (.invokestatic 90, 3) := by decide +kernel
theorem dX8_isSmall_40 : decode cX8_isSmall 40 = .ok (.ldc2_w 96, 3) := by decide +kernel
theorem dX8_isSmall_43 : decode cX8_isSmall 43 = .ok (.lcmp, 1) := by decide +kernel
theorem dX8_isSmall_44 : decode cX8_isSmall 44 = .ok (.ifCond .gt 7, 3) := by decide +kernel
theorem dX8_isSmall_47 : decode cX8_isSmall 47 = .ok (.iconst 1, 1) := by decide +kernel
theorem dX8_isSmall_48 : decode cX8_isSmall 48 = .ok (.goto 4, 3) := by decide +kernel
theorem dX8_isSmall_51 : decode cX8_isSmall 51 = .ok (.iconst 0, 1) := by decide +kernel
theorem dX8_isSmall_52 : decode cX8_isSmall 52 = .ok (.istore_n 1, 1) := by decide +kernel
theorem dX8_isSmall_53 : decode cX8_isSmall 53 = .ok (.iinc 2 1, 3) := by decide +kernel
theorem dX8_isSmall_56 : decode cX8_isSmall 56 = .ok (.goto (-34), 3) := by decide +kernel
theorem dX8_isSmall_59 : decode cX8_isSmall 59 = .ok (.iload_n 1, 1) := by decide +kernel
theorem dX8_isSmall_60 : decode cX8_isSmall 60 = .ok (.ireturn, 1) := by decide +kernel
theorem dX8_keeps_0 : decode cX8_keeps 0 = .ok (.aload_n 0, 1) := by decide +kernel
theorem dX8_keeps_1 : decode cX8_keeps 1 = .ok (.getfield 45, 3) := by decide +kernel
theorem dX8_keeps_4 : decode cX8_keeps 4 = .ok (.bipush 16, 2) := by decide +kernel
theorem dX8_keeps_6 : decode cX8_keeps 6 = .ok (.if_icmp .eq 10, 3) := by decide +kernel
theorem dX8_keeps_9 : decode cX8_keeps 9 = .ok (.aload_n 0, 1) := by decide +kernel
theorem dX8_keeps_10 : decode cX8_keeps 10 = .ok (.invokevirtual 98, 3) := by decide +kernel
theorem dX8_keeps_13 : decode cX8_keeps 13 = .ok (.ifCond .ne 5, 3) := by decide +kernel
theorem dX8_keeps_16 : decode cX8_keeps 16 = .ok (.iconst (-1), 1) := by decide +kernel
theorem dX8_keeps_17 : decode cX8_keeps 17 = .ok (.ireturn, 1) := by decide +kernel
theorem dX8_keeps_18 : decode cX8_keeps 18 = .ok (.iconst 0, 1) := by decide +kernel
theorem dX8_keeps_19 : decode cX8_keeps 19 = .ok (.istore_n 1, 1) := by decide +kernel
theorem dX8_keeps_20 : decode cX8_keeps 20 = .ok (.iload_n 1, 1) := by decide +kernel
theorem dX8_keeps_21 : decode cX8_keeps 21 = .ok (.iconst 5, 1) := by decide +kernel
theorem dX8_keeps_22 : decode cX8_keeps 22 = .ok (.if_icmp .ge 28, 3) := by decide +kernel
theorem dX8_keeps_25 : decode cX8_keeps 25 = .ok (.aload_n 0, 1) := by decide +kernel
theorem dX8_keeps_26 : decode cX8_keeps 26 = .ok (.getfield 7, 3) := by decide +kernel
theorem dX8_keeps_29 : decode cX8_keeps 29 = .ok (.iconst 5, 1) := by decide +kernel
theorem dX8_keeps_30 : decode cX8_keeps 30 = .ok (.aload_n 0, 1) := by decide +kernel
theorem dX8_keeps_31 : decode cX8_keeps 31 = .ok (.getfield 45, 3) := by decide +kernel
theorem dX8_keeps_34 : decode cX8_keeps 34 = .ok (.imul, 1) := by decide +kernel
theorem dX8_keeps_35 : decode cX8_keeps 35 = .ok (.iload_n 1, 1) := by decide +kernel
theorem dX8_keeps_36 : decode cX8_keeps 36 = .ok (.iadd, 1) := by decide +kernel
theorem dX8_keeps_37 : decode cX8_keeps 37 = .ok (.aload_n 0, 1) := by decide +kernel
theorem dX8_keeps_38 : decode cX8_keeps 38 = .ok (.getfield 13, 3) := by decide +kernel
theorem dX8_keeps_41 : decode cX8_keeps 41 = .ok (.iload_n 1, 1) := by decide +kernel
theorem dX8_keeps_42 : decode cX8_keeps 42 = .ok (.laload, 1) := by decide +kernel
theorem dX8_keeps_43 : decode cX8_keeps 43 = .ok (.lastore, 1) := by decide +kernel
theorem dX8_keeps_44 : decode cX8_keeps 44 = .ok (.iinc 1 1, 3) := by decide +kernel
theorem dX8_keeps_47 : decode cX8_keeps 47 = .ok (.goto (-27), 3) := by decide +kernel
theorem dX8_keeps_50 : decode cX8_keeps 50 = .ok (.aload_n 0, 1) := by decide +kernel
theorem dX8_keeps_51 : decode cX8_keeps 51 = .ok (.dup, 1) := by decide +kernel
theorem dX8_keeps_52 : decode cX8_keeps 52 = .ok (.getfield 45, 3) := by decide +kernel
theorem dX8_keeps_55 : decode cX8_keeps 55 = .ok (.iconst 1, 1) := by decide +kernel
theorem dX8_keeps_56 : decode cX8_keeps 56 = .ok (.iadd, 1) := by decide +kernel
theorem dX8_keeps_57 : decode cX8_keeps 57 = .ok (.putfield 45, 3) := by decide +kernel
theorem dX8_keeps_60 : decode cX8_keeps 60 = .ok (.aload_n 0, 1) := by decide +kernel
theorem dX8_keeps_61 : decode cX8_keeps 61 = .ok (.getfield 45, 3) := by decide +kernel
theorem dX8_keeps_64 : decode cX8_keeps 64 = .ok (.iconst 1, 1) := by decide +kernel
theorem dX8_keeps_65 : decode cX8_keeps 65 = .ok (.isub, 1) := by decide +kernel
theorem dX8_keeps_66 : decode cX8_keeps 66 = .ok (.ireturn, 1) := by decide +kernel
theorem dX8_curve_0 : decode cX8_curve 0 = .ok (.aload_n 0, 1) := by decide +kernel
theorem dX8_curve_1 : decode cX8_curve 1 = .ok (.iconst 0, 1) := by decide +kernel
theorem dX8_curve_2 : decode cX8_curve 2 = .ok (.putfield 41, 3) := by decide +kernel
theorem dX8_curve_5 : decode cX8_curve 5 = .ok (.iload_n 1, 1) := by decide +kernel
theorem dX8_curve_6 : decode cX8_curve 6 = .ok (.i2l, 1) := by decide +kernel
theorem dX8_curve_7 : decode cX8_curve 7 = .ok (.ldc2_w 102, 3) := by decide +kernel
theorem dX8_curve_10 : decode cX8_curve 10 = .ok (.ldc2_w 68, 3) := by decide +kernel
theorem dX8_curve_13 : decode cX8_curve 13 = .ok (.invokestatic 104, 3) := by decide +kernel
theorem dX8_curve_16 : decode cX8_curve 16 = .ok (.ifCond .eq 61, 3) := by decide +kernel
theorem dX8_curve_19 : decode cX8_curve 19 = .ok (.iload_n 2, 1) := by decide +kernel
theorem dX8_curve_20 : decode cX8_curve 20 = .ok (.i2l, 1) := by decide +kernel
theorem dX8_curve_21 : decode cX8_curve 21 = .ok (.ldc2_w 102, 3) := by decide +kernel
theorem dX8_curve_24 : decode cX8_curve 24 = .ok (.ldc2_w 68, 3) := by decide +kernel
theorem dX8_curve_27 : decode cX8_curve 27 = .ok (.invokestatic 104, 3) := by decide +kernel
theorem dX8_curve_30 : decode cX8_curve 30 = .ok (.ifCond .eq 47, 3) := by decide +kernel
theorem dX8_curve_33 : decode cX8_curve 33 = .ok (.iload_n 3, 1) := by decide +kernel
theorem dX8_curve_34 : decode cX8_curve 34 = .ok (.i2l, 1) := by decide +kernel
theorem dX8_curve_35 : decode cX8_curve 35 = .ok (.ldc2_w 102, 3) := by decide +kernel
theorem dX8_curve_38 : decode cX8_curve 38 = .ok (.ldc2_w 68, 3) := by decide +kernel
theorem dX8_curve_41 : decode cX8_curve 41 = .ok (.invokestatic 104, 3) := by decide +kernel
theorem dX8_curve_44 : decode cX8_curve 44 = .ok (.ifCond .eq 33, 3) := by decide +kernel
theorem dX8_curve_47 : decode cX8_curve 47 = .ok (.iload 4, 2) := by decide +kernel
theorem dX8_curve_49 : decode cX8_curve 49 = .ok (.i2l, 1) := by decide +kernel
theorem dX8_curve_50 : decode cX8_curve 50 = .ok (.ldc2_w 108, 3) := by decide +kernel
theorem dX8_curve_53 : decode cX8_curve 53 = .ok (.ldc2_w 110, 3) := by decide +kernel
theorem dX8_curve_56 : decode cX8_curve 56 = .ok (.invokestatic 104, 3) := by decide +kernel
theorem dX8_curve_59 : decode cX8_curve 59 = .ok (.ifCond .eq 18, 3) := by decide +kernel
theorem dX8_curve_62 : decode cX8_curve 62 = .ok (.iload 5, 2) := by decide +kernel
theorem dX8_curve_64 : decode cX8_curve 64 = .ok (.i2l, 1) := by decide +kernel
theorem dX8_curve_65 : decode cX8_curve 65 = .ok (.ldc2_w 108, 3) := by decide +kernel
theorem dX8_curve_68 : decode cX8_curve 68 = .ok (.ldc2_w 110, 3) := by decide +kernel
theorem dX8_curve_71 : decode cX8_curve 71 = .ok (.invokestatic 104, 3) := by decide +kernel
theorem dX8_curve_74 : decode cX8_curve 74 = .ok (.ifCond .ne 5, 3) := by decide +kernel
theorem dX8_curve_77 : decode cX8_curve 77 = .ok (.iconst (-1), 1) := by decide +kernel
theorem dX8_curve_78 : decode cX8_curve 78 = .ok (.ireturn, 1) := by decide +kernel
theorem dX8_curve_79 : decode cX8_curve 79 = .ok (.aload_n 0, 1) := by decide +kernel
theorem dX8_curve_80 : decode cX8_curve 80 = .ok (.getfield 13, 3) := by decide +kernel
theorem dX8_curve_83 : decode cX8_curve 83 = .ok (.iconst 0, 1) := by decide +kernel
theorem dX8_curve_84 : decode cX8_curve 84 = .ok (.iload_n 1, 1) := by decide +kernel
theorem dX8_curve_85 : decode cX8_curve 85 = .ok (.i2l, 1) := by decide +kernel
theorem dX8_curve_86 : decode cX8_curve 86 = .ok (.lastore, 1) := by decide +kernel
theorem dX8_curve_87 : decode cX8_curve 87 = .ok (.aload_n 0, 1) := by decide +kernel
theorem dX8_curve_88 : decode cX8_curve 88 = .ok (.getfield 13, 3) := by decide +kernel
theorem dX8_curve_91 : decode cX8_curve 91 = .ok (.iconst 1, 1) := by decide +kernel
theorem dX8_curve_92 : decode cX8_curve 92 = .ok (.iload_n 2, 1) := by decide +kernel
theorem dX8_curve_93 : decode cX8_curve 93 = .ok (.i2l, 1) := by decide +kernel
theorem dX8_curve_94 : decode cX8_curve 94 = .ok (.lastore, 1) := by decide +kernel
theorem dX8_curve_95 : decode cX8_curve 95 = .ok (.aload_n 0, 1) := by decide +kernel
theorem dX8_curve_96 : decode cX8_curve 96 = .ok (.getfield 13, 3) := by decide +kernel
theorem dX8_curve_99 : decode cX8_curve 99 = .ok (.iconst 2, 1) := by decide +kernel
theorem dX8_curve_100 : decode cX8_curve 100 = .ok (.iload_n 3, 1) := by decide +kernel
theorem dX8_curve_101 : decode cX8_curve 101 = .ok (.i2l, 1) := by decide +kernel
theorem dX8_curve_102 : decode cX8_curve 102 = .ok (.lastore, 1) := by decide +kernel
theorem dX8_curve_103 : decode cX8_curve 103 = .ok (.aload_n 0, 1) := by decide +kernel
theorem dX8_curve_104 : decode cX8_curve 104 = .ok (.getfield 13, 3) := by decide +kernel
theorem dX8_curve_107 : decode cX8_curve 107 = .ok (.iconst 3, 1) := by decide +kernel
theorem dX8_curve_108 : decode cX8_curve 108 = .ok (.iload 4, 2) := by decide +kernel
theorem dX8_curve_110 : decode cX8_curve 110 = .ok (.i2l, 1) := by decide +kernel
theorem dX8_curve_111 : decode cX8_curve 111 = .ok (.lastore, 1) := by decide +kernel
theorem dX8_curve_112 : decode cX8_curve 112 = .ok (.aload_n 0, 1) := by decide +kernel
theorem dX8_curve_113 : decode cX8_curve 113 = .ok (.getfield 13, 3) := by decide +kernel
theorem dX8_curve_116 : decode cX8_curve 116 = .ok (.iconst 4, 1) := by decide +kernel
theorem dX8_curve_117 : decode cX8_curve 117 = .ok (.iload 5, 2) := by decide +kernel
theorem dX8_curve_119 : decode cX8_curve 119 = .ok (.i2l, 1) := by decide +kernel
theorem dX8_curve_120 : decode cX8_curve 120 = .ok (.lastore, 1) := by decide +kernel
theorem dX8_curve_121 : decode cX8_curve 121 = .ok (.aload_n 0, 1) := by decide +kernel
theorem dX8_curve_122 : decode cX8_curve 122 = .ok (.invokevirtual 87, 3) := by decide +kernel
theorem dX8_curve_125 : decode cX8_curve 125 = .ok (.lconst 0, 1) := by decide +kernel
theorem dX8_curve_126 : decode cX8_curve 126 = .ok (.lcmp, 1) := by decide +kernel
theorem dX8_curve_127 : decode cX8_curve 127 = .ok (.ifCond .ne 7, 3) := by decide +kernel
theorem dX8_curve_130 : decode cX8_curve 130 = .ok (.iconst (-1), 1) := by decide +kernel
theorem dX8_curve_131 : decode cX8_curve 131 = .ok (.goto 7, 3) := by decide +kernel
theorem dX8_curve_134 : decode cX8_curve 134 = .ok (.aload_n 0, 1) := by decide +kernel
theorem dX8_curve_135 : decode cX8_curve 135 = .ok (.invokevirtual 112, 3) := by decide +kernel
theorem dX8_curve_138 : decode cX8_curve 138 = .ok (.ireturn, 1) := by decide +kernel
theorem dX8_change_0 : decode cX8_change 0 = .ok (.aload_n 0, 1) := by decide +kernel
theorem dX8_change_1 : decode cX8_change 1 = .ok (.iconst 0, 1) := by decide +kernel
theorem dX8_change_2 : decode cX8_change 2 = .ok (.putfield 41, 3) := by decide +kernel
theorem dX8_change_5 : decode cX8_change 5 = .ok (.aload_n 0, 1) := by decide +kernel
theorem dX8_change_6 : decode cX8_change 6 = .ok (.iload_n 1, 1) := by decide +kernel
theorem dX8_change_7 : decode cX8_change 7 = .ok (.invokevirtual 116, 3) := by decide +kernel
theorem dX8_change_10 : decode cX8_change 10 = .ok (.ifCond .eq 46, 3) := by decide +kernel
theorem dX8_change_13 : decode cX8_change 13 = .ok (.iload_n 2, 1) := by decide +kernel
theorem dX8_change_14 : decode cX8_change 14 = .ok (.i2l, 1) := by decide +kernel
theorem dX8_change_15 : decode cX8_change 15 = .ok (.ldc2_w 108, 3) := by decide +kernel
theorem dX8_change_18 : decode cX8_change 18 = .ok (.ldc2_w 110, 3) := by decide +kernel
theorem dX8_change_21 : decode cX8_change 21 = .ok (.invokestatic 104, 3) := by decide +kernel
theorem dX8_change_24 : decode cX8_change 24 = .ok (.ifCond .eq 32, 3) := by decide +kernel
theorem dX8_change_27 : decode cX8_change 27 = .ok (.iload_n 3, 1) := by decide +kernel
theorem dX8_change_28 : decode cX8_change 28 = .ok (.i2l, 1) := by decide +kernel
theorem dX8_change_29 : decode cX8_change 29 = .ok (.ldc2_w 108, 3) := by decide +kernel
theorem dX8_change_32 : decode cX8_change 32 = .ok (.ldc2_w 110, 3) := by decide +kernel
theorem dX8_change_35 : decode cX8_change 35 = .ok (.invokestatic 104, 3) := by decide +kernel
theorem dX8_change_38 : decode cX8_change 38 = .ok (.ifCond .eq 18, 3) := by decide +kernel
theorem dX8_change_41 : decode cX8_change 41 = .ok (.iload 4, 2) := by decide +kernel
theorem dX8_change_43 : decode cX8_change 43 = .ok (.i2l, 1) := by decide +kernel
theorem dX8_change_44 : decode cX8_change 44 = .ok (.ldc2_w 108, 3) := by decide +kernel
theorem dX8_change_47 : decode cX8_change 47 = .ok (.ldc2_w 110, 3) := by decide +kernel
theorem dX8_change_50 : decode cX8_change 50 = .ok (.invokestatic 104, 3) := by decide +kernel
theorem dX8_change_53 : decode cX8_change 53 = .ok (.ifCond .ne 5, 3) := by decide +kernel
theorem dX8_change_56 : decode cX8_change 56 = .ok (.iconst (-1), 1) := by decide +kernel
theorem dX8_change_57 : decode cX8_change 57 = .ok (.ireturn, 1) := by decide +kernel
theorem dX8_change_58 : decode cX8_change 58 = .ok (.aload_n 0, 1) := by decide +kernel
theorem dX8_change_59 : decode cX8_change 59 = .ok (.iload_n 1, 1) := by decide +kernel
theorem dX8_change_60 : decode cX8_change 60 = .ok (.invokevirtual 120, 3) := by decide +kernel
theorem dX8_change_63 : decode cX8_change 63 = .ok (.aload_n 0, 1) := by decide +kernel
theorem dX8_change_64 : decode cX8_change 64 = .ok (.iload_n 2, 1) := by decide +kernel
theorem dX8_change_65 : decode cX8_change 65 = .ok (.i2l, 1) := by decide +kernel
theorem dX8_change_66 : decode cX8_change 66 = .ok (.iload_n 3, 1) := by decide +kernel
theorem dX8_change_67 : decode cX8_change 67 = .ok (.i2l, 1) := by decide +kernel
theorem dX8_change_68 : decode cX8_change 68 = .ok (.iload 4, 2) := by decide +kernel
theorem dX8_change_70 : decode cX8_change 70 = .ok (.i2l, 1) := by decide +kernel
theorem dX8_change_71 : decode cX8_change 71 = .ok (.invokevirtual 124, 3) := by decide +kernel
theorem dX8_change_74 : decode cX8_change 74 = .ok (.aload_n 0, 1) := by decide +kernel
theorem dX8_change_75 : decode cX8_change 75 = .ok (.invokevirtual 112, 3) := by decide +kernel
theorem dX8_change_78 : decode cX8_change 78 = .ok (.ireturn, 1) := by decide +kernel
theorem dX8_product_0 : decode cX8_product 0 = .ok (.lload_n 0, 1) := by decide +kernel
theorem dX8_product_1 : decode cX8_product 1 = .ok (.lconst 0, 1) := by decide +kernel
theorem dX8_product_2 : decode cX8_product 2 = .ok (.lcmp, 1) := by decide +kernel
theorem dX8_product_3 : decode cX8_product 3 = .ok (.ifCond .eq 25, 3) := by decide +kernel
theorem dX8_product_6 : decode cX8_product 6 = .ok (.lload_n 2, 1) := by decide +kernel
theorem dX8_product_7 : decode cX8_product 7 = .ok (.invokestatic 90, 3) := by decide +kernel
theorem dX8_product_10 : decode cX8_product 10 = .ok (.ldc2_w 128, 3) := by decide +kernel
theorem dX8_product_13 : decode cX8_product 13 = .ok (.lload_n 0, 1) := by decide +kernel
theorem dX8_product_14 : decode cX8_product 14 = .ok (.invokestatic 90, 3) := by decide +kernel
theorem dX8_product_17 : decode cX8_product 17 = .ok (.ldiv, 1) := by decide +kernel
theorem dX8_product_18 : decode cX8_product 18 = .ok (.lcmp, 1) := by decide +kernel
theorem dX8_product_19 : decode cX8_product 19 = .ok (.ifCond .le 9, 3) := by decide +kernel
theorem dX8_product_22 : decode cX8_product 22 = .ok (.ldc2_w 128, 3) := by decide +kernel
theorem dX8_product_25 : decode cX8_product 25 = .ok (.goto 6, 3) := by decide +kernel
theorem dX8_product_28 : decode cX8_product 28 = .ok (.lload_n 0, 1) := by decide +kernel
theorem dX8_product_29 : decode cX8_product 29 = .ok (.lload_n 2, 1) := by decide +kernel
theorem dX8_product_30 : decode cX8_product 30 = .ok (.lmul, 1) := by decide +kernel
theorem dX8_product_31 : decode cX8_product 31 = .ok (.lreturn, 1) := by decide +kernel
theorem dX8_scale_0 : decode cX8_scale 0 = .ok (.aload_n 0, 1) := by decide +kernel
theorem dX8_scale_1 : decode cX8_scale 1 = .ok (.iconst 0, 1) := by decide +kernel
theorem dX8_scale_2 : decode cX8_scale 2 = .ok (.putfield 41, 3) := by decide +kernel
theorem dX8_scale_5 : decode cX8_scale 5 = .ok (.aload_n 0, 1) := by decide +kernel
theorem dX8_scale_6 : decode cX8_scale 6 = .ok (.iload_n 1, 1) := by decide +kernel
theorem dX8_scale_7 : decode cX8_scale 7 = .ok (.invokevirtual 116, 3) := by decide +kernel
theorem dX8_scale_10 : decode cX8_scale 10 = .ok (.ifCond .eq 17, 3) := by decide +kernel
theorem dX8_scale_13 : decode cX8_scale 13 = .ok (.iload_n 2, 1) := by decide +kernel
theorem dX8_scale_14 : decode cX8_scale 14 = .ok (.i2l, 1) := by decide +kernel
theorem dX8_scale_15 : decode cX8_scale 15 = .ok (.ldc2_w 50, 3) := by decide +kernel
theorem dX8_scale_18 : decode cX8_scale 18 = .ok (.ldc2_w 68, 3) := by decide +kernel
theorem dX8_scale_21 : decode cX8_scale 21 = .ok (.invokestatic 104, 3) := by decide +kernel
theorem dX8_scale_24 : decode cX8_scale 24 = .ok (.ifCond .ne 5, 3) := by decide +kernel
theorem dX8_scale_27 : decode cX8_scale 27 = .ok (.iconst (-1), 1) := by decide +kernel
theorem dX8_scale_28 : decode cX8_scale 28 = .ok (.ireturn, 1) := by decide +kernel
theorem dX8_scale_29 : decode cX8_scale 29 = .ok (.aload_n 0, 1) := by decide +kernel
theorem dX8_scale_30 : decode cX8_scale 30 = .ok (.iload_n 1, 1) := by decide +kernel
theorem dX8_scale_31 : decode cX8_scale 31 = .ok (.invokevirtual 120, 3) := by decide +kernel
theorem dX8_scale_34 : decode cX8_scale 34 = .ok (.iload_n 3, 1) := by decide +kernel
theorem dX8_scale_35 : decode cX8_scale 35 = .ok (.ifCond .ne 21, 3) := by decide +kernel
theorem dX8_scale_38 : decode cX8_scale 38 = .ok (.aload_n 0, 1) := by decide +kernel
theorem dX8_scale_39 : decode cX8_scale 39 = .ok (.iload_n 2, 1) := by decide +kernel
theorem dX8_scale_40 : decode cX8_scale 40 = .ok (.i2l, 1) := by decide +kernel
theorem dX8_scale_41 : decode cX8_scale 41 = .ok (.invokevirtual 130, 3) := by decide +kernel
theorem dX8_scale_44 : decode cX8_scale 44 = .ok (.ifCond .eq 10, 3) := by decide +kernel
theorem dX8_scale_47 : decode cX8_scale 47 = .ok (.aload_n 0, 1) := by decide +kernel
theorem dX8_scale_48 : decode cX8_scale 48 = .ok (.invokevirtual 112, 3) := by decide +kernel
theorem dX8_scale_51 : decode cX8_scale 51 = .ok (.goto 4, 3) := by decide +kernel
theorem dX8_scale_54 : decode cX8_scale 54 = .ok (.iconst (-1), 1) := by decide +kernel
theorem dX8_scale_55 : decode cX8_scale 55 = .ok (.ireturn, 1) := by decide +kernel
theorem dX8_scale_56 : decode cX8_scale 56 = .ok (.aload_n 0, 1) := by decide +kernel
theorem dX8_scale_57 : decode cX8_scale 57 = .ok (.invokevirtual 87, 3) := by decide +kernel
theorem dX8_scale_60 : decode cX8_scale 60 = .ok (.invokestatic 90, 3) := by decide +kernel
theorem dX8_scale_63 : decode cX8_scale 63 = .ok (.lstore 4, 2) := by decide +kernel
theorem dX8_scale_65 : decode cX8_scale 65 = .ok (.iconst 0, 1) := by decide +kernel
theorem dX8_scale_66 : decode cX8_scale 66 = .ok (.istore 6, 2) := by decide +kernel
theorem dX8_scale_68 : decode cX8_scale 68 = .ok (.iload 6, 2) := by decide +kernel
theorem dX8_scale_70 : decode cX8_scale 70 = .ok (.bipush 12, 2) := by decide +kernel
theorem dX8_scale_72 : decode cX8_scale 72 = .ok (.if_icmp .ge 18, 3) := by decide +kernel
theorem dX8_scale_75 : decode cX8_scale 75 = .ok (.lload 4, 2) := by decide +kernel
theorem dX8_scale_77 : decode cX8_scale 77 = .ok (.iload_n 2, 1) := by decide +kernel
theorem dX8_scale_78 : decode cX8_scale 78 = .ok (.i2l, 1) := by decide +kernel
theorem dX8_scale_79 : decode cX8_scale 79 = .ok (.invokestatic 134, 3) := by decide +kernel
theorem dX8_scale_82 : decode cX8_scale 82 = .ok (.lstore 4, 2) := by decide +kernel
theorem dX8_scale_84 : decode cX8_scale 84 = .ok (.iinc 6 1, 3) := by decide +kernel
theorem dX8_scale_87 : decode cX8_scale 87 = .ok (.goto (-19), 3) := by decide +kernel
theorem dX8_scale_90 : decode cX8_scale 90 = .ok (.lload 4, 2) := by decide +kernel
theorem dX8_scale_92 : decode cX8_scale 92 = .ok (.ldc2_w 94, 3) := by decide +kernel
theorem dX8_scale_95 : decode cX8_scale 95 = .ok (.lcmp, 1) := by decide +kernel
theorem dX8_scale_96 : decode cX8_scale 96 = .ok (.ifCond .le 5, 3) := by decide +kernel
theorem dX8_scale_99 : decode cX8_scale 99 = .ok (.iconst (-1), 1) := by decide +kernel
theorem dX8_scale_100 : decode cX8_scale 100 = .ok (.ireturn, 1) := by decide +kernel
theorem dX8_scale_101 : decode cX8_scale 101 = .ok (.iconst 0, 1) := by decide +kernel
theorem dX8_scale_102 : decode cX8_scale 102 = .ok (.istore 6, 2) := by decide +kernel
theorem dX8_scale_104 : decode cX8_scale 104 = .ok (.iload 6, 2) := by decide +kernel
theorem dX8_scale_106 : decode cX8_scale 106 = .ok (.iconst 5, 1) := by decide +kernel
theorem dX8_scale_107 : decode cX8_scale 107 = .ok (.if_icmp .ge 29, 3) := by decide +kernel
theorem dX8_scale_110 : decode cX8_scale 110 = .ok (.aload_n 0, 1) := by decide +kernel
theorem dX8_scale_111 : decode cX8_scale 111 = .ok (.getfield 13, 3) := by decide +kernel
theorem dX8_scale_114 : decode cX8_scale 114 = .ok (.iload 6, 2) := by decide +kernel
theorem dX8_scale_116 : decode cX8_scale 116 = .ok (.dup2, 1) := by decide +kernel
theorem dX8_scale_117 : decode cX8_scale 117 = .ok (.laload, 1) := by decide +kernel
theorem dX8_scale_118 : decode cX8_scale 118 = .ok (.iload_n 2, 1) := by decide +kernel
theorem dX8_scale_119 : decode cX8_scale 119 = .ok (.i2l, 1) := by decide +kernel
theorem dX8_scale_120 : decode cX8_scale 120 = .ok (.iload 6, 2) := by decide +kernel
theorem dX8_scale_122 : decode cX8_scale 122 = .ok (.invokestatic 79, 3) := by decide +kernel
theorem dX8_scale_125 : decode cX8_scale 125 = .ok (.invokestatic 83, 3) := by decide +kernel
theorem dX8_scale_128 : decode cX8_scale 128 = .ok (.lmul, 1) := by decide +kernel
theorem dX8_scale_129 : decode cX8_scale 129 = .ok (.lastore, 1) := by decide +kernel
theorem dX8_scale_130 : decode cX8_scale 130 = .ok (.iinc 6 1, 3) := by decide +kernel
theorem dX8_scale_133 : decode cX8_scale 133 = .ok (.goto (-29), 3) := by decide +kernel
theorem dX8_scale_136 : decode cX8_scale 136 = .ok (.aload_n 0, 1) := by decide +kernel
theorem dX8_scale_137 : decode cX8_scale 137 = .ok (.invokevirtual 112, 3) := by decide +kernel
theorem dX8_scale_140 : decode cX8_scale 140 = .ok (.ireturn, 1) := by decide +kernel
