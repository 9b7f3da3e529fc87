theorem dX6_sumOfAll_0 : decode cX6_sumOfAll 0 = .ok (.lconst 1, 1) := by decide +kernel
theorem dX6_sumOfAll_1 : decode cX6_sumOfAll 1 = .ok (.lstore_n 1, 1) := by decide +kernel
theorem dX6_sumOfAll_2 : decode cX6_sumOfAll 2 = .ok (.iconst 0, 1) := by decide +kernel
theorem dX6_sumOfAll_3 : decode cX6_sumOfAll 3 = .ok (.istore_n 3, 1) := by decide +kernel
theorem dX6_sumOfAll_4 : decode cX6_sumOfAll 4 = .ok (.iload_n 3, 1) := by decide +kernel
theorem dX6_sumOfAll_5 : decode cX6_sumOfAll 5 = .ok (.aload_n 0, 1) := by decide +kernel
theorem dX6_sumOfAll_6 : decode cX6_sumOfAll 6 = .ok (.getfield 19, 3) := by decide +kernel
theorem dX6_sumOfAll_9 : decode cX6_sumOfAll 9 = .ok (.if_icmp .ge 56, 3) := by decide +kernel
theorem dX6_sumOfAll_12 : decode cX6_sumOfAll 12 = .ok (.iload_n 3, 1) := by decide +kernel
theorem dX6_sumOfAll_13 : decode cX6_sumOfAll 13 = .ok (.bipush 12, 2) := by decide +kernel
theorem dX6_sumOfAll_15 : decode cX6_sumOfAll 15 = .ok (.if_icmp .ge 50, 3) := by decide +kernel
theorem dX6_sumOfAll_18 : decode cX6_sumOfAll 18 = .ok (.lconst 1, 1) := by decide +kernel
theorem dX6_sumOfAll_19 : decode cX6_sumOfAll 19 = .ok (.lstore 4, 2) := by decide +kernel
theorem dX6_sumOfAll_21 : decode cX6_sumOfAll 21 = .ok (.iconst 0, 1) := by decide +kernel
theorem dX6_sumOfAll_22 : decode cX6_sumOfAll 22 = .ok (.istore 6, 2) := by decide +kernel
theorem dX6_sumOfAll_24 : decode cX6_sumOfAll 24 = .ok (.iload 6, 2) := by decide +kernel
theorem dX6_sumOfAll_26 : decode cX6_sumOfAll 26 = .ok (.aload_n 0, 1) := by decide +kernel
theorem dX6_sumOfAll_27 : decode cX6_sumOfAll 27 = .ok (.getfield 15, 3) := by decide +kernel
theorem dX6_sumOfAll_30 : decode cX6_sumOfAll 30 = .ok (.iload_n 3, 1) := by decide +kernel
theorem dX6_sumOfAll_31 : decode cX6_sumOfAll 31 = .ok (.iaload, 1) := by decide +kernel
theorem dX6_sumOfAll_32 : decode cX6_sumOfAll 32 = .ok (.if_icmp .ge 22, 3) := by decide +kernel
theorem dX6_sumOfAll_35 : decode cX6_sumOfAll 35 = .ok (.lload 4, 2) := by decide +kernel
theorem dX6_sumOfAll_37 : decode cX6_sumOfAll 37 = .ok (.aload_n 0, 1) := by decide +kernel
theorem dX6_sumOfAll_38 : decode cX6_sumOfAll 38 = .ok (.getfield 11, 3) := by decide +kernel
theorem dX6_sumOfAll_41 : decode cX6_sumOfAll 41 = .ok (.iload_n 3, 1) := by decide +kernel
theorem dX6_sumOfAll_42 : decode cX6_sumOfAll 42 = .ok (.laload, 1) := by decide +kernel
theorem dX6_sumOfAll_43 : decode cX6_sumOfAll 43 = .ok (.lmul, 1) := by decide +kernel
theorem dX6_sumOfAll_44 : decode cX6_sumOfAll 44 = .ok (.lconst 1, 1) := by decide +kernel
theorem dX6_sumOfAll_45 : decode cX6_sumOfAll 45 = .ok (.ladd, 1) := by decide +kernel
theorem dX6_sumOfAll_46 : decode cX6_sumOfAll 46 = .ok (.lstore 4, 2) := by decide +kernel
theorem dX6_sumOfAll_48 : decode cX6_sumOfAll 48 = .ok (.iinc 6 1, 3) := by decide +kernel
theorem dX6_sumOfAll_51 : decode cX6_sumOfAll 51 = .ok (.goto (-27), 3) := by decide +kernel
theorem dX6_sumOfAll_54 : decode cX6_sumOfAll 54 = .ok (.lload_n 1, 1) := by decide +kernel
theorem dX6_sumOfAll_55 : decode cX6_sumOfAll 55 = .ok (.lload 4, 2) := by decide +kernel
theorem dX6_sumOfAll_57 : decode cX6_sumOfAll 57 = .ok (.lmul, 1) := by decide +kernel
theorem dX6_sumOfAll_58 : decode cX6_sumOfAll 58 = .ok (.lstore_n 1, 1) := by decide +kernel
theorem dX6_sumOfAll_59 : decode cX6_sumOfAll 59 = .ok (.iinc 3 1, 3) := by decide +kernel
theorem dX6_sumOfAll_62 : decode cX6_sumOfAll 62 = .ok (.goto (-58), 3) := by decide +kernel
theorem dX6_sumOfAll_65 : decode cX6_sumOfAll 65 = .ok (.lload_n 1, 1) := by decide +kernel
theorem dX6_sumOfAll_66 : decode cX6_sumOfAll 66 = .ok (.lreturn, 1) := by decide +kernel
theorem dX6_sumOfApart_0 : decode cX6_sumOfApart 0 = .ok (.lconst 1, 1) := by decide +kernel
theorem dX6_sumOfApart_1 : decode cX6_sumOfApart 1 = .ok (.lstore_n 1, 1) := by decide +kernel
theorem dX6_sumOfApart_2 : decode cX6_sumOfApart 2 = .ok (.iconst 0, 1) := by decide +kernel
theorem dX6_sumOfApart_3 : decode cX6_sumOfApart 3 = .ok (.istore_n 3, 1) := by decide +kernel
theorem dX6_sumOfApart_4 : decode cX6_sumOfApart 4 = .ok (.iload_n 3, 1) := by decide +kernel
theorem dX6_sumOfApart_5 : decode cX6_sumOfApart 5 = .ok (.aload_n 0, 1) := by decide +kernel
theorem dX6_sumOfApart_6 : decode cX6_sumOfApart 6 = .ok (.getfield 19, 3) := by decide +kernel
theorem dX6_sumOfApart_9 : decode cX6_sumOfApart 9 = .ok (.if_icmp .ge 56, 3) := by decide +kernel
theorem dX6_sumOfApart_12 : decode cX6_sumOfApart 12 = .ok (.iload_n 3, 1) := by decide +kernel
theorem dX6_sumOfApart_13 : decode cX6_sumOfApart 13 = .ok (.bipush 12, 2) := by decide +kernel
theorem dX6_sumOfApart_15 : decode cX6_sumOfApart 15 = .ok (.if_icmp .ge 50, 3) := by decide +kernel
theorem dX6_sumOfApart_18 : decode cX6_sumOfApart 18 = .ok (.lconst 1, 1) := by decide +kernel
theorem dX6_sumOfApart_19 : decode cX6_sumOfApart 19 = .ok (.lstore 4, 2) := by decide +kernel
theorem dX6_sumOfApart_21 : decode cX6_sumOfApart 21 = .ok (.iconst 0, 1) := by decide +kernel
theorem dX6_sumOfApart_22 : decode cX6_sumOfApart 22 = .ok (.istore 6, 2) := by decide +kernel
theorem dX6_sumOfApart_24 : decode cX6_sumOfApart 24 = .ok (.iload 6, 2) := by decide +kernel
theorem dX6_sumOfApart_26 : decode cX6_sumOfApart 26 = .ok (.aload_n 0, 1) := by decide +kernel
theorem dX6_sumOfApart_27 : decode cX6_sumOfApart 27 = .ok (.getfield 15, 3) := by decide +kernel
theorem dX6_sumOfApart_30 : decode cX6_sumOfApart 30 = .ok (.iload_n 3, 1) := by decide +kernel
theorem dX6_sumOfApart_31 : decode cX6_sumOfApart 31 = .ok (.iaload, 1) := by decide +kernel
theorem dX6_sumOfApart_32 : decode cX6_sumOfApart 32 = .ok (.if_icmp .ge 20, 3) := by decide +kernel
theorem dX6_sumOfApart_35 : decode cX6_sumOfApart 35 = .ok (.lload 4, 2) := by decide +kernel
theorem dX6_sumOfApart_37 : decode cX6_sumOfApart 37 = .ok (.aload_n 0, 1) := by decide +kernel
theorem dX6_sumOfApart_38 : decode cX6_sumOfApart 38 = .ok (.getfield 11, 3) := by decide +kernel
theorem dX6_sumOfApart_41 : decode cX6_sumOfApart 41 = .ok (.iload_n 3, 1) := by decide +kernel
theorem dX6_sumOfApart_42 : decode cX6_sumOfApart 42 = .ok (.laload, 1) := by decide +kernel
theorem dX6_sumOfApart_43 : decode cX6_sumOfApart 43 = .ok (.lmul, 1) := by decide +kernel
theorem dX6_sumOfApart_44 : decode cX6_sumOfApart 44 = .ok (.lstore 4, 2) := by decide +kernel
theorem dX6_sumOfApart_46 : decode cX6_sumOfApart 46 = .ok (.iinc 6 1, 3) := by decide +kernel
theorem dX6_sumOfApart_49 : decode cX6_sumOfApart 49 = .ok (.goto (-25), 3) := by decide +kernel
theorem dX6_sumOfApart_52 : decode cX6_sumOfApart 52 = .ok (.lload_n 1, 1) := by decide +kernel
theorem dX6_sumOfApart_53 : decode cX6_sumOfApart 53 = .ok (.lload 4, 2) := by decide +kernel
theorem dX6_sumOfApart_55 : decode cX6_sumOfApart 55 = .ok (.lconst 1, 1) := by decide +kernel
theorem dX6_sumOfApart_56 : decode cX6_sumOfApart 56 = .ok (.ladd, 1) := by decide +kernel
theorem dX6_sumOfApart_57 : decode cX6_sumOfApart 57 = .ok (.lmul, 1) := by decide +kernel
theorem dX6_sumOfApart_58 : decode cX6_sumOfApart 58 = .ok (.lstore_n 1, 1) := by decide +kernel
theorem dX6_sumOfApart_59 : decode cX6_sumOfApart 59 = .ok (.iinc 3 1, 3) := by decide +kernel
theorem dX6_sumOfApart_62 : decode cX6_sumOfApart 62 = .ok (.goto (-58), 3) := by decide +kernel
theorem dX6_sumOfApart_65 : decode cX6_sumOfApart 65 = .ok (.lload_n 1, 1) := by decide +kernel
theorem dX6_sumOfApart_66 : decode cX6_sumOfApart 66 = .ok (.lreturn, 1) := by decide +kernel
theorem dX6_howManyPrimes_0 : decode cX6_howManyPrimes 0 = .ok (.iconst 0, 1) := by decide +kernel
theorem dX6_howManyPrimes_1 : decode cX6_howManyPrimes 1 = .ok (.istore_n 1, 1) := by decide +kernel
theorem dX6_howManyPrimes_2 : decode cX6_howManyPrimes 2 = .ok (.iconst 0, 1) := by decide +kernel
theorem dX6_howManyPrimes_3 : decode cX6_howManyPrimes 3 = .ok (.istore_n 2, 1) := by decide +kernel
theorem dX6_howManyPrimes_4 : decode cX6_howManyPrimes 4 = .ok (.iload_n 2, 1) := by decide +kernel
theorem dX6_howManyPrimes_5 : decode cX6_howManyPrimes 5 = .ok (.aload_n 0, 1) := by decide +kernel
theorem dX6_howManyPrimes_6 : decode cX6_howManyPrimes 6 = .ok (.getfield 19, 3) := by decide +kernel
theorem dX6_howManyPrimes_9 : decode cX6_howManyPrimes 9 = .ok (.if_icmp .ge 24, 3) := by decide +kernel
theorem dX6_howManyPrimes_12 : decode cX6_howManyPrimes 12 = .ok (.iload_n 2, 1) := by decide +kernel
theorem dX6_howManyPrimes_13 : decode cX6_howManyPrimes 13 = .ok (.bipush 12, 2) := by decide +kernel
theorem dX6_howManyPrimes_15 : decode cX6_howManyPrimes 15 = .ok (.if_icmp .ge 18, 3) := by decide +kernel
theorem dX6_howManyPrimes_18 : decode cX6_howManyPrimes 18 = .ok (.iload_n 1, 1) := by decide +kernel
theorem dX6_howManyPrimes_19 : decode cX6_howManyPrimes 19 = .ok (.aload_n 0, 1) := by decide +kernel
theorem dX6_howManyPrimes_20 : decode cX6_howManyPrimes 20 = .ok (.getfield 15, 3) := by decide +kernel
theorem dX6_howManyPrimes_23 : decode cX6_howManyPrimes 23 = .ok (.iload_n 2, 1) := by decide +kernel
theorem dX6_howManyPrimes_24 : decode cX6_howManyPrimes 24 = .ok (.iaload, 1) := by decide +kernel
theorem dX6_howManyPrimes_25 : decode cX6_howManyPrimes 25 = .ok (.iadd, 1) := by decide +kernel
theorem dX6_howManyPrimes_26 : decode cX6_howManyPrimes 26 = .ok (.istore_n 1, 1) := by decide +kernel
theorem dX6_howManyPrimes_27 : decode cX6_howManyPrimes 27 = .ok (.iinc 2 1, 3) := by decide +kernel
theorem dX6_howManyPrimes_30 : decode cX6_howManyPrimes 30 = .ok (.goto (-26), 3) := by decide +kernel
theorem dX6_howManyPrimes_33 : decode cX6_howManyPrimes 33 = .ok (.iload_n 1, 1) := by decide +kernel
theorem dX6_howManyPrimes_34 : decode cX6_howManyPrimes 34 = .ok (.ireturn, 1) := by decide +kernel
theorem dX6_primeAt_0 : decode cX6_primeAt 0 = .ok (.iconst 0, 1) := by decide +kernel
theorem dX6_primeAt_1 : decode cX6_primeAt 1 = .ok (.istore_n 2, 1) := by decide +kernel
theorem dX6_primeAt_2 : decode cX6_primeAt 2 = .ok (.iconst 0, 1) := by decide +kernel
theorem dX6_primeAt_3 : decode cX6_primeAt 3 = .ok (.istore_n 3, 1) := by decide +kernel
theorem dX6_primeAt_4 : decode cX6_primeAt 4 = .ok (.iload_n 3, 1) := by decide +kernel
theorem dX6_primeAt_5 : decode cX6_primeAt 5 = .ok (.aload_n 0, 1) := by decide +kernel
theorem dX6_primeAt_6 : decode cX6_primeAt 6 = .ok (.getfield 19, 3) := by decide +kernel
theorem dX6_primeAt_9 : decode cX6_primeAt 9 = .ok (.if_icmp .ge 36, 3) := by decide +kernel
theorem dX6_primeAt_12 : decode cX6_primeAt 12 = .ok (.iload_n 3, 1) := by decide +kernel
theorem dX6_primeAt_13 : decode cX6_primeAt 13 = .ok (.bipush 12, 2) := by decide +kernel
theorem dX6_primeAt_15 : decode cX6_primeAt 15 = .ok (.if_icmp .ge 30, 3) := by decide +kernel
theorem dX6_primeAt_18 : decode cX6_primeAt 18 = .ok (.iload_n 2, 1) := by decide +kernel
theorem dX6_primeAt_19 : decode cX6_primeAt 19 = .ok (.aload_n 0, 1) := by decide +kernel
theorem dX6_primeAt_20 : decode cX6_primeAt 20 = .ok (.getfield 15, 3) := by decide +kernel
theorem dX6_primeAt_23 : decode cX6_primeAt 23 = .ok (.iload_n 3, 1) := by decide +kernel
theorem dX6_primeAt_24 : decode cX6_primeAt 24 = .ok (.iaload, 1) := by decide +kernel
theorem dX6_primeAt_25 : decode cX6_primeAt 25 = .ok (.iadd, 1) := by decide +kernel
theorem dX6_primeAt_26 : decode cX6_primeAt 26 = .ok (.istore_n 2, 1) := by decide +kernel
theorem dX6_primeAt_27 : decode cX6_primeAt 27 = .ok (.iload_n 1, 1) := by decide +kernel
theorem dX6_primeAt_28 : decode cX6_primeAt 28 = .ok (.iload_n 2, 1) := by decide +kernel
theorem dX6_primeAt_29 : decode cX6_primeAt 29 = .ok (.if_icmp .ge 10, 3) := by decide +kernel
theorem dX6_primeAt_32 : decode cX6_primeAt 32 = .ok (.aload_n 0, 1) := by decide +kernel
theorem dX6_primeAt_33 : decode cX6_primeAt 33 = .ok (.getfield 11, 3) := by decide +kernel
theorem dX6_primeAt_36 : decode cX6_primeAt 36 = .ok (.iload_n 3, 1) := by decide +kernel
theorem dX6_primeAt_37 : decode cX6_primeAt 37 = .ok (.laload, 1) := by decide +kernel
theorem dX6_primeAt_38 : decode cX6_primeAt 38 = .ok (.lreturn, 1) := by decide +kernel
theorem dX6_primeAt_39 : decode cX6_primeAt 39 = .ok (.iinc 3 1, 3) := by decide +kernel
theorem dX6_primeAt_42 : decode cX6_primeAt 42 = .ok (.goto (-38), 3) := by decide +kernel
theorem dX6_primeAt_45 : decode cX6_primeAt 45 = .ok (.ldc2_w 62, 3) := by decide +kernel
theorem dX6_primeAt_48 : decode cX6_primeAt 48 = .ok (.lreturn, 1) := by decide +kernel
theorem dX6_timesAt_0 : decode cX6_timesAt 0 = .ok (.iload_n 1, 1) := by decide +kernel
theorem dX6_timesAt_1 : decode cX6_timesAt 1 = .ok (.ifCond .lt 26, 3) := by decide +kernel
theorem dX6_timesAt_4 : decode cX6_timesAt 4 = .ok (.iload_n 1, 1) := by decide +kernel
theorem dX6_timesAt_5 : decode cX6_timesAt 5 = .ok (.aload_n 0, 1) := by decide +kernel
theorem dX6_timesAt_6 : decode cX6_timesAt 6 = .ok (.getfield 19, 3) := by decide +kernel
theorem dX6_timesAt_9 : decode cX6_timesAt 9 = .ok (.if_icmp .ge 18, 3) := by decide +kernel
theorem dX6_timesAt_12 : decode cX6_timesAt 12 = .ok (.iload_n 1, 1) := by decide +kernel
theorem dX6_timesAt_13 : decode cX6_timesAt 13 = .ok (.bipush 12, 2) := by decide +kernel
theorem dX6_timesAt_15 : decode cX6_timesAt 15 = .ok (.if_icmp .ge 12, 3) := by decide +kernel
theorem dX6_timesAt_18 : decode cX6_timesAt 18 = .ok (.aload_n 0, 1) := by decide +kernel
theorem dX6_timesAt_19 : decode cX6_timesAt 19 = .ok (.getfield 15, 3) := by decide +kernel
theorem dX6_timesAt_22 : decode cX6_timesAt 22 = .ok (.iload_n 1, 1) := by decide +kernel
theorem dX6_timesAt_23 : decode cX6_timesAt 23 = .ok (.iaload, 1) := by decide +kernel
theorem dX6_timesAt_24 : decode cX6_timesAt 24 = .ok (.goto 4, 3) := by decide +kernel
theorem dX6_timesAt_27 : decode cX6_timesAt 27 = .ok (.iconst 0, 1) := by decide +kernel
theorem dX6_timesAt_28 : decode cX6_timesAt 28 = .ok (.ireturn, 1) := by decide +kernel
theorem dX6_without_0 : decode cX6_without 0 = .ok (.iload_n 1, 1) := by decide +kernel
theorem dX6_without_1 : decode cX6_without 1 = .ok (.ifCond .lt 30, 3) := by decide +kernel
theorem dX6_without_4 : decode cX6_without 4 = .ok (.iload_n 1, 1) := by decide +kernel
theorem dX6_without_5 : decode cX6_without 5 = .ok (.aload_n 0, 1) := by decide +kernel
theorem dX6_without_6 : decode cX6_without 6 = .ok (.getfield 19, 3) := by decide +kernel
theorem dX6_without_9 : decode cX6_without 9 = .ok (.if_icmp .ge 22, 3) := by decide +kernel
theorem dX6_without_12 : decode cX6_without 12 = .ok (.iload_n 1, 1) := by decide +kernel
theorem dX6_without_13 : decode cX6_without 13 = .ok (.bipush 12, 2) := by decide +kernel
theorem dX6_without_15 : decode cX6_without 15 = .ok (.if_icmp .ge 16, 3) := by decide +kernel
theorem dX6_without_18 : decode cX6_without 18 = .ok (.aload_n 0, 1) := by decide +kernel
theorem dX6_without_19 : decode cX6_without 19 = .ok (.getfield 11, 3) := by decide +kernel
theorem dX6_without_22 : decode cX6_without 22 = .ok (.iload_n 1, 1) := by decide +kernel
theorem dX6_without_23 : decode cX6_without 23 = .ok (.laload, 1) := by decide +kernel
theorem dX6_without_24 : decode cX6_without 24 = .ok (.ldc2_w 45, 3) := by decide +kernel
theorem dX6_without_27 : decode cX6_without 27 = .ok (.lcmp, 1) := by decide +kernel
theorem dX6_without_28 : decode cX6_without 28 = .ok (.ifCond .ge 8, 3) := by decide +kernel
theorem dX6_without_31 : decode cX6_without 31 = .ok (.aload_n 0, 1) := by decide +kernel
theorem dX6_without_32 : decode cX6_without 32 = .ok (.getfield 23, 3) := by decide +kernel
theorem dX6_without_35 : decode cX6_without 35 = .ok (.lreturn, 1) := by decide +kernel
theorem dX6_without_36 : decode cX6_without 36 = .ok (.aload_n 0, 1) := by decide +kernel
theorem dX6_without_37 : decode cX6_without 37 = .ok (.getfield 23, 3) := by decide +kernel
theorem dX6_without_40 : decode cX6_without 40 = .ok (.aload_n 0, 1) := by decide +kernel
theorem dX6_without_41 : decode cX6_without 41 = .ok (.getfield 11, 3) := by decide +kernel
theorem dX6_without_44 : decode cX6_without 44 = .ok (.iload_n 1, 1) := by decide +kernel
theorem dX6_without_45 : decode cX6_without 45 = .ok (.laload, 1) := by decide +kernel
theorem dX6_without_46 : decode cX6_without 46 = .ok (.ldiv, 1) := by decide +kernel
theorem dX6_without_47 : decode cX6_without 47 = .ok (.lreturn, 1) := by decide +kernel
theorem dX6_howManyParts_0 : decode cX6_howManyParts 0 = .ok (.iconst 1, 1) := by decide +kernel
theorem dX6_howManyParts_1 : decode cX6_howManyParts 1 = .ok (.istore_n 1, 1) := by decide +kernel
theorem dX6_howManyParts_2 : decode cX6_howManyParts 2 = .ok (.iconst 0, 1) := by decide +kernel
theorem dX6_howManyParts_3 : decode cX6_howManyParts 3 = .ok (.istore_n 2, 1) := by decide +kernel
theorem dX6_howManyParts_4 : decode cX6_howManyParts 4 = .ok (.iload_n 2, 1) := by decide +kernel
theorem dX6_howManyParts_5 : decode cX6_howManyParts 5 = .ok (.aload_n 0, 1) := by decide +kernel
theorem dX6_howManyParts_6 : decode cX6_howManyParts 6 = .ok (.getfield 19, 3) := by decide +kernel
theorem dX6_howManyParts_9 : decode cX6_howManyParts 9 = .ok (.if_icmp .ge 26, 3) := by decide +kernel
theorem dX6_howManyParts_12 : decode cX6_howManyParts 12 = .ok (.iload_n 2, 1) := by decide +kernel
theorem dX6_howManyParts_13 : decode cX6_howManyParts 13 = .ok (.bipush 12, 2) := by decide +kernel
theorem dX6_howManyParts_15 : decode cX6_howManyParts 15 = .ok (.if_icmp .ge 20, 3) := by decide +kernel
theorem dX6_howManyParts_18 : decode cX6_howManyParts 18 = .ok (.iload_n 1, 1) := by decide +kernel
theorem dX6_howManyParts_19 : decode cX6_howManyParts 19 = .ok (.aload_n 0, 1) := by decide +kernel
theorem dX6_howManyParts_20 : decode cX6_howManyParts 20 = .ok (.getfield 15, 3) := by decide +kernel
theorem dX6_howManyParts_23 : decode cX6_howManyParts 23 = .ok (.iload_n 2, 1) := by decide +kernel
theorem dX6_howManyParts_24 : decode cX6_howManyParts 24 = .ok (.iaload, 1) := by decide +kernel
theorem dX6_howManyParts_25 : decode cX6_howManyParts 25 = .ok (.iconst 1, 1) := by decide +kernel
theorem dX6_howManyParts_26 : decode cX6_howManyParts 26 = .ok (.iadd, 1) := by decide +kernel
theorem dX6_howManyParts_27 : decode cX6_howManyParts 27 = .ok (.imul, 1) := by decide +kernel
theorem dX6_howManyParts_28 : decode cX6_howManyParts 28 = .ok (.istore_n 1, 1) := by decide +kernel
theorem dX6_howManyParts_29 : decode cX6_howManyParts 29 = .ok (.iinc 2 1, 3) := by decide +kernel
theorem dX6_howManyParts_32 : decode cX6_howManyParts 32 = .ok (.goto (-28), 3) := by decide +kernel
theorem dX6_howManyParts_35 : decode cX6_howManyParts 35 = .ok (.iload_n 1, 1) := by decide +kernel
theorem dX6_howManyParts_36 : decode cX6_howManyParts 36 = .ok (.ireturn, 1) := by decide +kernel
set_option maxRecDepth 20000 in
theorem ggX6_partAt_X6_listParts : GoodIn wsX6_partAt wsX6_listParts := goodIn_r _ [8, 9, 10, 2, 1, 11, 12, 13, 14, 15, 16, 7, 17, 18, 19, 20, 21, 22, 23, 24, 25, 26, 27, 28] rfl (by decide +kernel)
set_option maxRecDepth 20000 in
theorem gX6_partAt_X6_listParts : GoodIn wsX6_partAt (wsV RX6 64 RX6 yX6_listParts wsX6_listParts) := goodIn_app (goodIn_sub (List.forall_mem_cons.mpr ⟨List.mem_of_getElem? (i := 4) rfl, List.forall_mem_cons.mpr ⟨List.mem_of_getElem? (i := 5) rfl, List.forall_mem_cons.mpr ⟨List.mem_of_getElem? (i := 6) rfl, List.forall_mem_cons.mpr ⟨List.mem_of_getElem? (i := 7) rfl, fun _ h => absurd h List.not_mem_nil⟩⟩⟩⟩) (by decide +kernel)) ggX6_partAt_X6_listParts
theorem dX6_partAt_0 : decode cX6_partAt 0 = .ok (.aload_n 0, 1) := by decide +kernel
theorem dX6_partAt_1 : decode cX6_partAt 1 = .ok (.invokevirtual 64, 3) := by decide +kernel
theorem dX6_partAt_4 : decode cX6_partAt 4 = .ok (.iload_n 1, 1) := by decide +kernel
theorem dX6_partAt_5 : decode cX6_partAt 5 = .ok (.ifCond .lt 27, 3) := by decide +kernel
theorem dX6_partAt_8 : decode cX6_partAt 8 = .ok (.iload_n 1, 1) := by decide +kernel
theorem dX6_partAt_9 : decode cX6_partAt 9 = .ok (.aload_n 0, 1) := by decide +kernel
theorem dX6_partAt_10 : decode cX6_partAt 10 = .ok (.getfield 30, 3) := by decide +kernel
theorem dX6_partAt_13 : decode cX6_partAt 13 = .ok (.if_icmp .ge 19, 3) := by decide +kernel
theorem dX6_partAt_16 : decode cX6_partAt 16 = .ok (.iload_n 1, 1) := by decide +kernel
theorem dX6_partAt_17 : decode cX6_partAt 17 = .ok (.sipush 2304, 3) := by decide +kernel
theorem dX6_partAt_20 : decode cX6_partAt 20 = .ok (.if_icmp .ge 12, 3) := by decide +kernel
theorem dX6_partAt_23 : decode cX6_partAt 23 = .ok (.aload_n 0, 1) := by decide +kernel
theorem dX6_partAt_24 : decode cX6_partAt 24 = .ok (.getfield 27, 3) := by decide +kernel
theorem dX6_partAt_27 : decode cX6_partAt 27 = .ok (.iload_n 1, 1) := by decide +kernel
theorem dX6_partAt_28 : decode cX6_partAt 28 = .ok (.laload, 1) := by decide +kernel
theorem dX6_partAt_29 : decode cX6_partAt 29 = .ok (.goto 6, 3) := by decide +kernel
theorem dX6_partAt_32 : decode cX6_partAt 32 = .ok (.ldc2_w 62, 3) := by decide +kernel
theorem dX6_partAt_35 : decode cX6_partAt 35 = .ok (.lreturn, 1) := by decide +kernel
set_option maxRecDepth 20000 in
theorem ggX6_listParts_X6_appendMultiples : GoodIn wsX6_listParts wsX6_appendMultiples := goodIn_r _ [12, 4, 3, 16, 17, 18, 19, 20, 21, 22, 23] rfl (by decide +kernel)
set_option maxRecDepth 20000 in
theorem gX6_listParts_X6_appendMultiples : GoodIn wsX6_listParts (wsV RX6 67 RX6 yX6_appendMultiples wsX6_appendMultiples) := goodIn_app (goodIn_sub (List.forall_mem_cons.mpr ⟨List.mem_of_getElem? (i := 8) rfl, List.forall_mem_cons.mpr ⟨List.mem_of_getElem? (i := 9) rfl, List.forall_mem_cons.mpr ⟨List.mem_of_getElem? (i := 10) rfl, List.forall_mem_cons.mpr ⟨List.mem_of_getElem? (i := 11) rfl, fun _ h => absurd h List.not_mem_nil⟩⟩⟩⟩) (by decide +kernel)) ggX6_listParts_X6_appendMultiples
set_option maxRecDepth 20000 in
theorem ggX6_listParts_X11_putInOrder : GoodIn wsX6_listParts wsX11_putInOrder := goodIn_r _ [15] rfl (by decide +kernel)
set_option maxRecDepth 20000 in
theorem gX6_listParts_X11_putInOrder_n71 : GoodIn wsX6_listParts (wsX11_putInOrder) := ggX6_listParts_X11_putInOrder
theorem dX6_listParts_0 : decode cX6_listParts 0 = .ok (.aload_n 0, 1) := by decide +kernel
theorem dX6_listParts_1 : decode cX6_listParts 1 = .ok (.getfield 33, 3) := by decide +kernel
theorem dX6_listParts_4 : decode cX6_listParts 4 = .ok (.aload_n 0, 1) := by decide +kernel
theorem dX6_listParts_5 : decode cX6_listParts 5 = .ok (.getfield 23, 3) := by decide +kernel
theorem dX6_listParts_8 : decode cX6_listParts 8 = .ok (.lcmp, 1) := by decide +kernel
theorem dX6_listParts_9 : decode cX6_listParts 9 = .ok (.ifCond .ne 4, 3) := by decide +kernel
theorem dX6_listParts_12 : decode cX6_listParts 12 = .ok (.return_, 1) := by decide +kernel
theorem dX6_listParts_13 : decode cX6_listParts 13 = .ok (.aload_n 0, 1) := by decide +kernel
theorem dX6_listParts_14 : decode cX6_listParts 14 = .ok (.aload_n 0, 1) := by decide +kernel
theorem dX6_listParts_15 : decode cX6_listParts 15 = .ok (.getfield 23, 3) := by decide +kernel
theorem dX6_listParts_18 : decode cX6_listParts 18 = .ok (.putfield 33, 3) := by decide +kernel
theorem dX6_listParts_21 : decode cX6_listParts 21 = .ok (.aload_n 0, 1) := by decide +kernel
theorem dX6_listParts_22 : decode cX6_listParts 22 = .ok (.getfield 27, 3) := by decide +kernel
theorem dX6_listParts_25 : decode cX6_listParts 25 = .ok (.iconst 0, 1) := by decide +kernel
theorem dX6_listParts_26 : decode cX6_listParts 26 = .ok (.lconst 1, 1) := by decide +kernel
theorem dX6_listParts_27 : decode cX6_listParts 27 = .ok (.lastore, 1) := by decide +kernel
theorem dX6_listParts_28 : decode cX6_listParts 28 = .ok (.aload_n 0, 1) := by decide +kernel
theorem dX6_listParts_29 : decode cX6_listParts 29 = .ok (.iconst 1, 1) := by decide +kernel
theorem dX6_listParts_30 : decode cX6_listParts 30 = .ok (.putfield 30, 3) := by decide +kernel
theorem dX6_listParts_33 : decode cX6_listParts 33 = .ok (.iconst 0, 1) := by decide +kernel
theorem dX6_listParts_34 : decode cX6_listParts 34 = .ok (.istore_n 1, 1) := by decide +kernel
theorem dX6_listParts_35 : decode cX6_listParts 35 = .ok (.iload_n 1, 1) := by decide +kernel
theorem dX6_listParts_36 : decode cX6_listParts 36 = .ok (.aload_n 0, 1) := by decide +kernel
theorem dX6_listParts_37 : decode cX6_listParts 37 = .ok (.getfield 19, 3) := by decide +kernel
theorem dX6_listParts_40 : decode cX6_listParts 40 = .ok (.if_icmp .ge 58, 3) := by decide +kernel
theorem dX6_listParts_43 : decode cX6_listParts 43 = .ok (.iload_n 1, 1) := by decide +kernel
theorem dX6_listParts_44 : decode cX6_listParts 44 = .ok (.bipush 12, 2) := by decide +kernel
theorem dX6_listParts_46 : decode cX6_listParts 46 = .ok (.if_icmp .ge 52, 3) := by decide +kernel
theorem dX6_listParts_49 : decode cX6_listParts 49 = .ok (.iconst 0, 1) := by decide +kernel
theorem dX6_listParts_50 : decode cX6_listParts 50 = .ok (.istore_n 2, 1) := by decide +kernel
theorem dX6_listParts_51 : decode cX6_listParts 51 = .ok (.aload_n 0, 1) := by decide +kernel
theorem dX6_listParts_52 : decode cX6_listParts 52 = .ok (.getfield 30, 3) := by decide +kernel
theorem dX6_listParts_55 : decode cX6_listParts 55 = .ok (.istore_n 3, 1) := by decide +kernel
theorem dX6_listParts_56 : decode cX6_listParts 56 = .ok (.iconst 0, 1) := by decide +kernel
theorem dX6_listParts_57 : decode cX6_listParts 57 = .ok (.istore 4, 2) := by decide +kernel
theorem dX6_listParts_59 : decode cX6_listParts 59 = .ok (.iload 4, 2) := by decide +kernel
theorem dX6_listParts_61 : decode cX6_listParts 61 = .ok (.aload_n 0, 1) := by decide +kernel
theorem dX6_listParts_62 : decode cX6_listParts 62 = .ok (.getfield 15, 3) := by decide +kernel
theorem dX6_listParts_65 : decode cX6_listParts 65 = .ok (.iload_n 1, 1) := by decide +kernel
theorem dX6_listParts_66 : decode cX6_listParts 66 = .ok (.iaload, 1) := by decide +kernel
theorem dX6_listParts_67 : decode cX6_listParts 67 = .ok (.if_icmp .ge 25, 3) := by decide +kernel
theorem dX6_listParts_70 : decode cX6_listParts 70 = .ok (.aload_n 0, 1) := by decide +kernel
theorem dX6_listParts_71 : decode cX6_listParts 71 = .ok (.iload_n 2, 1) := by decide +kernel
theorem dX6_listParts_72 : decode cX6_listParts 72 = .ok (.iload_n 3, 1) := by decide +kernel
theorem dX6_listParts_73 : decode cX6_listParts 73 = .ok (.aload_n 0, 1) := by decide +kernel
theorem dX6_listParts_74 : decode cX6_listParts 74 = .ok (.getfield 11, 3) := by decide +kernel
theorem dX6_listParts_77 : decode cX6_listParts 77 = .ok (.iload_n 1, 1) := by decide +kernel
theorem dX6_listParts_78 : decode cX6_listParts 78 = .ok (.laload, 1) := by decide +kernel
theorem dX6_listParts_79 : decode cX6_listParts 79 = .ok (.invokevirtual 67, 3) := by decide +kernel
theorem dX6_listParts_82 : decode cX6_listParts 82 = .ok (.iload_n 2, 1) := by decide +kernel
theorem dX6_listParts_83 : decode cX6_listParts 83 = .ok (.iload_n 3, 1) := by decide +kernel
theorem dX6_listParts_84 : decode cX6_listParts 84 = .ok (.iadd, 1) := by decide +kernel
theorem dX6_listParts_85 : decode cX6_listParts 85 = .ok (.istore_n 2, 1) := by decide +kernel
theorem dX6_listParts_86 : decode cX6_listParts 86 = .ok (.iinc 4 1, 3) := by decide +kernel
theorem dX6_listParts_89 : decode cX6_listParts 89 = .ok (.goto (-30), 3) := by decide +kernel
theorem dX6_listParts_92 : decode cX6_listParts 92 = .ok (.iinc 1 1, 3) := by decide +kernel
theorem dX6_listParts_95 : decode cX6_listParts 95 = .ok (.goto (-60), 3) := by decide +kernel
theorem dX6_listParts_98 : decode cX6_listParts 98 = .ok (.aload_n 0, 1) := by decide +kernel
theorem dX6_listParts_99 : decode cX6_listParts 99 = .ok (.getfield 27, 3) := by decide +kernel
theorem dX6_listParts_102 : decode cX6_listParts 102 = .ok (.aload_n 0, 1) := by decide +kernel
theorem dX6_listParts_103 : decode cX6_listParts 103 = .ok (.getfield 30, 3) := by decide +kernel
theorem dX6_listParts_106 : decode cX6_listParts 106 = .ok (.invokestatic 71, 3) := by decide +kernel
theorem dX6_listParts_109 : decode cX6_listParts 109 = .ok (.return_, 1) := by decide +kernel
theorem dX6_appendMultiples_0 : decode cX6_appendMultiples 0 = .ok (.iload_n 1, 1) := by decide +kernel
theorem dX6_appendMultiples_1 : decode cX6_appendMultiples 1 = .ok (.istore 5, 2) := by decide +kernel
theorem dX6_appendMultiples_3 : decode cX6_appendMultiples 3 = .ok (.iload 5, 2) := by decide +kernel
theorem dX6_appendMultiples_5 : decode cX6_appendMultiples 5 = .ok (.iload_n 1, 1) := by decide +kernel
theorem dX6_appendMultiples_6 : decode cX6_appendMultiples 6 = .ok (.iload_n 2, 1) := by decide +kernel
theorem dX6_appendMultiples_7 : decode cX6_appendMultiples 7 = .ok (.iadd, 1) := by decide +kernel
theorem dX6_appendMultiples_8 : decode cX6_appendMultiples 8 = .ok (.if_icmp .ge 56, 3) := by decide +kernel
theorem dX6_appendMultiples_11 : decode cX6_appendMultiples 11 = .ok (.iload 5, 2) := by decide +kernel
theorem dX6_appendMultiples_13 : decode cX6_appendMultiples 13 = .ok (.aload_n 0, 1) := by decide +kernel
theorem dX6_appendMultiples_14 : decode cX6_appendMultiples 14 = .ok (.getfield 30, 3) := by decide +kernel
theorem dX6_appendMultiples_17 : decode cX6_appendMultiples 17 = .ok (.if_icmp .ge 47, 3) := by decide +kernel
theorem dX6_appendMultiples_20 : decode cX6_appendMultiples 20 = .ok (.aload_n 0, 1) := by decide +kernel
theorem dX6_appendMultiples_21 : decode cX6_appendMultiples 21 = .ok (.getfield 30, 3) := by decide +kernel
theorem dX6_appendMultiples_24 : decode cX6_appendMultiples 24 = .ok (.sipush 2304, 3) := by decide +kernel
theorem dX6_appendMultiples_27 : decode cX6_appendMultiples 27 = .ok (.if_icmp .ge 37, 3) := by decide +kernel
theorem dX6_appendMultiples_30 : decode cX6_appendMultiples 30 = .ok (.aload_n 0, 1) := by decide +kernel
theorem dX6_appendMultiples_31 : decode cX6_appendMultiples 31 = .ok (.getfield 27, 3) := by decide +kernel
theorem dX6_appendMultiples_34 : decode cX6_appendMultiples 34 = .ok (.aload_n 0, 1) := by decide +kernel
theorem dX6_appendMultiples_35 : decode cX6_appendMultiples 35 = .ok (.getfield 30, 3) := by decide +kernel
theorem dX6_appendMultiples_38 : decode cX6_appendMultiples 38 = .ok (.aload_n 0, 1) := by decide +kernel
theorem dX6_appendMultiples_39 : decode cX6_appendMultiples 39 = .ok (.getfield 27, 3) := by decide +kernel
theorem dX6_appendMultiples_42 : decode cX6_appendMultiples 42 = .ok (.iload 5, 2) := by decide +kernel
theorem dX6_appendMultiples_44 : decode cX6_appendMultiples 44 = .ok (.laload, 1) := by decide +kernel
theorem dX6_appendMultiples_45 : decode cX6_appendMultiples 45 = .ok (.lload_n 3, 1) := by decide +kernel
theorem dX6_appendMultiples_46 : decode cX6_appendMultiples 46 = .ok (.lmul, 1) := by decide +kernel
theorem dX6_appendMultiples_47 : decode cX6_appendMultiples 47 = .ok (.lastore, 1) := by decide +kernel
theorem dX6_appendMultiples_48 : decode cX6_appendMultiples 48 = .ok (.aload_n 0, 1) := by decide +kernel
theorem dX6_appendMultiples_49 : decode cX6_appendMultiples 49 = .ok (.dup, 1) := by decide +kernel
theorem dX6_appendMultiples_50 : decode cX6_appendMultiples 50 = .ok (.getfield 30, 3) := by decide +kernel
theorem dX6_appendMultiples_53 : decode cX6_appendMultiples 53 = .ok (.iconst 1, 1) := by decide +kernel
theorem dX6_appendMultiples_54 : decode cX6_appendMultiples 54 = .ok (.iadd, 1) := by decide +kernel
theorem dX6_appendMultiples_55 : decode cX6_appendMultiples 55 = .ok (.putfield 30, 3) := by decide +kernel
theorem dX6_appendMultiples_58 : decode cX6_appendMultiples 58 = .ok (.iinc 5 1, 3) := by decide +kernel
theorem dX6_appendMultiples_61 : decode cX6_appendMultiples 61 = .ok (.goto (-58), 3) := by decide +kernel
theorem dX6_appendMultiples_64 : decode cX6_appendMultiples 64 = .ok (.return_, 1) := by decide +kernel
theorem dX7_init_0 : decode cX7_init 0 = .ok (.aload_n 0, 1) := by decide +kernel
theorem dX7_init_1 : decode cX7_init 1 = .ok (.invokespecial 3, 3) := by decide +kernel
theorem dX7_init_4 : decode cX7_init 4 = .ok (.aload_n 0, 1) := by decide +kernel
theorem dX7_init_5 : decode cX7_init 5 = .ok (.iconst 0, 1) := by decide +kernel
theorem dX7_init_6 : decode cX7_init 6 = .ok (.newarray .int, 2) := by decide +kernel
theorem dX7_init_8 : decode cX7_init 8 = .ok (.putfield 9, 3) := by decide +kernel
theorem dX7_init_11 : decode cX7_init 11 = .ok (.aload_n 0, 1) := by decide +kernel
theorem dX7_init_12 : decode cX7_init 12 = .ok (.iconst 0, 1) := by decide +kernel
theorem dX7_init_13 : decode cX7_init 13 = .ok (.newarray .int, 2) := by decide +kernel
theorem dX7_init_15 : decode cX7_init 15 = .ok (.putfield 15, 3) := by decide +kernel
theorem dX7_init_18 : decode cX7_init 18 = .ok (.aload_n 0, 1) := by decide +kernel
theorem dX7_init_19 : decode cX7_init 19 = .ok (.aload_n 1, 1) := by decide +kernel
theorem dX7_init_20 : decode cX7_init 20 = .ok (.putfield 18, 3) := by decide +kernel
theorem dX7_init_23 : decode cX7_init 23 = .ok (.return_, 1) := by decide +kernel
set_option maxRecDepth 20000 in
theorem ggX7_prepare_X7_leastPrimes : GoodIn wsX7_prepare wsX7_leastPrimes := goodIn_r _ [9, 10, 11, 12, 13, 14, 15, 16, 17, 18, 19, 20, 21, 3, 22, 23, 24, 25, 30, 31, 32, 33] rfl (by decide +kernel)
set_option maxRecDepth 20000 in
theorem gX7_prepare_X7_leastPrimes : GoodIn wsX7_prepare (wsV RX7 23 RX7 yX7_leastPrimes wsX7_leastPrimes) := goodIn_app (goodIn_sub (List.forall_mem_cons.mpr ⟨List.mem_of_getElem? (i := 5) rfl, List.forall_mem_cons.mpr ⟨List.mem_of_getElem? (i := 6) rfl, List.forall_mem_cons.mpr ⟨List.mem_of_getElem? (i := 7) rfl, List.forall_mem_cons.mpr ⟨List.mem_of_getElem? (i := 8) rfl, fun _ h => absurd h List.not_mem_nil⟩⟩⟩⟩) (by decide +kernel)) ggX7_prepare_X7_leastPrimes
set_option maxRecDepth 20000 in
theorem ggX7_prepare_X7_fillIn : GoodIn wsX7_prepare wsX7_fillIn := goodIn_r _ [29, 1, 4, 30, 31, 32] rfl (by decide +kernel)
set_option maxRecDepth 20000 in
theorem gX7_prepare_X7_fillIn : GoodIn wsX7_prepare (wsV RX7 27 RX7 yX7_fillIn wsX7_fillIn) := goodIn_app (goodIn_sub (List.forall_mem_cons.mpr ⟨List.mem_of_getElem? (i := 26) rfl, List.forall_mem_cons.mpr ⟨List.mem_of_getElem? (i := 27) rfl, List.forall_mem_cons.mpr ⟨List.mem_of_getElem? (i := 28) rfl, List.forall_mem_cons.mpr ⟨List.mem_of_getElem? (i := 8) rfl, fun _ h => absurd h List.not_mem_nil⟩⟩⟩⟩) (by decide +kernel)) ggX7_prepare_X7_fillIn
theorem dX7_prepare_0 : decode cX7_prepare 0 = .ok (.aload_n 0, 1) := by decide +kernel
theorem dX7_prepare_1 : decode cX7_prepare 1 = .ok (.getfield 9, 3) := by decide +kernel
theorem dX7_prepare_4 : decode cX7_prepare 4 = .ok (.arraylength, 1) := by decide +kernel
theorem dX7_prepare_5 : decode cX7_prepare 5 = .ok (.ifCond .le 4, 3) := by decide +kernel
theorem dX7_prepare_8 : decode cX7_prepare 8 = .ok (.return_, 1) := by decide +kernel
theorem dX7_prepare_9 : decode cX7_prepare 9 = .ok (.aload_n 0, 1) := by decide +kernel
theorem dX7_prepare_10 : decode cX7_prepare 10 = .ok (.ldc 22, 2) := by decide +kernel
theorem dX7_prepare_12 : decode cX7_prepare 12 = .ok (.newarray .int, 2) := by decide +kernel
theorem dX7_prepare_14 : decode cX7_prepare 14 = .ok (.putfield 9, 3) := by decide +kernel
theorem dX7_prepare_17 : decode cX7_prepare 17 = .ok (.aload_n 0, 1) := by decide +kernel
theorem dX7_prepare_18 : decode cX7_prepare 18 = .ok (.ldc 22, 2) := by decide +kernel
theorem dX7_prepare_20 : decode cX7_prepare 20 = .ok (.newarray .int, 2) := by decide +kernel
theorem dX7_prepare_22 : decode cX7_prepare 22 = .ok (.putfield 15, 3) := by decide +kernel
theorem dX7_prepare_25 : decode cX7_prepare 25 = .ok (.aload_n 0, 1) := by decide +kernel
theorem dX7_prepare_26 : decode cX7_prepare 26 = .ok (.aload_n 0, 1) := by decide +kernel
theorem dX7_prepare_27 : decode cX7_prepare 27 = .ok (.invokevirtual 23, 3) := by decide +kernel
theorem dX7_prepare_30 : decode cX7_prepare 30 = .ok (.invokevirtual 27, 3) := by decide +kernel
theorem dX7_prepare_33 : decode cX7_prepare 33 = .ok (.return_, 1) := by decide +kernel
set_option maxRecDepth 20000 in
theorem ggX7_leastPrimes_X4_cleared : GoodIn wsX7_leastPrimes wsX4_cleared := goodIn_r _ [6, 7, 8, 9, 5, 10, 11, 12, 13, 14, 15, 16, 17, 21] rfl (by decide +kernel)
set_option maxRecDepth 20000 in
theorem gX7_leastPrimes_X4_cleared : GoodIn wsX7_leastPrimes (wsV RX7 31 RX4 yX4_cleared wsX4_cleared) := goodIn_app (goodIn_sub (List.forall_mem_cons.mpr ⟨List.mem_of_getElem? (i := 2) rfl, List.forall_mem_cons.mpr ⟨List.mem_of_getElem? (i := 3) rfl, List.forall_mem_cons.mpr ⟨List.mem_of_getElem? (i := 4) rfl, List.forall_mem_cons.mpr ⟨List.mem_of_getElem? (i := 5) rfl, fun _ h => absurd h List.not_mem_nil⟩⟩⟩⟩) (by decide +kernel)) ggX7_leastPrimes_X4_cleared
theorem dX7_leastPrimes_0 : decode cX7_leastPrimes 0 = .ok (.aload_n 0, 1) := by decide +kernel
theorem dX7_leastPrimes_1 : decode cX7_leastPrimes 1 = .ok (.getfield 18, 3) := by decide +kernel
theorem dX7_leastPrimes_4 : decode cX7_leastPrimes 4 = .ok (.invokevirtual 31, 3) := by decide +kernel
theorem dX7_leastPrimes_7 : decode cX7_leastPrimes 7 = .ok (.astore_n 1, 1) := by decide +kernel
theorem dX7_leastPrimes_8 : decode cX7_leastPrimes 8 = .ok (.iconst 2, 1) := by decide +kernel
theorem dX7_leastPrimes_9 : decode cX7_leastPrimes 9 = .ok (.istore_n 2, 1) := by decide +kernel
theorem dX7_leastPrimes_10 : decode cX7_leastPrimes 10 = .ok (.iload_n 2, 1) := by decide +kernel
theorem dX7_leastPrimes_11 : decode cX7_leastPrimes 11 = .ok (.iload_n 2, 1) := by decide +kernel
theorem dX7_leastPrimes_12 : decode cX7_leastPrimes 12 = .ok (.imul, 1) := by decide +kernel
theorem dX7_leastPrimes_13 : decode cX7_leastPrimes 13 = .ok (.aload_n 1, 1) := by decide +kernel
theorem dX7_leastPrimes_14 : decode cX7_leastPrimes 14 = .ok (.arraylength, 1) := by decide +kernel
theorem dX7_leastPrimes_15 : decode cX7_leastPrimes 15 = .ok (.if_icmp .ge 45, 3) := by decide +kernel
theorem dX7_leastPrimes_18 : decode cX7_leastPrimes 18 = .ok (.aload_n 1, 1) := by decide +kernel
theorem dX7_leastPrimes_19 : decode cX7_leastPrimes 19 = .ok (.iload_n 2, 1) := by decide +kernel
theorem dX7_leastPrimes_20 : decode cX7_leastPrimes 20 = .ok (.iaload, 1) := by decide +kernel
theorem dX7_leastPrimes_21 : decode cX7_leastPrimes 21 = .ok (.ifCond .eq 6, 3) := by decide +kernel
theorem dX7_leastPrimes_24 : decode cX7_leastPrimes 24 = .ok (.goto 30, 3) := by decide +kernel
theorem dX7_leastPrimes_27 : decode cX7_leastPrimes 27 = .ok (.iload_n 2, 1) := by decide +kernel
theorem dX7_leastPrimes_28 : decode cX7_leastPrimes 28 = .ok (.iload_n 2, 1) := by decide +kernel
theorem dX7_leastPrimes_29 : decode cX7_leastPrimes 29 = .ok (.imul, 1) := by decide +kernel
theorem dX7_leastPrimes_30 : decode cX7_leastPrimes 30 = .ok (.istore_n 3, 1) := by decide +kernel
theorem dX7_leastPrimes_31 : decode cX7_leastPrimes 31 = .ok (.iload_n 3, 1) := by decide +kernel
theorem dX7_leastPrimes_32 : decode cX7_leastPrimes 32 = .ok (.aload_n 1, 1) := by decide +kernel
theorem dX7_leastPrimes_33 : decode cX7_leastPrimes 33 = .ok (.arraylength, 1) := by decide +kernel
theorem dX7_leastPrimes_34 : decode cX7_leastPrimes 34 = .ok (.if_icmp .ge 20, 3) := by decide +kernel
theorem dX7_leastPrimes_37 : decode cX7_leastPrimes 37 = .ok (.aload_n 1, 1) := by decide +kernel
theorem dX7_leastPrimes_38 : decode cX7_leastPrimes 38 = .ok (.iload_n 3, 1) := by decide +kernel
theorem dX7_leastPrimes_39 : decode cX7_leastPrimes 39 = .ok (.iaload, 1) := by decide +kernel
theorem dX7_leastPrimes_40 : decode cX7_leastPrimes 40 = .ok (.ifCond .ne 7, 3) := by decide +kernel
theorem dX7_leastPrimes_43 : decode cX7_leastPrimes 43 = .ok (.aload_n 1, 1) := by decide +kernel
theorem dX7_leastPrimes_44 : decode cX7_leastPrimes 44 = .ok (.iload_n 3, 1) := by decide +kernel
theorem dX7_leastPrimes_45 : decode cX7_leastPrimes 45 = .ok (.iload_n 2, 1) := by decide +kernel
theorem dX7_leastPrimes_46 : decode cX7_leastPrimes 46 = .ok (.iastore, 1) := by decide +kernel
theorem dX7_leastPrimes_47 : decode cX7_leastPrimes 47 = .ok (.iload_n 3, 1) := by decide +kernel
theorem dX7_leastPrimes_48 : decode cX7_leastPrimes 48 = .ok (.iload_n 2, 1) := by decide +kernel
theorem dX7_leastPrimes_49 : decode cX7_leastPrimes 49 = .ok (.iadd, 1) := by decide +kernel
theorem dX7_leastPrimes_50 : decode cX7_leastPrimes 50 = .ok (.istore_n 3, 1) := by decide +kernel
theorem dX7_leastPrimes_51 : decode cX7_leastPrimes 51 = .ok (.goto (-20), 3) := by decide +kernel
theorem dX7_leastPrimes_54 : decode cX7_leastPrimes 54 = .ok (.iinc 2 1, 3) := by decide +kernel
theorem dX7_leastPrimes_57 : decode cX7_leastPrimes 57 = .ok (.goto (-47), 3) := by decide +kernel
theorem dX7_leastPrimes_60 : decode cX7_leastPrimes 60 = .ok (.aload_n 1, 1) := by decide +kernel
theorem dX7_leastPrimes_61 : decode cX7_leastPrimes 61 = .ok (.areturn, 1) := by decide +kernel
theorem dX7_fillIn_0 : decode cX7_fillIn 0 = .ok (.aload_n 0, 1) := by decide +kernel
theorem dX7_fillIn_1 : decode cX7_fillIn 1 = .ok (.getfield 9, 3) := by decide +kernel
theorem dX7_fillIn_4 : decode cX7_fillIn 4 = .ok (.iconst 1, 1) := by decide +kernel
theorem dX7_fillIn_5 : decode cX7_fillIn 5 = .ok (.iconst 1, 1) := by decide +kernel
theorem dX7_fillIn_6 : decode cX7_fillIn 6 = .ok (.iastore, 1) := by decide +kernel
theorem dX7_fillIn_7 : decode cX7_fillIn 7 = .ok (.aload_n 0, 1) := by decide +kernel
theorem dX7_fillIn_8 : decode cX7_fillIn 8 = .ok (.getfield 15, 3) := by decide +kernel
theorem dX7_fillIn_11 : decode cX7_fillIn 11 = .ok (.iconst 1, 1) := by decide +kernel
theorem dX7_fillIn_12 : decode cX7_fillIn 12 = .ok (.iconst 1, 1) := by decide +kernel
theorem dX7_fillIn_13 : decode cX7_fillIn 13 = .ok (.iastore, 1) := by decide +kernel
theorem dX7_fillIn_14 : decode cX7_fillIn 14 = .ok (.iconst 2, 1) := by decide +kernel
theorem dX7_fillIn_15 : decode cX7_fillIn 15 = .ok (.istore_n 2, 1) := by decide +kernel
theorem dX7_fillIn_16 : decode cX7_fillIn 16 = .ok (.iload_n 2, 1) := by decide +kernel
theorem dX7_fillIn_17 : decode cX7_fillIn 17 = .ok (.aload_n 0, 1) := by decide +kernel
theorem dX7_fillIn_18 : decode cX7_fillIn 18 = .ok (.getfield 9, 3) := by decide +kernel
theorem dX7_fillIn_21 : decode cX7_fillIn 21 = .ok (.arraylength, 1) := by decide +kernel
theorem dX7_fillIn_22 : decode cX7_fillIn 22 = .ok (.if_icmp .ge 140, 3) := by decide +kernel
theorem dX7_fillIn_25 : decode cX7_fillIn 25 = .ok (.iload_n 2, 1) := by decide +kernel
theorem dX7_fillIn_26 : decode cX7_fillIn 26 = .ok (.aload_n 0, 1) := by decide +kernel
theorem dX7_fillIn_27 : decode cX7_fillIn 27 = .ok (.getfield 15, 3) := by decide +kernel
theorem dX7_fillIn_30 : decode cX7_fillIn 30 = .ok (.arraylength, 1) := by decide +kernel
theorem dX7_fillIn_31 : decode cX7_fillIn 31 = .ok (.if_icmp .ge 131, 3) := by decide +kernel
theorem dX7_fillIn_34 : decode cX7_fillIn 34 = .ok (.iload_n 2, 1) := by decide +kernel
theorem dX7_fillIn_35 : decode cX7_fillIn 35 = .ok (.aload_n 1, 1) := by decide +kernel
theorem dX7_fillIn_36 : decode cX7_fillIn 36 = .ok (.arraylength, 1) := by decide +kernel
theorem dX7_fillIn_37 : decode cX7_fillIn 37 = .ok (.if_icmp .ge 125, 3) := by decide +kernel
theorem dX7_fillIn_40 : decode cX7_fillIn 40 = .ok (.aload_n 1, 1) := by decide +kernel
theorem dX7_fillIn_41 : decode cX7_fillIn 41 = .ok (.iload_n 2, 1) := by decide +kernel
theorem dX7_fillIn_42 : decode cX7_fillIn 42 = .ok (.iaload, 1) := by decide +kernel
theorem dX7_fillIn_43 : decode cX7_fillIn 43 = .ok (.iconst 2, 1) := by decide +kernel
theorem dX7_fillIn_44 : decode cX7_fillIn 44 = .ok (.if_icmp .ge 7, 3) := by decide +kernel
theorem dX7_fillIn_47 : decode cX7_fillIn 47 = .ok (.iload_n 2, 1) := by decide +kernel
theorem dX7_fillIn_48 : decode cX7_fillIn 48 = .ok (.goto 6, 3) := by decide +kernel
theorem dX7_fillIn_51 : decode cX7_fillIn 51 = .ok (.aload_n 1, 1) := by decide +kernel
theorem dX7_fillIn_52 : decode cX7_fillIn 52 = .ok (.iload_n 2, 1) := by decide +kernel
theorem dX7_fillIn_53 : decode cX7_fillIn 53 = .ok (.iaload, 1) := by decide +kernel
theorem dX7_fillIn_54 : decode cX7_fillIn 54 = .ok (.istore_n 3, 1) := by decide +kernel
theorem dX7_fillIn_55 : decode cX7_fillIn 55 = .ok (.iload_n 2, 1) := by decide +kernel
theorem dX7_fillIn_56 : decode cX7_fillIn 56 = .ok (.iload_n 3, 1) := by decide +kernel
theorem dX7_fillIn_57 : decode cX7_fillIn 57 = .ok (.idiv, 1) := by decide +kernel
theorem dX7_fillIn_58 : decode cX7_fillIn 58 = .ok (.istore 4, 2) := by decide +kernel
theorem dX7_fillIn_60 : decode cX7_fillIn 60 = .ok (.iload_n 3, 1) := by decide +kernel
theorem dX7_fillIn_61 : decode cX7_fillIn 61 = .ok (.istore 5, 2) := by decide +kernel
theorem dX7_fillIn_63 : decode cX7_fillIn 63 = .ok (.iconst 1, 1) := by decide +kernel
theorem dX7_fillIn_64 : decode cX7_fillIn 64 = .ok (.iload_n 3, 1) := by decide +kernel
theorem dX7_fillIn_65 : decode cX7_fillIn 65 = .ok (.iadd, 1) := by decide +kernel
theorem dX7_fillIn_66 : decode cX7_fillIn 66 = .ok (.istore 6, 2) := by decide +kernel
theorem dX7_fillIn_68 : decode cX7_fillIn 68 = .ok (.iconst 0, 1) := by decide +kernel
theorem dX7_fillIn_69 : decode cX7_fillIn 69 = .ok (.istore 7, 2) := by decide +kernel
theorem dX7_fillIn_71 : decode cX7_fillIn 71 = .ok (.iload 7, 2) := by decide +kernel
theorem dX7_fillIn_73 : decode cX7_fillIn 73 = .ok (.bipush 32, 2) := by decide +kernel
theorem dX7_fillIn_75 : decode cX7_fillIn 75 = .ok (.if_icmp .ge 35, 3) := by decide +kernel
theorem dX7_fillIn_78 : decode cX7_fillIn 78 = .ok (.iload 4, 2) := by decide +kernel
theorem dX7_fillIn_80 : decode cX7_fillIn 80 = .ok (.iload_n 3, 1) := by decide +kernel
theorem dX7_fillIn_81 : decode cX7_fillIn 81 = .ok (.irem, 1) := by decide +kernel
theorem dX7_fillIn_82 : decode cX7_fillIn 82 = .ok (.ifCond .ne 28, 3) := by decide +kernel
theorem dX7_fillIn_85 : decode cX7_fillIn 85 = .ok (.iload 4, 2) := by decide +kernel
theorem dX7_fillIn_87 : decode cX7_fillIn 87 = .ok (.iload_n 3, 1) := by decide +kernel
theorem dX7_fillIn_88 : decode cX7_fillIn 88 = .ok (.idiv, 1) := by decide +kernel
theorem dX7_fillIn_89 : decode cX7_fillIn 89 = .ok (.istore 4, 2) := by decide +kernel
theorem dX7_fillIn_91 : decode cX7_fillIn 91 = .ok (.iload 5, 2) := by decide +kernel
theorem dX7_fillIn_93 : decode cX7_fillIn 93 = .ok (.iload_n 3, 1) := by decide +kernel
theorem dX7_fillIn_94 : decode cX7_fillIn 94 = .ok (.imul, 1) := by decide +kernel
theorem dX7_fillIn_95 : decode cX7_fillIn 95 = .ok (.istore 5, 2) := by decide +kernel
theorem dX7_fillIn_97 : decode cX7_fillIn 97 = .ok (.iload 6, 2) := by decide +kernel
theorem dX7_fillIn_99 : decode cX7_fillIn 99 = .ok (.iload 5, 2) := by decide +kernel
theorem dX7_fillIn_101 : decode cX7_fillIn 101 = .ok (.iadd, 1) := by decide +kernel
theorem dX7_fillIn_102 : decode cX7_fillIn 102 = .ok (.istore 6, 2) := by decide +kernel
theorem dX7_fillIn_104 : decode cX7_fillIn 104 = .ok (.iinc 7 1, 3) := by decide +kernel
theorem dX7_fillIn_107 : decode cX7_fillIn 107 = .ok (.goto (-36), 3) := by decide +kernel
theorem dX7_fillIn_110 : decode cX7_fillIn 110 = .ok (.iload 4, 2) := by decide +kernel
theorem dX7_fillIn_112 : decode cX7_fillIn 112 = .ok (.iconst 1, 1) := by decide +kernel
theorem dX7_fillIn_113 : decode cX7_fillIn 113 = .ok (.if_icmp .lt 43, 3) := by decide +kernel
theorem dX7_fillIn_116 : decode cX7_fillIn 116 = .ok (.iload 4, 2) := by decide +kernel
theorem dX7_fillIn_118 : decode cX7_fillIn 118 = .ok (.iload_n 2, 1) := by decide +kernel
theorem dX7_fillIn_119 : decode cX7_fillIn 119 = .ok (.if_icmp .ge 37, 3) := by decide +kernel
theorem dX7_fillIn_122 : decode cX7_fillIn 122 = .ok (.aload_n 0, 1) := by decide +kernel
theorem dX7_fillIn_123 : decode cX7_fillIn 123 = .ok (.getfield 9, 3) := by decide +kernel
theorem dX7_fillIn_126 : decode cX7_fillIn 126 = .ok (.iload_n 2, 1) := by decide +kernel
theorem dX7_fillIn_127 : decode cX7_fillIn 127 = .ok (.aload_n 0, 1) := by decide +kernel
theorem dX7_fillIn_128 : decode cX7_fillIn 128 = .ok (.getfield 9, 3) := by decide +kernel
theorem dX7_fillIn_131 : decode cX7_fillIn 131 = .ok (.iload 4, 2) := by decide +kernel
theorem dX7_fillIn_133 : decode cX7_fillIn 133 = .ok (.iaload, 1) := by decide +kernel
theorem dX7_fillIn_134 : decode cX7_fillIn 134 = .ok (.iload 6, 2) := by decide +kernel
theorem dX7_fillIn_136 : decode cX7_fillIn 136 = .ok (.imul, 1) := by decide +kernel
theorem dX7_fillIn_137 : decode cX7_fillIn 137 = .ok (.iastore, 1) := by decide +kernel
theorem dX7_fillIn_138 : decode cX7_fillIn 138 = .ok (.aload_n 0, 1) := by decide +kernel
theorem dX7_fillIn_139 : decode cX7_fillIn 139 = .ok (.getfield 15, 3) := by decide +kernel
theorem dX7_fillIn_142 : decode cX7_fillIn 142 = .ok (.iload_n 2, 1) := by decide +kernel
theorem dX7_fillIn_143 : decode cX7_fillIn 143 = .ok (.aload_n 0, 1) := by decide +kernel
theorem dX7_fillIn_144 : decode cX7_fillIn 144 = .ok (.getfield 15, 3) := by decide +kernel
theorem dX7_fillIn_147 : decode cX7_fillIn 147 = .ok (.iload 4, 2) := by decide +kernel
theorem dX7_fillIn_149 : decode cX7_fillIn 149 = .ok (.iaload, 1) := by decide +kernel
theorem dX7_fillIn_150 : decode cX7_fillIn 150 = .ok (.iload 5, 2) := by decide +kernel
theorem dX7_fillIn_152 : decode cX7_fillIn 152 = .ok (.iconst 1, 1) := by decide +kernel
theorem dX7_fillIn_153 : decode cX7_fillIn 153 = .ok (.iadd, 1) := by decide +kernel
theorem dX7_fillIn_154 : decode cX7_fillIn 154 = .ok (.imul, 1) := by decide +kernel
theorem dX7_fillIn_155 : decode cX7_fillIn 155 = .ok (.iastore, 1) := by decide +kernel
theorem dX7_fillIn_156 : decode cX7_fillIn 156 = .ok (.iinc 2 1, 3) := by decide +kernel
theorem dX7_fillIn_159 : decode cX7_fillIn 159 = .ok (.goto (-143), 3) := by decide +kernel
theorem dX7_fillIn_162 : decode cX7_fillIn 162 = .ok (.return_, 1) := by decide +kernel
theorem dX7_summed_0 : decode cX7_summed 0 = .ok (.iload_n 2, 1) := by decide +kernel
theorem dX7_summed_1 : decode cX7_summed 1 = .ok (.iconst 1, 1) := by decide +kernel
theorem dX7_summed_2 : decode cX7_summed 2 = .ok (.if_icmp .lt 21, 3) := by decide +kernel
theorem dX7_summed_5 : decode cX7_summed 5 = .ok (.iload_n 2, 1) := by decide +kernel
theorem dX7_summed_6 : decode cX7_summed 6 = .ok (.aload_n 0, 1) := by decide +kernel
theorem dX7_summed_7 : decode cX7_summed 7 = .ok (.getfield 9, 3) := by decide +kernel
theorem dX7_summed_10 : decode cX7_summed 10 = .ok (.arraylength, 1) := by decide +kernel
theorem dX7_summed_11 : decode cX7_summed 11 = .ok (.if_icmp .ge 12, 3) := by decide +kernel
theorem dX7_summed_14 : decode cX7_summed 14 = .ok (.iload_n 2, 1) := by decide +kernel
theorem dX7_summed_15 : decode cX7_summed 15 = .ok (.aload_n 0, 1) := by decide +kernel
theorem dX7_summed_16 : decode cX7_summed 16 = .ok (.getfield 15, 3) := by decide +kernel
theorem dX7_summed_19 : decode cX7_summed 19 = .ok (.arraylength, 1) := by decide +kernel
theorem dX7_summed_20 : decode cX7_summed 20 = .ok (.if_icmp .lt 5, 3) := by decide +kernel
theorem dX7_summed_23 : decode cX7_summed 23 = .ok (.iconst 0, 1) := by decide +kernel
theorem dX7_summed_24 : decode cX7_summed 24 = .ok (.ireturn, 1) := by decide +kernel
theorem dX7_summed_25 : decode cX7_summed 25 = .ok (.iload_n 1, 1) := by decide +kernel
theorem dX7_summed_26 : decode cX7_summed 26 = .ok (.tableswitch 51 0 2 #[26, 33, 42], 26) := by decide +kernel
theorem dX7_summed_52 : decode cX7_summed 52 = .ok (.aload_n 0, 1) := by decide +kernel
theorem dX7_summed_53 : decode cX7_summed 53 = .ok (.getfield 9, 3) := by decide +kernel
theorem dX7_summed_56 : decode cX7_summed 56 = .ok (.iload_n 2, 1) := by decide +kernel
theorem dX7_summed_57 : decode cX7_summed 57 = .ok (.iaload, 1) := by decide +kernel
theorem dX7_summed_58 : decode cX7_summed 58 = .ok (.ireturn, 1) := by decide +kernel
theorem dX7_summed_59 : decode cX7_summed 59 = .ok (.aload_n 0, 1) := by decide +kernel
theorem dX7_summed_60 : decode cX7_summed 60 = .ok (.getfield 9, 3) := by decide +kernel
theorem dX7_summed_63 : decode cX7_summed 63 = .ok (.iload_n 2, 1) := by decide +kernel
theorem dX7_summed_64 : decode cX7_summed 64 = .ok (.iaload, 1) := by decide +kernel
theorem dX7_summed_65 : decode cX7_summed 65 = .ok (.iload_n 2, 1) := by decide +kernel
theorem dX7_summed_66 : decode cX7_summed 66 = .ok (.isub, 1) := by decide +kernel
theorem dX7_summed_67 : decode cX7_summed 67 = .ok (.ireturn, 1) := by decide +kernel
theorem dX7_summed_68 : decode cX7_summed 68 = .ok (.aload_n 0, 1) := by decide +kernel
theorem dX7_summed_69 : decode cX7_summed 69 = .ok (.getfield 15, 3) := by decide +kernel
theorem dX7_summed_72 : decode cX7_summed 72 = .ok (.iload_n 2, 1) := by decide +kernel
theorem dX7_summed_73 : decode cX7_summed 73 = .ok (.iaload, 1) := by decide +kernel
theorem dX7_summed_74 : decode cX7_summed 74 = .ok (.iload_n 2, 1) := by decide +kernel
theorem dX7_summed_75 : decode cX7_summed 75 = .ok (.isub, 1) := by decide +kernel
theorem dX7_summed_76 : decode cX7_summed 76 = .ok (.ireturn, 1) := by decide +kernel
theorem dX7_summed_77 : decode cX7_summed 77 = .ok (.iload_n 2, 1) := by decide +kernel
theorem dX7_summed_78 : decode cX7_summed 78 = .ok (.iconst 1, 1) := by decide +kernel
theorem dX7_summed_79 : decode cX7_summed 79 = .ok (.if_icmp .ne 7, 3) := by decide +kernel
theorem dX7_summed_82 : decode cX7_summed 82 = .ok (.iconst 0, 1) := by decide +kernel
theorem dX7_summed_83 : decode cX7_summed 83 = .ok (.goto 13, 3) := by decide +kernel
theorem dX7_summed_86 : decode cX7_summed 86 = .ok (.aload_n 0, 1) := by decide +kernel
theorem dX7_summed_87 : decode cX7_summed 87 = .ok (.getfield 9, 3) := by decide +kernel
theorem dX7_summed_90 : decode cX7_summed 90 = .ok (.iload_n 2, 1) := by decide +kernel
theorem dX7_summed_91 : decode cX7_summed 91 = .ok (.iaload, 1) := by decide +kernel
theorem dX7_summed_92 : decode cX7_summed 92 = .ok (.iload_n 2, 1) := by decide +kernel
theorem dX7_summed_93 : decode cX7_summed 93 = .ok (.isub, 1) := by decide +kernel
theorem dX7_summed_94 : decode cX7_summed 94 = .ok (.iconst 1, 1) := by decide +kernel
theorem dX7_summed_95 : decode cX7_summed 95 = .ok (.isub, 1) := by decide +kernel
theorem dX7_summed_96 : decode cX7_summed 96 = .ok (.ireturn, 1) := by decide +kernel
theorem dX8_init_0 : decode cX8_init 0 = .ok (.aload_n 0, 1) := by decide +kernel
theorem dX8_init_1 : decode cX8_init 1 = .ok (.invokespecial 3, 3) := by decide +kernel
theorem dX8_init_4 : decode cX8_init 4 = .ok (.aload_n 0, 1) := by decide +kernel
theorem dX8_init_5 : decode cX8_init 5 = .ok (.iconst 0, 1) := by decide +kernel
theorem dX8_init_6 : decode cX8_init 6 = .ok (.newarray .int, 2) := by decide +kernel
theorem dX8_init_8 : decode cX8_init 8 = .ok (.putfield 9, 3) := by decide +kernel
theorem dX8_init_11 : decode cX8_init 11 = .ok (.aload_n 0, 1) := by decide +kernel
theorem dX8_init_12 : decode cX8_init 12 = .ok (.aload_n 1, 1) := by decide +kernel
theorem dX8_init_13 : decode cX8_init 13 = .ok (.putfield 15, 3) := by decide +kernel
theorem dX8_init_16 : decode cX8_init 16 = .ok (.aload_n 0, 1) := by decide +kernel
theorem dX8_init_17 : decode cX8_init 17 = .ok (.aload_n 2, 1) := by decide +kernel
theorem dX8_init_18 : decode cX8_init 18 = .ok (.putfield 19, 3) := by decide +kernel
theorem dX8_init_21 : decode cX8_init 21 = .ok (.aload_n 0, 1) := by decide +kernel
theorem dX8_init_22 : decode cX8_init 22 = .ok (.aload_n 3, 1) := by decide +kernel
theorem dX8_init_23 : decode cX8_init 23 = .ok (.putfield 23, 3) := by decide +kernel
theorem dX8_init_26 : decode cX8_init 26 = .ok (.return_, 1) := by decide +kernel
theorem dX8_has_0 : decode cX8_has 0 = .ok (.iload_n 1, 1) := by decide +kernel
theorem dX8_has_1 : decode cX8_has 1 = .ok (.ifCond .lt 30, 3) := by decide +kernel
theorem dX8_has_4 : decode cX8_has 4 = .ok (.iload_n 1, 1) := by decide +kernel
theorem dX8_has_5 : decode cX8_has 5 = .ok (.aload_n 0, 1) := by decide +kernel
theorem dX8_has_6 : decode cX8_has 6 = .ok (.getfield 9, 3) := by decide +kernel
theorem dX8_has_9 : decode cX8_has 9 = .ok (.arraylength, 1) := by decide +kernel
theorem dX8_has_10 : decode cX8_has 10 = .ok (.if_icmp .ge 21, 3) := by decide +kernel
theorem dX8_has_13 : decode cX8_has 13 = .ok (.aload_n 0, 1) := by decide +kernel
theorem dX8_has_14 : decode cX8_has 14 = .ok (.getfield 9, 3) := by decide +kernel
theorem dX8_has_17 : decode cX8_has 17 = .ok (.iload_n 1, 1) := by decide +kernel
theorem dX8_has_18 : decode cX8_has 18 = .ok (.iaload, 1) := by decide +kernel
theorem dX8_has_19 : decode cX8_has 19 = .ok (.iload_n 2, 1) := by decide +kernel
theorem dX8_has_20 : decode cX8_has 20 = .ok (.ishr, 1) := by decide +kernel
theorem dX8_has_21 : decode cX8_has 21 = .ok (.iconst 1, 1) := by decide +kernel
theorem dX8_has_22 : decode cX8_has 22 = .ok (.iand, 1) := by decide +kernel
theorem dX8_has_23 : decode cX8_has 23 = .ok (.iconst 1, 1) := by decide +kernel
theorem dX8_has_24 : decode cX8_has 24 = .ok (.if_icmp .ne 7, 3) := by decide +kernel
theorem dX8_has_27 : decode cX8_has 27 = .ok (.iconst 1, 1) := by decide +kernel
theorem dX8_has_28 : decode cX8_has 28 = .ok (.goto 4, 3) := by decide +kernel
theorem dX8_has_31 : decode cX8_has 31 = .ok (.iconst 0, 1) := by decide +kernel
theorem dX8_has_32 : decode cX8_has 32 = .ok (.ireturn, 1) := by decide +kernel
set_option maxRecDepth 20000 in
theorem ggX8_prepare_X6_splitUp : GoodIn wsX8_prepare wsX6_splitUp := goodIn_r _ [8, 9, 10, 11, 12, 13, 14, 15, 7, 16, 17, 18, 102, 103, 104, 105, 106, 107, 108, 109, 110, 111] rfl (by decide +kernel)
set_option maxRecDepth 20000 in
theorem gX8_prepare_X6_splitUp : GoodIn wsX8_prepare (wsV RX8 27 RX6 yX6_splitUp wsX6_splitUp) := goodIn_app (goodIn_sub (List.forall_mem_cons.mpr ⟨List.mem_of_getElem? (i := 4) rfl, List.forall_mem_cons.mpr ⟨List.mem_of_getElem? (i := 5) rfl, List.forall_mem_cons.mpr ⟨List.mem_of_getElem? (i := 6) rfl, List.forall_mem_cons.mpr ⟨List.mem_of_getElem? (i := 7) rfl, fun _ h => absurd h List.not_mem_nil⟩⟩⟩⟩) (by decide +kernel)) ggX8_prepare_X6_splitUp
set_option maxRecDepth 20000 in
theorem ggX8_prepare_X8_sortTraits : GoodIn wsX8_prepare wsX8_sortTraits := goodIn_r _ [23, 24, 25, 3, 1, 26, 27, 28, 29, 30, 31, 32, 33, 34, 35, 36, 37, 7, 38, 10, 17, 12, 9, 39, 40, 41, 42, 43, 44, 45, 46, 47, 48, 49, 50, 51, 52, 5, 6, 8, 11, 13, 14, 15, 16, 18, 53, 54, 55, 56, 57, 58, 59, 60, 61, 62, 63, 64, 65, 66, 67, 68, 69, 70, 71, 72, 73, 74, 75, 76, 77, 78, 79, 80, 81, 82, 2, 83, 84, 85, 98, 99, 100, 101, 102, 103, 104, 105, 106, 107, 108, 109, 112, 113, 114, 115, 116, 110, 111, 117] rfl (by decide +kernel)
set_option maxRecDepth 20000 in
theorem gX8_prepare_X8_sortTraits : GoodIn wsX8_prepare (wsV RX8 33 RX8 yX8_sortTraits wsX8_sortTraits) := goodIn_app (goodIn_sub (List.forall_mem_cons.mpr ⟨List.mem_of_getElem? (i := 19) rfl, List.forall_mem_cons.mpr ⟨List.mem_of_getElem? (i := 20) rfl, List.forall_mem_cons.mpr ⟨List.mem_of_getElem? (i := 21) rfl, List.forall_mem_cons.mpr ⟨List.mem_of_getElem? (i := 22) rfl, fun _ h => absurd h List.not_mem_nil⟩⟩⟩⟩) (by decide +kernel)) ggX8_prepare_X8_sortTraits
set_option maxRecDepth 20000 in
theorem ggX8_prepare_X8_primeTraits : GoodIn wsX8_prepare wsX8_primeTraits := goodIn_r _ [89, 3, 90, 91, 92, 7, 93, 10, 18, 98, 99, 100, 101, 102, 103, 104, 105, 106, 107, 108, 109] rfl (by decide +kernel)
set_option maxRecDepth 20000 in
theorem gX8_prepare_X8_primeTraits : GoodIn wsX8_prepare (wsV RX8 37 RX8 yX8_primeTraits wsX8_primeTraits) := goodIn_app (goodIn_sub (List.forall_mem_cons.mpr ⟨List.mem_of_getElem? (i := 86) rfl, List.forall_mem_cons.mpr ⟨List.mem_of_getElem? (i := 87) rfl, List.forall_mem_cons.mpr ⟨List.mem_of_getElem? (i := 88) rfl, List.forall_mem_cons.mpr ⟨List.mem_of_getElem? (i := 22) rfl, fun _ h => absurd h List.not_mem_nil⟩⟩⟩⟩) (by decide +kernel)) ggX8_prepare_X8_primeTraits
set_option maxRecDepth 20000 in
theorem ggX8_prepare_X8_markRecords : GoodIn wsX8_prepare wsX8_markRecords := goodIn_r _ [97, 1, 24, 28, 29, 30, 31, 32, 33, 34, 98, 99, 100, 101, 112, 113, 114] rfl (by decide +kernel)
set_option maxRecDepth 20000 in
theorem gX8_prepare_X8_markRecords : GoodIn wsX8_prepare (wsV RX8 40 RX8 yX8_markRecords wsX8_markRecords) := goodIn_app (goodIn_sub (List.forall_mem_cons.mpr ⟨List.mem_of_getElem? (i := 94) rfl, List.forall_mem_cons.mpr ⟨List.mem_of_getElem? (i := 95) rfl, List.forall_mem_cons.mpr ⟨List.mem_of_getElem? (i := 96) rfl, List.forall_mem_cons.mpr ⟨List.mem_of_getElem? (i := 22) rfl, fun _ h => absurd h List.not_mem_nil⟩⟩⟩⟩) (by decide +kernel)) ggX8_prepare_X8_markRecords
theorem dX8_prepare_0 : decode cX8_prepare 0 = .ok (.aload_n 0, 1) := by decide +kernel
theorem dX8_prepare_1 : decode cX8_prepare 1 = .ok (.getfield 9, 3) := by decide +kernel
theorem dX8_prepare_4 : decode cX8_prepare 4 = .ok (.arraylength, 1) := by decide +kernel
theorem dX8_prepare_5 : decode cX8_prepare 5 = .ok (.ifCond .le 4, 3) := by decide +kernel
theorem dX8_prepare_8 : decode cX8_prepare 8 = .ok (.return_, 1) := by decide +kernel
theorem dX8_prepare_9 : decode cX8_prepare 9 = .ok (.aload_n 0, 1) := by decide +kernel
theorem dX8_prepare_10 : decode cX8_prepare 10 = .ok (.sipush 5001, 3) := by decide +kernel
theorem dX8_prepare_13 : decode cX8_prepare 13 = .ok (.newarray .int, 2) := by decide +kernel
theorem dX8_prepare_15 : decode cX8_prepare 15 = .ok (.putfield 9, 3) := by decide +kernel
theorem dX8_prepare_18 : decode cX8_prepare 18 = .ok (.iconst 1, 1) := by decide +kernel
theorem dX8_prepare_19 : decode cX8_prepare 19 = .ok (.istore_n 1, 1) := by decide +kernel
theorem dX8_prepare_20 : decode cX8_prepare 20 = .ok (.iload_n 1, 1) := by decide +kernel
theorem dX8_prepare_21 : decode cX8_prepare 21 = .ok (.aload_n 0, 1) := by decide +kernel
theorem dX8_prepare_22 : decode cX8_prepare 22 = .ok (.getfield 9, 3) := by decide +kernel
theorem dX8_prepare_25 : decode cX8_prepare 25 = .ok (.arraylength, 1) := by decide +kernel
theorem dX8_prepare_26 : decode cX8_prepare 26 = .ok (.if_icmp .ge 35, 3) := by decide +kernel
theorem dX8_prepare_29 : decode cX8_prepare 29 = .ok (.aload_n 0, 1) := by decide +kernel
theorem dX8_prepare_30 : decode cX8_prepare 30 = .ok (.getfield 15, 3) := by decide +kernel
theorem dX8_prepare_33 : decode cX8_prepare 33 = .ok (.iload_n 1, 1) := by decide +kernel
theorem dX8_prepare_34 : decode cX8_prepare 34 = .ok (.i2l, 1) := by decide +kernel
theorem dX8_prepare_35 : decode cX8_prepare 35 = .ok (.invokevirtual 27, 3) := by decide +kernel
theorem dX8_prepare_38 : decode cX8_prepare 38 = .ok (.aload_n 0, 1) := by decide +kernel
theorem dX8_prepare_39 : decode cX8_prepare 39 = .ok (.getfield 9, 3) := by decide +kernel
theorem dX8_prepare_42 : decode cX8_prepare 42 = .ok (.iload_n 1, 1) := by decide +kernel
theorem dX8_prepare_43 : decode cX8_prepare 43 = .ok (.aload_n 0, 1) := by decide +kernel
theorem dX8_prepare_44 : decode cX8_prepare 44 = .ok (.iload_n 1, 1) := by decide +kernel
theorem dX8_prepare_45 : decode cX8_prepare 45 = .ok (.invokevirtual 33, 3) := by decide +kernel
theorem dX8_prepare_48 : decode cX8_prepare 48 = .ok (.aload_n 0, 1) := by decide +kernel
theorem dX8_prepare_49 : decode cX8_prepare 49 = .ok (.iload_n 1, 1) := by decide +kernel
theorem dX8_prepare_50 : decode cX8_prepare 50 = .ok (.invokevirtual 37, 3) := by decide +kernel
theorem dX8_prepare_53 : decode cX8_prepare 53 = .ok (.ior, 1) := by decide +kernel
theorem dX8_prepare_54 : decode cX8_prepare 54 = .ok (.iastore, 1) := by decide +kernel
theorem dX8_prepare_55 : decode cX8_prepare 55 = .ok (.iinc 1 1, 3) := by decide +kernel
theorem dX8_prepare_58 : decode cX8_prepare 58 = .ok (.goto (-38), 3) := by decide +kernel
theorem dX8_prepare_61 : decode cX8_prepare 61 = .ok (.aload_n 0, 1) := by decide +kernel
theorem dX8_prepare_62 : decode cX8_prepare 62 = .ok (.invokevirtual 40, 3) := by decide +kernel
theorem dX8_prepare_65 : decode cX8_prepare 65 = .ok (.return_, 1) := by decide +kernel
set_option maxRecDepth 20000 in
theorem ggX8_sortTraits_X7_summed : GoodIn wsX8_sortTraits wsX7_summed := goodIn_r _ [11, 12, 13, 92, 93, 94] rfl (by decide +kernel)
set_option maxRecDepth 20000 in
theorem gX8_sortTraits_X7_summed : GoodIn wsX8_sortTraits (wsV RX8 43 RX7 yX7_summed wsX7_summed) := goodIn_app (goodIn_sub (List.forall_mem_cons.mpr ⟨List.mem_of_getElem? (i := 7) rfl, List.forall_mem_cons.mpr ⟨List.mem_of_getElem? (i := 8) rfl, List.forall_mem_cons.mpr ⟨List.mem_of_getElem? (i := 9) rfl, List.forall_mem_cons.mpr ⟨List.mem_of_getElem? (i := 10) rfl, fun _ h => absurd h List.not_mem_nil⟩⟩⟩⟩) (by decide +kernel)) ggX8_sortTraits_X7_summed
set_option maxRecDepth 20000 in
theorem ggX8_sortTraits_X6_without : GoodIn wsX8_sortTraits wsX6_without := goodIn_r _ [18, 19, 20, 21, 22, 84, 85, 86, 87, 88, 89, 90, 91] rfl (by decide +kernel)
set_option maxRecDepth 20000 in
theorem gX8_sortTraits_X6_without : GoodIn wsX8_sortTraits (wsV RX8 54 RX6 yX6_without wsX6_without) := goodIn_app (goodIn_sub (List.forall_mem_cons.mpr ⟨List.mem_of_getElem? (i := 14) rfl, List.forall_mem_cons.mpr ⟨List.mem_of_getElem? (i := 15) rfl, List.forall_mem_cons.mpr ⟨List.mem_of_getElem? (i := 16) rfl, List.forall_mem_cons.mpr ⟨List.mem_of_getElem? (i := 17) rfl, fun _ h => absurd h List.not_mem_nil⟩⟩⟩⟩) (by decide +kernel)) ggX8_sortTraits_X6_without
set_option maxRecDepth 20000 in
theorem ggX8_sortTraits_X1_fewest : GoodIn wsX8_sortTraits wsX1_fewest := goodIn_r _ [27, 28, 29, 30, 31, 32, 33, 34, 35, 36, 37, 38, 17, 39, 22, 19, 40, 21, 41, 42, 43, 44, 20, 45, 46, 47, 48, 49, 50, 51, 52, 53, 54, 55, 56, 57, 58, 59, 60, 61, 62, 26, 63, 64, 65, 66, 67, 68, 69, 70, 71, 72, 73, 74, 75, 76, 77, 78, 79, 95, 96, 84, 85, 86, 87, 88, 89, 90, 91, 97, 98, 99] rfl (by decide +kernel)
set_option maxRecDepth 20000 in
theorem gX8_sortTraits_X1_fewest : GoodIn wsX8_sortTraits (wsV RX8 59 RX1 yX1_fewest wsX1_fewest) := goodIn_app (goodIn_sub (List.forall_mem_cons.mpr ⟨List.mem_of_getElem? (i := 23) rfl, List.forall_mem_cons.mpr ⟨List.mem_of_getElem? (i := 24) rfl, List.forall_mem_cons.mpr ⟨List.mem_of_getElem? (i := 25) rfl, List.forall_mem_cons.mpr ⟨List.mem_of_getElem? (i := 26) rfl, fun _ h => absurd h List.not_mem_nil⟩⟩⟩⟩) (by decide +kernel)) ggX8_sortTraits_X1_fewest
theorem dX8_sortTraits_0 : decode cX8_sortTraits 0 = .ok (.aload_n 0, 1) := by decide +kernel
theorem dX8_sortTraits_1 : decode cX8_sortTraits 1 = .ok (.getfield 19, 3) := by decide +kernel
theorem dX8_sortTraits_4 : decode cX8_sortTraits 4 = .ok (.iconst 1, 1) := by decide +kernel
theorem dX8_sortTraits_5 : decode cX8_sortTraits 5 = .ok (.iload_n 1, 1) := by decide +kernel
theorem dX8_sortTraits_6 : decode cX8_sortTraits 6 = .ok (.invokevirtual 43, 3) := by decide +kernel
theorem dX8_sortTraits_9 : decode cX8_sortTraits 9 = .ok (.istore_n 2, 1) := by decide +kernel
theorem dX8_sortTraits_10 : decode cX8_sortTraits 10 = .ok (.iload_n 2, 1) := by decide +kernel
theorem dX8_sortTraits_11 : decode cX8_sortTraits 11 = .ok (.iload_n 1, 1) := by decide +kernel
theorem dX8_sortTraits_12 : decode cX8_sortTraits 12 = .ok (.if_icmp .gt 16, 3) := by decide +kernel
theorem dX8_sortTraits_15 : decode cX8_sortTraits 15 = .ok (.iload_n 2, 1) := by decide +kernel
theorem dX8_sortTraits_16 : decode cX8_sortTraits 16 = .ok (.iload_n 1, 1) := by decide +kernel
theorem dX8_sortTraits_17 : decode cX8_sortTraits 17 = .ok (.if_icmp .ge 8, 3) := by decide +kernel
theorem dX8_sortTraits_20 : decode cX8_sortTraits 20 = .ok (.bipush 8, 2) := by decide +kernel
theorem dX8_sortTraits_22 : decode cX8_sortTraits 22 = .ok (.goto 5, 3) := by decide +kernel
theorem dX8_sortTraits_25 : decode cX8_sortTraits 25 = .ok (.ldc 49, 2) := by decide +kernel
theorem dX8_sortTraits_27 : decode cX8_sortTraits 27 = .ok (.ireturn, 1) := by decide +kernel
theorem dX8_sortTraits_28 : decode cX8_sortTraits 28 = .ok (.iconst 0, 1) := by decide +kernel
theorem dX8_sortTraits_29 : decode cX8_sortTraits 29 = .ok (.istore_n 3, 1) := by decide +kernel
theorem dX8_sortTraits_30 : decode cX8_sortTraits 30 = .ok (.iconst 0, 1) := by decide +kernel
theorem dX8_sortTraits_31 : decode cX8_sortTraits 31 = .ok (.istore 4, 2) := by decide +kernel
theorem dX8_sortTraits_33 : decode cX8_sortTraits 33 = .ok (.iload 4, 2) := by decide +kernel
theorem dX8_sortTraits_35 : decode cX8_sortTraits 35 = .ok (.aload_n 0, 1) := by decide +kernel
theorem dX8_sortTraits_36 : decode cX8_sortTraits 36 = .ok (.getfield 15, 3) := by decide +kernel
theorem dX8_sortTraits_39 : decode cX8_sortTraits 39 = .ok (.getfield 50, 3) := by decide +kernel
theorem dX8_sortTraits_42 : decode cX8_sortTraits 42 = .ok (.if_icmp .ge 47, 3) := by decide +kernel
theorem dX8_sortTraits_45 : decode cX8_sortTraits 45 = .ok (.aload_n 0, 1) := by decide +kernel
theorem dX8_sortTraits_46 : decode cX8_sortTraits 46 = .ok (.getfield 15, 3) := by decide +kernel
theorem dX8_sortTraits_49 : decode cX8_sortTraits 49 = .ok (.iload 4, 2) := by decide +kernel
theorem dX8_sortTraits_51 : decode cX8_sortTraits 51 = .ok (.invokevirtual 54, 3) := by decide +kernel
theorem dX8_sortTraits_54 : decode cX8_sortTraits 54 = .ok (.l2i, 1) := by decide +kernel
theorem dX8_sortTraits_55 : decode cX8_sortTraits 55 = .ok (.istore 5, 2) := by decide +kernel
theorem dX8_sortTraits_57 : decode cX8_sortTraits 57 = .ok (.iload 5, 2) := by decide +kernel
theorem dX8_sortTraits_59 : decode cX8_sortTraits 59 = .ok (.iconst 1, 1) := by decide +kernel
theorem dX8_sortTraits_60 : decode cX8_sortTraits 60 = .ok (.if_icmp .lt 23, 3) := by decide +kernel
theorem dX8_sortTraits_63 : decode cX8_sortTraits 63 = .ok (.iload 5, 2) := by decide +kernel
theorem dX8_sortTraits_65 : decode cX8_sortTraits 65 = .ok (.aload_n 0, 1) := by decide +kernel
theorem dX8_sortTraits_66 : decode cX8_sortTraits 66 = .ok (.getfield 9, 3) := by decide +kernel
theorem dX8_sortTraits_69 : decode cX8_sortTraits 69 = .ok (.arraylength, 1) := by decide +kernel
theorem dX8_sortTraits_70 : decode cX8_sortTraits 70 = .ok (.if_icmp .ge 13, 3) := by decide +kernel
theorem dX8_sortTraits_73 : decode cX8_sortTraits 73 = .ok (.iload_n 3, 1) := by decide +kernel
theorem dX8_sortTraits_74 : decode cX8_sortTraits 74 = .ok (.aload_n 0, 1) := by decide +kernel
theorem dX8_sortTraits_75 : decode cX8_sortTraits 75 = .ok (.getfield 9, 3) := by decide +kernel
theorem dX8_sortTraits_78 : decode cX8_sortTraits 78 = .ok (.iload 5, 2) := by decide +kernel
theorem dX8_sortTraits_80 : decode cX8_sortTraits 80 = .ok (.iaload, 1) := by decide +kernel
theorem dX8_sortTraits_81 : decode cX8_sortTraits 81 = .ok (.ior, 1) := by decide +kernel
theorem dX8_sortTraits_82 : decode cX8_sortTraits 82 = .ok (.istore_n 3, 1) := by decide +kernel
theorem dX8_sortTraits_83 : decode cX8_sortTraits 83 = .ok (.iinc 4 1, 3) := by decide +kernel
theorem dX8_sortTraits_86 : decode cX8_sortTraits 86 = .ok (.goto (-53), 3) := by decide +kernel
theorem dX8_sortTraits_89 : decode cX8_sortTraits 89 = .ok (.iload_n 3, 1) := by decide +kernel
theorem dX8_sortTraits_90 : decode cX8_sortTraits 90 = .ok (.iconst 1, 1) := by decide +kernel
theorem dX8_sortTraits_91 : decode cX8_sortTraits 91 = .ok (.iand, 1) := by decide +kernel
theorem dX8_sortTraits_92 : decode cX8_sortTraits 92 = .ok (.ifCond .ne 7, 3) := by decide +kernel
theorem dX8_sortTraits_95 : decode cX8_sortTraits 95 = .ok (.iconst 2, 1) := by decide +kernel
theorem dX8_sortTraits_96 : decode cX8_sortTraits 96 = .ok (.goto 4, 3) := by decide +kernel
theorem dX8_sortTraits_99 : decode cX8_sortTraits 99 = .ok (.iconst 0, 1) := by decide +kernel
theorem dX8_sortTraits_100 : decode cX8_sortTraits 100 = .ok (.istore 4, 2) := by decide +kernel
theorem dX8_sortTraits_102 : decode cX8_sortTraits 102 = .ok (.iload_n 3, 1) := by decide +kernel
theorem dX8_sortTraits_103 : decode cX8_sortTraits 103 = .ok (.ldc 58, 2) := by decide +kernel
theorem dX8_sortTraits_105 : decode cX8_sortTraits 105 = .ok (.iand, 1) := by decide +kernel
theorem dX8_sortTraits_106 : decode cX8_sortTraits 106 = .ok (.ifCond .ne 16, 3) := by decide +kernel
theorem dX8_sortTraits_109 : decode cX8_sortTraits 109 = .ok (.aload_n 0, 1) := by decide +kernel
theorem dX8_sortTraits_110 : decode cX8_sortTraits 110 = .ok (.getfield 23, 3) := by decide +kernel
theorem dX8_sortTraits_113 : decode cX8_sortTraits 113 = .ok (.iload_n 1, 1) := by decide +kernel
theorem dX8_sortTraits_114 : decode cX8_sortTraits 114 = .ok (.invokevirtual 59, 3) := by decide +kernel
theorem dX8_sortTraits_117 : decode cX8_sortTraits 117 = .ok (.bipush (-4), 2) := by decide +kernel
theorem dX8_sortTraits_119 : decode cX8_sortTraits 119 = .ok (.if_icmp .eq 7, 3) := by decide +kernel
theorem dX8_sortTraits_122 : decode cX8_sortTraits 122 = .ok (.iconst 1, 1) := by decide +kernel
theorem dX8_sortTraits_123 : decode cX8_sortTraits 123 = .ok (.goto 4, 3) := by decide +kernel
theorem dX8_sortTraits_126 : decode cX8_sortTraits 126 = .ok (.iconst 0, 1) := by decide +kernel
theorem dX8_sortTraits_127 : decode cX8_sortTraits 127 = .ok (.istore 5, 2) := by decide +kernel
theorem dX8_sortTraits_129 : decode cX8_sortTraits 129 = .ok (.iconst 1, 1) := by decide +kernel
theorem dX8_sortTraits_130 : decode cX8_sortTraits 130 = .ok (.iload 4, 2) := by decide +kernel
theorem dX8_sortTraits_132 : decode cX8_sortTraits 132 = .ok (.ior, 1) := by decide +kernel
theorem dX8_sortTraits_133 : decode cX8_sortTraits 133 = .ok (.iload 5, 2) := by decide +kernel
theorem dX8_sortTraits_135 : decode cX8_sortTraits 135 = .ok (.ifCond .eq 8, 3) := by decide +kernel
theorem dX8_sortTraits_138 : decode cX8_sortTraits 138 = .ok (.ldc 58, 2) := by decide +kernel
theorem dX8_sortTraits_140 : decode cX8_sortTraits 140 = .ok (.goto 5, 3) := by decide +kernel
theorem dX8_sortTraits_143 : decode cX8_sortTraits 143 = .ok (.bipush 16, 2) := by decide +kernel
theorem dX8_sortTraits_145 : decode cX8_sortTraits 145 = .ok (.ior, 1) := by decide +kernel
theorem dX8_sortTraits_146 : decode cX8_sortTraits 146 = .ok (.ireturn, 1) := by decide +kernel
set_option maxRecDepth 20000 in
theorem ggX8_primeTraits_X6_timesAt : GoodIn wsX8_primeTraits wsX6_timesAt := goodIn_r _ [6, 7, 8, 13, 14, 15, 16, 17, 18, 19, 20] rfl (by decide +kernel)
set_option maxRecDepth 20000 in
theorem gX8_primeTraits_X6_timesAt : GoodIn wsX8_primeTraits (wsV RX8 64 RX6 yX6_timesAt wsX6_timesAt) := goodIn_app (goodIn_sub (List.forall_mem_cons.mpr ⟨List.mem_of_getElem? (i := 2) rfl, List.forall_mem_cons.mpr ⟨List.mem_of_getElem? (i := 3) rfl, List.forall_mem_cons.mpr ⟨List.mem_of_getElem? (i := 4) rfl, List.forall_mem_cons.mpr ⟨List.mem_of_getElem? (i := 5) rfl, fun _ h => absurd h List.not_mem_nil⟩⟩⟩⟩) (by decide +kernel)) ggX8_primeTraits_X6_timesAt
theorem dX8_primeTraits_0 : decode cX8_primeTraits 0 = .ok (.iconst 1, 1) := by decide +kernel
theorem dX8_primeTraits_1 : decode cX8_primeTraits 1 = .ok (.istore_n 2, 1) := by decide +kernel
theorem dX8_primeTraits_2 : decode cX8_primeTraits 2 = .ok (.iconst 1, 1) := by decide +kernel
theorem dX8_primeTraits_3 : decode cX8_primeTraits 3 = .ok (.istore_n 3, 1) := by decide +kernel
theorem dX8_primeTraits_4 : decode cX8_primeTraits 4 = .ok (.iconst 0, 1) := by decide +kernel
theorem dX8_primeTraits_5 : decode cX8_primeTraits 5 = .ok (.istore 4, 2) := by decide +kernel
theorem dX8_primeTraits_7 : decode cX8_primeTraits 7 = .ok (.iload 4, 2) := by decide +kernel
theorem dX8_primeTraits_9 : decode cX8_primeTraits 9 = .ok (.aload_n 0, 1) := by decide +kernel
theorem dX8_primeTraits_10 : decode cX8_primeTraits 10 = .ok (.getfield 15, 3) := by decide +kernel
theorem dX8_primeTraits_13 : decode cX8_primeTraits 13 = .ok (.getfield 50, 3) := by decide +kernel
theorem dX8_primeTraits_16 : decode cX8_primeTraits 16 = .ok (.if_icmp .ge 53, 3) := by decide +kernel
theorem dX8_primeTraits_19 : decode cX8_primeTraits 19 = .ok (.aload_n 0, 1) := by decide +kernel
theorem dX8_primeTraits_20 : decode cX8_primeTraits 20 = .ok (.getfield 15, 3) := by decide +kernel
theorem dX8_primeTraits_23 : decode cX8_primeTraits 23 = .ok (.iload 4, 2) := by decide +kernel
theorem dX8_primeTraits_25 : decode cX8_primeTraits 25 = .ok (.invokevirtual 64, 3) := by decide +kernel
theorem dX8_primeTraits_28 : decode cX8_primeTraits 28 = .ok (.istore 5, 2) := by decide +kernel
theorem dX8_primeTraits_30 : decode cX8_primeTraits 30 = .ok (.iload_n 2, 1) := by decide +kernel
theorem dX8_primeTraits_31 : decode cX8_primeTraits 31 = .ok (.ifCond .eq 14, 3) := by decide +kernel
theorem dX8_primeTraits_34 : decode cX8_primeTraits 34 = .ok (.iload 5, 2) := by decide +kernel
theorem dX8_primeTraits_36 : decode cX8_primeTraits 36 = .ok (.iconst 2, 1) := by decide +kernel
theorem dX8_primeTraits_37 : decode cX8_primeTraits 37 = .ok (.irem, 1) := by decide +kernel
theorem dX8_primeTraits_38 : decode cX8_primeTraits 38 = .ok (.ifCond .ne 7, 3) := by decide +kernel
theorem dX8_primeTraits_41 : decode cX8_primeTraits 41 = .ok (.iconst 1, 1) := by decide +kernel
theorem dX8_primeTraits_42 : decode cX8_primeTraits 42 = .ok (.goto 4, 3) := by decide +kernel
theorem dX8_primeTraits_45 : decode cX8_primeTraits 45 = .ok (.iconst 0, 1) := by decide +kernel
theorem dX8_primeTraits_46 : decode cX8_primeTraits 46 = .ok (.istore_n 2, 1) := by decide +kernel
theorem dX8_primeTraits_47 : decode cX8_primeTraits 47 = .ok (.iload_n 3, 1) := by decide +kernel
theorem dX8_primeTraits_48 : decode cX8_primeTraits 48 = .ok (.ifCond .eq 13, 3) := by decide +kernel
theorem dX8_primeTraits_51 : decode cX8_primeTraits 51 = .ok (.iload 5, 2) := by decide +kernel
theorem dX8_primeTraits_53 : decode cX8_primeTraits 53 = .ok (.iconst 1, 1) := by decide +kernel
theorem dX8_primeTraits_54 : decode cX8_primeTraits 54 = .ok (.if_icmp .ne 7, 3) := by decide +kernel
theorem dX8_primeTraits_57 : decode cX8_primeTraits 57 = .ok (.iconst 1, 1) := by decide +kernel
theorem dX8_primeTraits_58 : decode cX8_primeTraits 58 = .ok (.goto 4, 3) := by decide +kernel
theorem dX8_primeTraits_61 : decode cX8_primeTraits 61 = .ok (.iconst 0, 1) := by decide +kernel
theorem dX8_primeTraits_62 : decode cX8_primeTraits 62 = .ok (.istore_n 3, 1) := by decide +kernel
theorem dX8_primeTraits_63 : decode cX8_primeTraits 63 = .ok (.iinc 4 1, 3) := by decide +kernel
theorem dX8_primeTraits_66 : decode cX8_primeTraits 66 = .ok (.goto (-59), 3) := by decide +kernel
theorem dX8_primeTraits_69 : decode cX8_primeTraits 69 = .ok (.aload_n 0, 1) := by decide +kernel
theorem dX8_primeTraits_70 : decode cX8_primeTraits 70 = .ok (.getfield 15, 3) := by decide +kernel
theorem dX8_primeTraits_73 : decode cX8_primeTraits 73 = .ok (.getfield 50, 3) := by decide +kernel
theorem dX8_primeTraits_76 : decode cX8_primeTraits 76 = .ok (.ifCond .le 18, 3) := by decide +kernel
theorem dX8_primeTraits_79 : decode cX8_primeTraits 79 = .ok (.iconst 1, 1) := by decide +kernel
theorem dX8_primeTraits_80 : decode cX8_primeTraits 80 = .ok (.bipush 9, 2) := by decide +kernel
theorem dX8_primeTraits_82 : decode cX8_primeTraits 82 = .ok (.aload_n 0, 1) := by decide +kernel
theorem dX8_primeTraits_83 : decode cX8_primeTraits 83 = .ok (.getfield 15, 3) := by decide +kernel
theorem dX8_primeTraits_86 : decode cX8_primeTraits 86 = .ok (.getfield 50, 3) := by decide +kernel
theorem dX8_primeTraits_89 : decode cX8_primeTraits 89 = .ok (.iadd, 1) := by decide +kernel
theorem dX8_primeTraits_90 : decode cX8_primeTraits 90 = .ok (.ishl, 1) := by decide +kernel
theorem dX8_primeTraits_91 : decode cX8_primeTraits 91 = .ok (.goto 4, 3) := by decide +kernel
theorem dX8_primeTraits_94 : decode cX8_primeTraits 94 = .ok (.iconst 0, 1) := by decide +kernel
theorem dX8_primeTraits_95 : decode cX8_primeTraits 95 = .ok (.istore 4, 2) := by decide +kernel
theorem dX8_primeTraits_97 : decode cX8_primeTraits 97 = .ok (.iload_n 1, 1) := by decide +kernel
theorem dX8_primeTraits_98 : decode cX8_primeTraits 98 = .ok (.iconst 2, 1) := by decide +kernel
theorem dX8_primeTraits_99 : decode cX8_primeTraits 99 = .ok (.irem, 1) := by decide +kernel
theorem dX8_primeTraits_100 : decode cX8_primeTraits 100 = .ok (.ifCond .ne 8, 3) := by decide +kernel
theorem dX8_primeTraits_103 : decode cX8_primeTraits 103 = .ok (.bipush 32, 2) := by decide +kernel
theorem dX8_primeTraits_105 : decode cX8_primeTraits 105 = .ok (.goto 4, 3) := by decide +kernel
theorem dX8_primeTraits_108 : decode cX8_primeTraits 108 = .ok (.iconst 0, 1) := by decide +kernel
theorem dX8_primeTraits_109 : decode cX8_primeTraits 109 = .ok (.iload_n 2, 1) := by decide +kernel
theorem dX8_primeTraits_110 : decode cX8_primeTraits 110 = .ok (.ifCond .eq 8, 3) := by decide +kernel
theorem dX8_primeTraits_113 : decode cX8_primeTraits 113 = .ok (.bipush 64, 2) := by decide +kernel
theorem dX8_primeTraits_115 : decode cX8_primeTraits 115 = .ok (.goto 4, 3) := by decide +kernel
theorem dX8_primeTraits_118 : decode cX8_primeTraits 118 = .ok (.iconst 0, 1) := by decide +kernel
theorem dX8_primeTraits_119 : decode cX8_primeTraits 119 = .ok (.ior, 1) := by decide +kernel
theorem dX8_primeTraits_120 : decode cX8_primeTraits 120 = .ok (.iload_n 3, 1) := by decide +kernel
theorem dX8_primeTraits_121 : decode cX8_primeTraits 121 = .ok (.ifCond .eq 9, 3) := by decide +kernel
theorem dX8_primeTraits_124 : decode cX8_primeTraits 124 = .ok (.sipush 128, 3) := by decide +kernel
theorem dX8_primeTraits_127 : decode cX8_primeTraits 127 = .ok (.goto 4, 3) := by decide +kernel
theorem dX8_primeTraits_130 : decode cX8_primeTraits 130 = .ok (.iconst 0, 1) := by decide +kernel
theorem dX8_primeTraits_131 : decode cX8_primeTraits 131 = .ok (.ior, 1) := by decide +kernel
theorem dX8_primeTraits_132 : decode cX8_primeTraits 132 = .ok (.iload 4, 2) := by decide +kernel
theorem dX8_primeTraits_134 : decode cX8_primeTraits 134 = .ok (.ior, 1) := by decide +kernel
theorem dX8_primeTraits_135 : decode cX8_primeTraits 135 = .ok (.ireturn, 1) := by decide +kernel
set_option maxRecDepth 20000 in
theorem ggX8_markRecords_X7_summed : GoodIn wsX8_markRecords wsX7_summed := goodIn_r _ [7, 8, 9, 14, 15, 16] rfl (by decide +kernel)
set_option maxRecDepth 20000 in
theorem gX8_markRecords_X7_summed : GoodIn wsX8_markRecords (wsV RX8 43 RX7 yX7_summed wsX7_summed) := goodIn_app (goodIn_sub (List.forall_mem_cons.mpr ⟨List.mem_of_getElem? (i := 3) rfl, List.forall_mem_cons.mpr ⟨List.mem_of_getElem? (i := 4) rfl, List.forall_mem_cons.mpr ⟨List.mem_of_getElem? (i := 5) rfl, List.forall_mem_cons.mpr ⟨List.mem_of_getElem? (i := 6) rfl, fun _ h => absurd h List.not_mem_nil⟩⟩⟩⟩) (by decide +kernel)) ggX8_markRecords_X7_summed
theorem dX8_markRecords_0 : decode cX8_markRecords 0 = .ok (.lconst 0, 1) := by decide +kernel
theorem dX8_markRecords_1 : decode cX8_markRecords 1 = .ok (.lstore_n 1, 1) := by decide +kernel
theorem dX8_markRecords_2 : decode cX8_markRecords 2 = .ok (.lconst 0, 1) := by decide +kernel
theorem dX8_markRecords_3 : decode cX8_markRecords 3 = .ok (.lstore_n 3, 1) := by decide +kernel
theorem dX8_markRecords_4 : decode cX8_markRecords 4 = .ok (.lconst 1, 1) := by decide +kernel
theorem dX8_markRecords_5 : decode cX8_markRecords 5 = .ok (.lstore 5, 2) := by decide +kernel
theorem dX8_markRecords_7 : decode cX8_markRecords 7 = .ok (.iconst 1, 1) := by decide +kernel
theorem dX8_markRecords_8 : decode cX8_markRecords 8 = .ok (.istore 7, 2) := by decide +kernel
theorem dX8_markRecords_10 : decode cX8_markRecords 10 = .ok (.iload 7, 2) := by decide +kernel
theorem dX8_markRecords_12 : decode cX8_markRecords 12 = .ok (.aload_n 0, 1) := by decide +kernel
theorem dX8_markRecords_13 : decode cX8_markRecords 13 = .ok (.getfield 9, 3) := by decide +kernel
theorem dX8_markRecords_16 : decode cX8_markRecords 16 = .ok (.arraylength, 1) := by decide +kernel
theorem dX8_markRecords_17 : decode cX8_markRecords 17 = .ok (.if_icmp .ge 80, 3) := by decide +kernel
theorem dX8_markRecords_20 : decode cX8_markRecords 20 = .ok (.aload_n 0, 1) := by decide +kernel
theorem dX8_markRecords_21 : decode cX8_markRecords 21 = .ok (.getfield 19, 3) := by decide +kernel
theorem dX8_markRecords_24 : decode cX8_markRecords 24 = .ok (.iconst 0, 1) := by decide +kernel
theorem dX8_markRecords_25 : decode cX8_markRecords 25 = .ok (.iload 7, 2) := by decide +kernel
theorem dX8_markRecords_27 : decode cX8_markRecords 27 = .ok (.invokevirtual 43, 3) := by decide +kernel
theorem dX8_markRecords_30 : decode cX8_markRecords 30 = .ok (.i2l, 1) := by decide +kernel
theorem dX8_markRecords_31 : decode cX8_markRecords 31 = .ok (.lstore 8, 2) := by decide +kernel
theorem dX8_markRecords_33 : decode cX8_markRecords 33 = .ok (.lload 8, 2) := by decide +kernel
theorem dX8_markRecords_35 : decode cX8_markRecords 35 = .ok (.lload_n 1, 1) := by decide +kernel
theorem dX8_markRecords_36 : decode cX8_markRecords 36 = .ok (.lcmp, 1) := by decide +kernel
theorem dX8_markRecords_37 : decode cX8_markRecords 37 = .ok (.ifCond .le 19, 3) := by decide +kernel
theorem dX8_markRecords_40 : decode cX8_markRecords 40 = .ok (.lload 8, 2) := by decide +kernel
theorem dX8_markRecords_42 : decode cX8_markRecords 42 = .ok (.lstore_n 1, 1) := by decide +kernel
theorem dX8_markRecords_43 : decode cX8_markRecords 43 = .ok (.aload_n 0, 1) := by decide +kernel
theorem dX8_markRecords_44 : decode cX8_markRecords 44 = .ok (.getfield 9, 3) := by decide +kernel
theorem dX8_markRecords_47 : decode cX8_markRecords 47 = .ok (.iload 7, 2) := by decide +kernel
theorem dX8_markRecords_49 : decode cX8_markRecords 49 = .ok (.dup2, 1) := by decide +kernel
theorem dX8_markRecords_50 : decode cX8_markRecords 50 = .ok (.iaload, 1) := by decide +kernel
theorem dX8_markRecords_51 : decode cX8_markRecords 51 = .ok (.sipush 256, 3) := by decide +kernel
theorem dX8_markRecords_54 : decode cX8_markRecords 54 = .ok (.ior, 1) := by decide +kernel
theorem dX8_markRecords_55 : decode cX8_markRecords 55 = .ok (.iastore, 1) := by decide +kernel
theorem dX8_markRecords_56 : decode cX8_markRecords 56 = .ok (.lload 8, 2) := by decide +kernel
theorem dX8_markRecords_58 : decode cX8_markRecords 58 = .ok (.lload 5, 2) := by decide +kernel
theorem dX8_markRecords_60 : decode cX8_markRecords 60 = .ok (.lmul, 1) := by decide +kernel
theorem dX8_markRecords_61 : decode cX8_markRecords 61 = .ok (.lload_n 3, 1) := by decide +kernel
theorem dX8_markRecords_62 : decode cX8_markRecords 62 = .ok (.iload 7, 2) := by decide +kernel
theorem dX8_markRecords_64 : decode cX8_markRecords 64 = .ok (.i2l, 1) := by decide +kernel
theorem dX8_markRecords_65 : decode cX8_markRecords 65 = .ok (.lmul, 1) := by decide +kernel
theorem dX8_markRecords_66 : decode cX8_markRecords 66 = .ok (.lcmp, 1) := by decide +kernel
theorem dX8_markRecords_67 : decode cX8_markRecords 67 = .ok (.ifCond .le 24, 3) := by decide +kernel
theorem dX8_markRecords_70 : decode cX8_markRecords 70 = .ok (.lload 8, 2) := by decide +kernel
theorem dX8_markRecords_72 : decode cX8_markRecords 72 = .ok (.lstore_n 3, 1) := by decide +kernel
theorem dX8_markRecords_73 : decode cX8_markRecords 73 = .ok (.iload 7, 2) := by decide +kernel
theorem dX8_markRecords_75 : decode cX8_markRecords 75 = .ok (.i2l, 1) := by decide +kernel
theorem dX8_markRecords_76 : decode cX8_markRecords 76 = .ok (.lstore 5, 2) := by decide +kernel
theorem dX8_markRecords_78 : decode cX8_markRecords 78 = .ok (.aload_n 0, 1) := by decide +kernel
theorem dX8_markRecords_79 : decode cX8_markRecords 79 = .ok (.getfield 9, 3) := by decide +kernel
theorem dX8_markRecords_82 : decode cX8_markRecords 82 = .ok (.iload 7, 2) := by decide +kernel
theorem dX8_markRecords_84 : decode cX8_markRecords 84 = .ok (.dup2, 1) := by decide +kernel
theorem dX8_markRecords_85 : decode cX8_markRecords 85 = .ok (.iaload, 1) := by decide +kernel
theorem dX8_markRecords_86 : decode cX8_markRecords 86 = .ok (.sipush 512, 3) := by decide +kernel
theorem dX8_markRecords_89 : decode cX8_markRecords 89 = .ok (.ior, 1) := by decide +kernel
theorem dX8_markRecords_90 : decode cX8_markRecords 90 = .ok (.iastore, 1) := by decide +kernel
theorem dX8_markRecords_91 : decode cX8_markRecords 91 = .ok (.iinc 7 1, 3) := by decide +kernel
theorem dX8_markRecords_94 : decode cX8_markRecords 94 = .ok (.goto (-84), 3) := by decide +kernel
theorem dX8_markRecords_97 : decode cX8_markRecords 97 = .ok (.return_, 1) := by decide +kernel
theorem dX9_init_0 : decode cX9_init 0 = .ok (.aload_n 0, 1) := by decide +kernel
theorem dX9_init_1 : decode cX9_init 1 = .ok (.invokespecial 3, 3) := by decide +kernel
theorem dX9_init_4 : decode cX9_init 4 = .ok (.aload_n 0, 1) := by decide +kernel
theorem dX9_init_5 : decode cX9_init 5 = .ok (.sipush 400, 3) := by decide +kernel
theorem dX9_init_8 : decode cX9_init 8 = .ok (.newarray .long, 2) := by decide +kernel
theorem dX9_init_10 : decode cX9_init 10 = .ok (.putfield 11, 3) := by decide +kernel
theorem dX9_init_13 : decode cX9_init 13 = .ok (.aload_n 0, 1) := by decide +kernel
theorem dX9_init_14 : decode cX9_init 14 = .ok (.sipush 400, 3) := by decide +kernel
theorem dX9_init_17 : decode cX9_init 17 = .ok (.newarray .long, 2) := by decide +kernel
theorem dX9_init_19 : decode cX9_init 19 = .ok (.putfield 15, 3) := by decide +kernel
theorem dX9_init_22 : decode cX9_init 22 = .ok (.aload_n 0, 1) := by decide +kernel
theorem dX9_init_23 : decode cX9_init 23 = .ok (.sipush 400, 3) := by decide +kernel
theorem dX9_init_26 : decode cX9_init 26 = .ok (.newarray .long, 2) := by decide +kernel
theorem dX9_init_28 : decode cX9_init 28 = .ok (.putfield 18, 3) := by decide +kernel
theorem dX9_init_31 : decode cX9_init 31 = .ok (.aload_n 0, 1) := by decide +kernel
theorem dX9_init_32 : decode cX9_init 32 = .ok (.iconst 0, 1) := by decide +kernel
theorem dX9_init_33 : decode cX9_init 33 = .ok (.putfield 21, 3) := by decide +kernel
theorem dX9_init_36 : decode cX9_init 36 = .ok (.aload_n 0, 1) := by decide +kernel
theorem dX9_init_37 : decode cX9_init 37 = .ok (.sipush 640, 3) := by decide +kernel
theorem dX9_init_40 : decode cX9_init 40 = .ok (.newarray .long, 2) := by decide +kernel
theorem dX9_init_42 : decode cX9_init 42 = .ok (.putfield 25, 3) := by decide +kernel
theorem dX9_init_45 : decode cX9_init 45 = .ok (.aload_n 0, 1) := by decide +kernel
theorem dX9_init_46 : decode cX9_init 46 = .ok (.iconst 0, 1) := by decide +kernel
theorem dX9_init_47 : decode cX9_init 47 = .ok (.putfield 28, 3) := by decide +kernel
theorem dX9_init_50 : decode cX9_init 50 = .ok (.aload_n 0, 1) := by decide +kernel
theorem dX9_init_51 : decode cX9_init 51 = .ok (.lconst 0, 1) := by decide +kernel
theorem dX9_init_52 : decode cX9_init 52 = .ok (.putfield 31, 3) := by decide +kernel
theorem dX9_init_55 : decode cX9_init 55 = .ok (.aload_n 0, 1) := by decide +kernel
theorem dX9_init_56 : decode cX9_init 56 = .ok (.aload_n 1, 1) := by decide +kernel
theorem dX9_init_57 : decode cX9_init 57 = .ok (.putfield 35, 3) := by decide +kernel
theorem dX9_init_60 : decode cX9_init 60 = .ok (.aload_n 0, 1) := by decide +kernel
theorem dX9_init_61 : decode cX9_init 61 = .ok (.aload_n 2, 1) := by decide +kernel
theorem dX9_init_62 : decode cX9_init 62 = .ok (.putfield 39, 3) := by decide +kernel
theorem dX9_init_65 : decode cX9_init 65 = .ok (.return_, 1) := by decide +kernel
set_option maxRecDepth 20000 in
theorem ggX9_seek_X9_keepPrimes : GoodIn wsX9_seek wsX9_keepPrimes := goodIn_r _ [9, 10, 11, 12, 13, 14, 15, 16, 17, 18, 19, 20, 21, 22, 23, 24, 25, 26, 27, 28, 29, 30, 31, 32, 33, 34, 35, 36, 37, 38, 39, 40, 41, 42, 43, 44, 45, 46, 47, 48, 49, 50, 51, 8, 52, 53, 54, 55, 56, 57, 58, 2, 59, 60, 61, 74, 75, 76, 77, 78, 79, 80, 81, 82, 83, 84, 85, 86, 87, 88, 89, 90, 91, 92] rfl (by decide +kernel)
set_option maxRecDepth 20000 in
theorem gX9_seek_X9_keepPrimes : GoodIn wsX9_seek (wsV RX9 43 RX9 yX9_keepPrimes wsX9_keepPrimes) := goodIn_app (goodIn_sub (List.forall_mem_cons.mpr ⟨List.mem_of_getElem? (i := 5) rfl, List.forall_mem_cons.mpr ⟨List.mem_of_getElem? (i := 6) rfl, List.forall_mem_cons.mpr ⟨List.mem_of_getElem? (i := 7) rfl, List.forall_mem_cons.mpr ⟨List.mem_of_getElem? (i := 8) rfl, fun _ h => absurd h List.not_mem_nil⟩⟩⟩⟩) (by decide +kernel)) ggX9_seek_X9_keepPrimes
set_option maxRecDepth 20000 in
theorem ggX9_seek_X9_keepPowers : GoodIn wsX9_seek wsX9_keepPowers := goodIn_r _ [65, 53, 54, 55, 56, 57, 8, 58, 2, 59, 60, 61, 74, 75, 76, 77, 78, 79, 80, 81, 82, 91, 92] rfl (by decide +kernel)
set_option maxRecDepth 20000 in
theorem gX9_seek_X9_keepPowers : GoodIn wsX9_seek (wsV RX9 47 RX9 yX9_keepPowers wsX9_keepPowers) := goodIn_app (goodIn_sub (List.forall_mem_cons.mpr ⟨List.mem_of_getElem? (i := 62) rfl, List.forall_mem_cons.mpr ⟨List.mem_of_getElem? (i := 63) rfl, List.forall_mem_cons.mpr ⟨List.mem_of_getElem? (i := 64) rfl, List.forall_mem_cons.mpr ⟨List.mem_of_getElem? (i := 8) rfl, fun _ h => absurd h List.not_mem_nil⟩⟩⟩⟩) (by decide +kernel)) ggX9_seek_X9_keepPowers
set_option maxRecDepth 20000 in
theorem ggX9_seek_X9_keepFound : GoodIn wsX9_seek wsX9_keepFound := goodIn_r _ [69, 3, 4, 74, 75, 76, 77, 78, 79, 80, 81, 82] rfl (by decide +kernel)
set_option maxRecDepth 20000 in
theorem gX9_seek_X9_keepFound : GoodIn wsX9_seek (wsV RX9 50 RX9 yX9_keepFound wsX9_keepFound) := goodIn_app (goodIn_sub (List.forall_mem_cons.mpr ⟨List.mem_of_getElem? (i := 66) rfl, List.forall_mem_cons.mpr ⟨List.mem_of_getElem? (i := 67) rfl, List.forall_mem_cons.mpr ⟨List.mem_of_getElem? (i := 68) rfl, List.forall_mem_cons.mpr ⟨List.mem_of_getElem? (i := 8) rfl, fun _ h => absurd h List.not_mem_nil⟩⟩⟩⟩) (by decide +kernel)) ggX9_seek_X9_keepFound
set_option maxRecDepth 20000 in
theorem ggX9_seek_X9_join : GoodIn wsX9_seek wsX9_join := goodIn_r _ [73, 2, 59, 54, 60, 61, 66, 67, 68, 8, 69, 3, 4, 70, 71, 72, 74, 75, 76, 77, 78, 79, 80, 81, 82] rfl (by decide +kernel)
set_option maxRecDepth 20000 in
theorem gX9_seek_X9_join : GoodIn wsX9_seek (wsV RX9 53 RX9 yX9_join wsX9_join) := goodIn_app (goodIn_sub (List.forall_mem_cons.mpr ⟨List.mem_of_getElem? (i := 70) rfl, List.forall_mem_cons.mpr ⟨List.mem_of_getElem? (i := 71) rfl, List.forall_mem_cons.mpr ⟨List.mem_of_getElem? (i := 72) rfl, List.forall_mem_cons.mpr ⟨List.mem_of_getElem? (i := 8) rfl, fun _ h => absurd h List.not_mem_nil⟩⟩⟩⟩) (by decide +kernel)) ggX9_seek_X9_join
set_option maxRecDepth 20000 in
theorem ggX9_seek_X11_putInOrder : GoodIn wsX9_seek wsX11_putInOrder := goodIn_r _ [48] rfl (by decide +kernel)
set_option maxRecDepth 20000 in
theorem gX9_seek_X11_putInOrder_n57 : GoodIn wsX9_seek (wsX11_putInOrder) := ggX9_seek_X11_putInOrder
theorem dX9_seek_0 : decode cX9_seek 0 = .ok (.lload_n 1, 1) := by decide +kernel
theorem dX9_seek_1 : decode cX9_seek 1 = .ok (.aload_n 0, 1) := by decide +kernel
theorem dX9_seek_2 : decode cX9_seek 2 = .ok (.getfield 31, 3) := by decide +kernel
theorem dX9_seek_5 : decode cX9_seek 5 = .ok (.lcmp, 1) := by decide +kernel
theorem dX9_seek_6 : decode cX9_seek 6 = .ok (.ifCond .ne 4, 3) := by decide +kernel
theorem dX9_seek_9 : decode cX9_seek 9 = .ok (.return_, 1) := by decide +kernel
theorem dX9_seek_10 : decode cX9_seek 10 = .ok (.aload_n 0, 1) := by decide +kernel
theorem dX9_seek_11 : decode cX9_seek 11 = .ok (.lload_n 1, 1) := by decide +kernel
theorem dX9_seek_12 : decode cX9_seek 12 = .ok (.putfield 31, 3) := by decide +kernel
theorem dX9_seek_15 : decode cX9_seek 15 = .ok (.aload_n 0, 1) := by decide +kernel
theorem dX9_seek_16 : decode cX9_seek 16 = .ok (.iconst 0, 1) := by decide +kernel
theorem dX9_seek_17 : decode cX9_seek 17 = .ok (.putfield 21, 3) := by decide +kernel
theorem dX9_seek_20 : decode cX9_seek 20 = .ok (.aload_n 0, 1) := by decide +kernel
theorem dX9_seek_21 : decode cX9_seek 21 = .ok (.iconst 0, 1) := by decide +kernel
theorem dX9_seek_22 : decode cX9_seek 22 = .ok (.putfield 28, 3) := by decide +kernel
theorem dX9_seek_25 : decode cX9_seek 25 = .ok (.aload_n 0, 1) := by decide +kernel
theorem dX9_seek_26 : decode cX9_seek 26 = .ok (.lload_n 1, 1) := by decide +kernel
theorem dX9_seek_27 : decode cX9_seek 27 = .ok (.invokevirtual 43, 3) := by decide +kernel
theorem dX9_seek_30 : decode cX9_seek 30 = .ok (.aload_n 0, 1) := by decide +kernel
theorem dX9_seek_31 : decode cX9_seek 31 = .ok (.lload_n 1, 1) := by decide +kernel
theorem dX9_seek_32 : decode cX9_seek 32 = .ok (.invokevirtual 47, 3) := by decide +kernel
theorem dX9_seek_35 : decode cX9_seek 35 = .ok (.lload_n 1, 1) := by decide +kernel
theorem dX9_seek_36 : decode cX9_seek 36 = .ok (.lconst 1, 1) := by decide +kernel
theorem dX9_seek_37 : decode cX9_seek 37 = .ok (.lcmp, 1) := by decide +kernel
theorem dX9_seek_38 : decode cX9_seek 38 = .ok (.ifCond .ne 8, 3) := by decide +kernel
theorem dX9_seek_41 : decode cX9_seek 41 = .ok (.aload_n 0, 1) := by decide +kernel
theorem dX9_seek_42 : decode cX9_seek 42 = .ok (.lconst 1, 1) := by decide +kernel
theorem dX9_seek_43 : decode cX9_seek 43 = .ok (.invokevirtual 50, 3) := by decide +kernel
theorem dX9_seek_46 : decode cX9_seek 46 = .ok (.aload_n 0, 1) := by decide +kernel
theorem dX9_seek_47 : decode cX9_seek 47 = .ok (.lload_n 1, 1) := by decide +kernel
theorem dX9_seek_48 : decode cX9_seek 48 = .ok (.lconst 1, 1) := by decide +kernel
theorem dX9_seek_49 : decode cX9_seek 49 = .ok (.iconst 0, 1) := by decide +kernel
theorem dX9_seek_50 : decode cX9_seek 50 = .ok (.iconst 0, 1) := by decide +kernel
theorem dX9_seek_51 : decode cX9_seek 51 = .ok (.invokevirtual 53, 3) := by decide +kernel
theorem dX9_seek_54 : decode cX9_seek 54 = .ok (.aload_n 0, 1) := by decide +kernel
theorem dX9_seek_55 : decode cX9_seek 55 = .ok (.getfield 25, 3) := by decide +kernel
theorem dX9_seek_58 : decode cX9_seek 58 = .ok (.aload_n 0, 1) := by decide +kernel
theorem dX9_seek_59 : decode cX9_seek 59 = .ok (.getfield 28, 3) := by decide +kernel
theorem dX9_seek_62 : decode cX9_seek 62 = .ok (.invokestatic 57, 3) := by decide +kernel
theorem dX9_seek_65 : decode cX9_seek 65 = .ok (.return_, 1) := by decide +kernel
theorem dX9_howMany_0 : decode cX9_howMany 0 = .ok (.aload_n 0, 1) := by decide +kernel
theorem dX9_howMany_1 : decode cX9_howMany 1 = .ok (.getfield 28, 3) := by decide +kernel
theorem dX9_howMany_4 : decode cX9_howMany 4 = .ok (.ireturn, 1) := by decide +kernel
theorem dX9_numberAt_0 : decode cX9_numberAt 0 = .ok (.iload_n 1, 1) := by decide +kernel
theorem dX9_numberAt_1 : decode cX9_numberAt 1 = .ok (.ifCond .lt 28, 3) := by decide +kernel
theorem dX9_numberAt_4 : decode cX9_numberAt 4 = .ok (.iload_n 1, 1) := by decide +kernel
theorem dX9_numberAt_5 : decode cX9_numberAt 5 = .ok (.aload_n 0, 1) := by decide +kernel
theorem dX9_numberAt_6 : decode cX9_numberAt 6 = .ok (.getfield 28, 3) := by decide +kernel
theorem dX9_numberAt_9 : decode cX9_numberAt 9 = .ok (.if_icmp .ge 20, 3) := by decide +kernel
theorem dX9_numberAt_12 : decode cX9_numberAt 12 = .ok (.iload_n 1, 1) := by decide +kernel
theorem dX9_numberAt_13 : decode cX9_numberAt 13 = .ok (.sipush 640, 3) := by decide +kernel
theorem dX9_numberAt_16 : decode cX9_numberAt 16 = .ok (.if_icmp .ge 13, 3) := by decide +kernel
theorem dX9_numberAt_19 : decode cX9_numberAt 19 = .ok (.aload_n 0, 1) := by decide +kernel
theorem dX9_numberAt_20 : decode cX9_numberAt 20 = .ok (.getfield 25, 3) := by decide +kernel
theorem dX9_numberAt_23 : decode cX9_numberAt 23 = .ok (.iload_n 1, 1) := by decide +kernel
theorem dX9_numberAt_24 : decode cX9_numberAt 24 = .ok (.laload, 1) := by decide +kernel
theorem dX9_numberAt_25 : decode cX9_numberAt 25 = .ok (.l2i, 1) := by decide +kernel
theorem dX9_numberAt_26 : decode cX9_numberAt 26 = .ok (.goto 5, 3) := by decide +kernel
theorem dX9_numberAt_29 : decode cX9_numberAt 29 = .ok (.bipush (-4), 2) := by decide +kernel
theorem dX9_numberAt_31 : decode cX9_numberAt 31 = .ok (.ireturn, 1) := by decide +kernel
set_option maxRecDepth 20000 in
theorem ggX9_keepPrimes_X6_splitUp : GoodIn wsX9_keepPrimes wsX6_splitUp := goodIn_r _ [6, 7, 8, 9, 10, 11, 12, 13, 5, 14, 15, 16, 64, 65, 66, 67, 68, 69, 70, 71, 72, 73] rfl (by decide +kernel)
set_option maxRecDepth 20000 in
theorem gX9_keepPrimes_X6_splitUp : GoodIn wsX9_keepPrimes (wsV RX9 61 RX6 yX6_splitUp wsX6_splitUp) := goodIn_app (goodIn_sub (List.forall_mem_cons.mpr ⟨List.mem_of_getElem? (i := 2) rfl, List.forall_mem_cons.mpr ⟨List.mem_of_getElem? (i := 3) rfl, List.forall_mem_cons.mpr ⟨List.mem_of_getElem? (i := 4) rfl, List.forall_mem_cons.mpr ⟨List.mem_of_getElem? (i := 5) rfl, fun _ h => absurd h List.not_mem_nil⟩⟩⟩⟩) (by decide +kernel)) ggX9_keepPrimes_X6_splitUp
set_option maxRecDepth 20000 in
theorem ggX9_keepPrimes_X6_howManyParts : GoodIn wsX9_keepPrimes wsX6_howManyParts := goodIn_r _ [20, 8, 16, 64, 65, 66, 67, 68, 69, 70, 71] rfl (by decide +kernel)
set_option maxRecDepth 20000 in
theorem gX9_keepPrimes_X6_howManyParts : GoodIn wsX9_keepPrimes (wsV RX9 66 RX6 yX6_howManyParts wsX6_howManyParts) := goodIn_app (goodIn_sub (List.forall_mem_cons.mpr ⟨List.mem_of_getElem? (i := 17) rfl, List.forall_mem_cons.mpr ⟨List.mem_of_getElem? (i := 18) rfl, List.forall_mem_cons.mpr ⟨List.mem_of_getElem? (i := 19) rfl, List.forall_mem_cons.mpr ⟨List.mem_of_getElem? (i := 5) rfl, fun _ h => absurd h List.not_mem_nil⟩⟩⟩⟩) (by decide +kernel)) ggX9_keepPrimes_X6_howManyParts
set_option maxRecDepth 20000 in
theorem ggX9_keepPrimes_X6_partAt : GoodIn wsX9_keepPrimes wsX6_partAt := goodIn_r _ [24, 25, 26, 27, 28, 29, 30, 5, 31, 32, 7, 8, 16, 15, 33, 34, 35, 36, 37, 38, 39, 64, 65, 66, 67, 68, 69, 70, 71] rfl (by decide +kernel)
set_option maxRecDepth 20000 in
theorem gX9_keepPrimes_X6_partAt : GoodIn wsX9_keepPrimes (wsV RX9 70 RX6 yX6_partAt wsX6_partAt) := goodIn_app (goodIn_sub (List.forall_mem_cons.mpr ⟨List.mem_of_getElem? (i := 21) rfl, List.forall_mem_cons.mpr ⟨List.mem_of_getElem? (i := 22) rfl, List.forall_mem_cons.mpr ⟨List.mem_of_getElem? (i := 23) rfl, List.forall_mem_cons.mpr ⟨List.mem_of_getElem? (i := 5) rfl, fun _ h => absurd h List.not_mem_nil⟩⟩⟩⟩) (by decide +kernel)) ggX9_keepPrimes_X6_partAt
set_option maxRecDepth 20000 in
theorem ggX9_keepPrimes_X9_isPrime : GoodIn wsX9_keepPrimes wsX9_isPrime := goodIn_r _ [44, 45, 46, 55, 56, 57, 58, 59, 60, 61, 62, 63, 72, 73] rfl (by decide +kernel)
set_option maxRecDepth 20000 in
theorem gX9_keepPrimes_X9_isPrime : GoodIn wsX9_keepPrimes (wsV RX9 74 RX9 yX9_isPrime wsX9_isPrime) := goodIn_app (goodIn_sub (List.forall_mem_cons.mpr ⟨List.mem_of_getElem? (i := 40) rfl, List.forall_mem_cons.mpr ⟨List.mem_of_getElem? (i := 41) rfl, List.forall_mem_cons.mpr ⟨List.mem_of_getElem? (i := 42) rfl, List.forall_mem_cons.mpr ⟨List.mem_of_getElem? (i := 43) rfl, fun _ h => absurd h List.not_mem_nil⟩⟩⟩⟩) (by decide +kernel)) ggX9_keepPrimes_X9_isPrime
set_option maxRecDepth 20000 in
theorem ggX9_keepPrimes_X9_keepPower : GoodIn wsX9_keepPrimes wsX9_keepPower := goodIn_r _ [50, 51, 52, 53, 54, 55, 56, 57, 58, 59, 60, 61, 62, 63] rfl (by decide +kernel)
set_option maxRecDepth 20000 in
theorem gX9_keepPrimes_X9_keepPower : GoodIn wsX9_keepPrimes (wsV RX9 78 RX9 yX9_keepPower wsX9_keepPower) := goodIn_app (goodIn_sub (List.forall_mem_cons.mpr ⟨List.mem_of_getElem? (i := 47) rfl, List.forall_mem_cons.mpr ⟨List.mem_of_getElem? (i := 48) rfl, List.forall_mem_cons.mpr ⟨List.mem_of_getElem? (i := 49) rfl, List.forall_mem_cons.mpr ⟨List.mem_of_getElem? (i := 43) rfl, fun _ h => absurd h List.not_mem_nil⟩⟩⟩⟩) (by decide +kernel)) ggX9_keepPrimes_X9_keepPower
theorem dX9_keepPrimes_0 : decode cX9_keepPrimes 0 = .ok (.aload_n 0, 1) := by decide +kernel
theorem dX9_keepPrimes_1 : decode cX9_keepPrimes 1 = .ok (.getfield 35, 3) := by decide +kernel
theorem dX9_keepPrimes_4 : decode cX9_keepPrimes 4 = .ok (.lload_n 1, 1) := by decide +kernel
theorem dX9_keepPrimes_5 : decode cX9_keepPrimes 5 = .ok (.invokevirtual 61, 3) := by decide +kernel
theorem dX9_keepPrimes_8 : decode cX9_keepPrimes 8 = .ok (.aload_n 0, 1) := by decide +kernel
theorem dX9_keepPrimes_9 : decode cX9_keepPrimes 9 = .ok (.getfield 35, 3) := by decide +kernel
theorem dX9_keepPrimes_12 : decode cX9_keepPrimes 12 = .ok (.invokevirtual 66, 3) := by decide +kernel
theorem dX9_keepPrimes_15 : decode cX9_keepPrimes 15 = .ok (.istore_n 3, 1) := by decide +kernel
theorem dX9_keepPrimes_16 : decode cX9_keepPrimes 16 = .ok (.iconst 0, 1) := by decide +kernel
theorem dX9_keepPrimes_17 : decode cX9_keepPrimes 17 = .ok (.istore 4, 2) := by decide +kernel
theorem dX9_keepPrimes_19 : decode cX9_keepPrimes 19 = .ok (.iload 4, 2) := by decide +kernel
theorem dX9_keepPrimes_21 : decode cX9_keepPrimes 21 = .ok (.iload_n 3, 1) := by decide +kernel
theorem dX9_keepPrimes_22 : decode cX9_keepPrimes 22 = .ok (.if_icmp .ge 45, 3) := by decide +kernel
theorem dX9_keepPrimes_25 : decode cX9_keepPrimes 25 = .ok (.aload_n 0, 1) := by decide +kernel
theorem dX9_keepPrimes_26 : decode cX9_keepPrimes 26 = .ok (.getfield 35, 3) := by decide +kernel
theorem dX9_keepPrimes_29 : decode cX9_keepPrimes 29 = .ok (.iload 4, 2) := by decide +kernel
theorem dX9_keepPrimes_31 : decode cX9_keepPrimes 31 = .ok (.invokevirtual 70, 3) := by decide +kernel
theorem dX9_keepPrimes_34 : decode cX9_keepPrimes 34 = .ok (.lstore 5, 2) := by decide +kernel
theorem dX9_keepPrimes_36 : decode cX9_keepPrimes 36 = .ok (.aload_n 0, 1) := by decide +kernel
theorem dX9_keepPrimes_37 : decode cX9_keepPrimes 37 = .ok (.lload 5, 2) := by decide +kernel
theorem dX9_keepPrimes_39 : decode cX9_keepPrimes 39 = .ok (.lconst 1, 1) := by decide +kernel
theorem dX9_keepPrimes_40 : decode cX9_keepPrimes 40 = .ok (.lsub, 1) := by decide +kernel
theorem dX9_keepPrimes_41 : decode cX9_keepPrimes 41 = .ok (.invokevirtual 74, 3) := by decide +kernel
theorem dX9_keepPrimes_44 : decode cX9_keepPrimes 44 = .ok (.ifCond .eq 17, 3) := by decide +kernel
theorem dX9_keepPrimes_47 : decode cX9_keepPrimes 47 = .ok (.aload_n 0, 1) := by decide +kernel
theorem dX9_keepPrimes_48 : decode cX9_keepPrimes 48 = .ok (.lload 5, 2) := by decide +kernel
theorem dX9_keepPrimes_50 : decode cX9_keepPrimes 50 = .ok (.lconst 1, 1) := by decide +kernel
theorem dX9_keepPrimes_51 : decode cX9_keepPrimes 51 = .ok (.lsub, 1) := by decide +kernel
theorem dX9_keepPrimes_52 : decode cX9_keepPrimes 52 = .ok (.lload 5, 2) := by decide +kernel
theorem dX9_keepPrimes_54 : decode cX9_keepPrimes 54 = .ok (.lconst 1, 1) := by decide +kernel
theorem dX9_keepPrimes_55 : decode cX9_keepPrimes 55 = .ok (.lsub, 1) := by decide +kernel
theorem dX9_keepPrimes_56 : decode cX9_keepPrimes 56 = .ok (.lload 5, 2) := by decide +kernel
theorem dX9_keepPrimes_58 : decode cX9_keepPrimes 58 = .ok (.invokevirtual 78, 3) := by decide +kernel
theorem dX9_keepPrimes_61 : decode cX9_keepPrimes 61 = .ok (.iinc 4 1, 3) := by decide +kernel
theorem dX9_keepPrimes_64 : decode cX9_keepPrimes 64 = .ok (.goto (-45), 3) := by decide +kernel
theorem dX9_keepPrimes_67 : decode cX9_keepPrimes 67 = .ok (.return_, 1) := by decide +kernel
theorem dX9_isPrime_0 : decode cX9_isPrime 0 = .ok (.aload_n 0, 1) := by decide +kernel
theorem dX9_isPrime_1 : decode cX9_isPrime 1 = .ok (.getfield 39, 3) := by decide +kernel
theorem dX9_isPrime_4 : decode cX9_isPrime 4 = .ok (.getfield 82, 3) := by decide +kernel
theorem dX9_isPrime_7 : decode cX9_isPrime 7 = .ok (.astore_n 3, 1) := by decide +kernel
theorem dX9_isPrime_8 : decode cX9_isPrime 8 = .ok (.iconst 0, 1) := by decide +kernel
theorem dX9_isPrime_9 : decode cX9_isPrime 9 = .ok (.istore 4, 2) := by decide +kernel
theorem dX9_isPrime_11 : decode cX9_isPrime 11 = .ok (.iload 4, 2) := by decide +kernel
theorem dX9_isPrime_13 : decode cX9_isPrime 13 = .ok (.aload_n 3, 1) := by decide +kernel
theorem dX9_isPrime_14 : decode cX9_isPrime 14 = .ok (.arraylength, 1) := by decide +kernel
theorem dX9_isPrime_15 : decode cX9_isPrime 15 = .ok (.if_icmp .ge 49, 3) := by decide +kernel
theorem dX9_isPrime_18 : decode cX9_isPrime 18 = .ok (.aload_n 3, 1) := by decide +kernel
theorem dX9_isPrime_19 : decode cX9_isPrime 19 = .ok (.iload 4, 2) := by decide +kernel
theorem dX9_isPrime_21 : decode cX9_isPrime 21 = .ok (.iaload, 1) := by decide +kernel
theorem dX9_isPrime_22 : decode cX9_isPrime 22 = .ok (.i2l, 1) := by decide +kernel
theorem dX9_isPrime_23 : decode cX9_isPrime 23 = .ok (.lstore 5, 2) := by decide +kernel
theorem dX9_isPrime_25 : decode cX9_isPrime 25 = .ok (.lload 5, 2) := by decide +kernel
theorem dX9_isPrime_27 : decode cX9_isPrime 27 = .ok (.ldc2_w 88, 3) := by decide +kernel
theorem dX9_isPrime_30 : decode cX9_isPrime 30 = .ok (.lcmp, 1) := by decide +kernel
theorem dX9_isPrime_31 : decode cX9_isPrime 31 = .ok (.ifCond .lt 33, 3) := by decide +kernel
theorem dX9_isPrime_34 : decode cX9_isPrime 34 = .ok (.lload 5, 2) := by decide +kernel
theorem dX9_isPrime_36 : decode cX9_isPrime 36 = .ok (.lload 5, 2) := by decide +kernel
theorem dX9_isPrime_38 : decode cX9_isPrime 38 = .ok (.lmul, 1) := by decide +kernel
theorem dX9_isPrime_39 : decode cX9_isPrime 39 = .ok (.lload_n 1, 1) := by decide +kernel
theorem dX9_isPrime_40 : decode cX9_isPrime 40 = .ok (.lcmp, 1) := by decide +kernel
theorem dX9_isPrime_41 : decode cX9_isPrime 41 = .ok (.ifCond .le 6, 3) := by decide +kernel
theorem dX9_isPrime_44 : decode cX9_isPrime 44 = .ok (.goto 20, 3) := by decide +kernel
theorem dX9_isPrime_47 : decode cX9_isPrime 47 = .ok (.lload_n 1, 1) := by decide +kernel
theorem dX9_isPrime_48 : decode cX9_isPrime 48 = .ok (.lload 5, 2) := by decide +kernel
theorem dX9_isPrime_50 : decode cX9_isPrime 50 = .ok (.lrem, 1) := by decide +kernel
theorem dX9_isPrime_51 : decode cX9_isPrime 51 = .ok (.lconst 0, 1) := by decide +kernel
theorem dX9_isPrime_52 : decode cX9_isPrime 52 = .ok (.lcmp, 1) := by decide +kernel
theorem dX9_isPrime_53 : decode cX9_isPrime 53 = .ok (.ifCond .ne 5, 3) := by decide +kernel
theorem dX9_isPrime_56 : decode cX9_isPrime 56 = .ok (.iconst 0, 1) := by decide +kernel
theorem dX9_isPrime_57 : decode cX9_isPrime 57 = .ok (.ireturn, 1) := by decide +kernel
theorem dX9_isPrime_58 : decode cX9_isPrime 58 = .ok (.iinc 4 1, 3) := by decide +kernel
theorem dX9_isPrime_61 : decode cX9_isPrime 61 = .ok (.goto (-50), 3) := by decide +kernel
theorem dX9_isPrime_64 : decode cX9_isPrime 64 = .ok (.lload_n 1, 1) := by decide +kernel
theorem dX9_isPrime_65 : decode cX9_isPrime 65 = .ok (.lconst 1, 1) := by decide +kernel
theorem dX9_isPrime_66 : decode cX9_isPrime 66 = .ok (.lcmp, 1) := by decide +kernel
theorem dX9_isPrime_67 : decode cX9_isPrime 67 = .ok (.ifCond .le 7, 3) := by decide +kernel
theorem dX9_isPrime_70 : decode cX9_isPrime 70 = .ok (.iconst 1, 1) := by decide +kernel
theorem dX9_isPrime_71 : decode cX9_isPrime 71 = .ok (.goto 4, 3) := by decide +kernel
theorem dX9_isPrime_74 : decode cX9_isPrime 74 = .ok (.iconst 0, 1) := by decide +kernel
theorem dX9_isPrime_75 : decode cX9_isPrime 75 = .ok (.ireturn, 1) := by decide +kernel
set_option maxRecDepth 20000 in
theorem ggX9_keepPowers_X9_keepPower : GoodIn wsX9_keepPowers wsX9_keepPower := goodIn_r _ [7, 8, 9, 10, 11, 12, 13, 14, 15, 16, 17, 18, 19, 20] rfl (by decide +kernel)
set_option maxRecDepth 20000 in
theorem gX9_keepPowers_X9_keepPower : GoodIn wsX9_keepPowers (wsV RX9 78 RX9 yX9_keepPower wsX9_keepPower) := goodIn_app (goodIn_sub (List.forall_mem_cons.mpr ⟨List.mem_of_getElem? (i := 3) rfl, List.forall_mem_cons.mpr ⟨List.mem_of_getElem? (i := 4) rfl, List.forall_mem_cons.mpr ⟨List.mem_of_getElem? (i := 5) rfl, List.forall_mem_cons.mpr ⟨List.mem_of_getElem? (i := 6) rfl, fun _ h => absurd h List.not_mem_nil⟩⟩⟩⟩) (by decide +kernel)) ggX9_keepPowers_X9_keepPower
theorem dX9_keepPowers_0 : decode cX9_keepPowers 0 = .ok (.aload_n 0, 1) := by decide +kernel
theorem dX9_keepPowers_1 : decode cX9_keepPowers 1 = .ok (.getfield 39, 3) := by decide +kernel
theorem dX9_keepPowers_4 : decode cX9_keepPowers 4 = .ok (.getfield 82, 3) := by decide +kernel
theorem dX9_keepPowers_7 : decode cX9_keepPowers 7 = .ok (.astore_n 3, 1) := by decide +kernel
theorem dX9_keepPowers_8 : decode cX9_keepPowers 8 = .ok (.iconst 0, 1) := by decide +kernel
theorem dX9_keepPowers_9 : decode cX9_keepPowers 9 = .ok (.istore 4, 2) := by decide +kernel
theorem dX9_keepPowers_11 : decode cX9_keepPowers 11 = .ok (.iload 4, 2) := by decide +kernel
theorem dX9_keepPowers_13 : decode cX9_keepPowers 13 = .ok (.aload_n 3, 1) := by decide +kernel
theorem dX9_keepPowers_14 : decode cX9_keepPowers 14 = .ok (.arraylength, 1) := by decide +kernel
theorem dX9_keepPowers_15 : decode cX9_keepPowers 15 = .ok (.if_icmp .ge 111, 3) := by decide +kernel
theorem dX9_keepPowers_18 : decode cX9_keepPowers 18 = .ok (.aload_n 3, 1) := by decide +kernel
theorem dX9_keepPowers_19 : decode cX9_keepPowers 19 = .ok (.iload 4, 2) := by decide +kernel
theorem dX9_keepPowers_21 : decode cX9_keepPowers 21 = .ok (.iaload, 1) := by decide +kernel
theorem dX9_keepPowers_22 : decode cX9_keepPowers 22 = .ok (.i2l, 1) := by decide +kernel
theorem dX9_keepPowers_23 : decode cX9_keepPowers 23 = .ok (.lstore 5, 2) := by decide +kernel
theorem dX9_keepPowers_25 : decode cX9_keepPowers 25 = .ok (.lload 5, 2) := by decide +kernel
theorem dX9_keepPowers_27 : decode cX9_keepPowers 27 = .ok (.ldc2_w 88, 3) := by decide +kernel
theorem dX9_keepPowers_30 : decode cX9_keepPowers 30 = .ok (.lcmp, 1) := by decide +kernel
theorem dX9_keepPowers_31 : decode cX9_keepPowers 31 = .ok (.ifCond .lt 95, 3) := by decide +kernel
theorem dX9_keepPowers_34 : decode cX9_keepPowers 34 = .ok (.lload 5, 2) := by decide +kernel
theorem dX9_keepPowers_36 : decode cX9_keepPowers 36 = .ok (.lload 5, 2) := by decide +kernel
theorem dX9_keepPowers_38 : decode cX9_keepPowers 38 = .ok (.lmul, 1) := by decide +kernel
theorem dX9_keepPowers_39 : decode cX9_keepPowers 39 = .ok (.lload_n 1, 1) := by decide +kernel
theorem dX9_keepPowers_40 : decode cX9_keepPowers 40 = .ok (.lcmp, 1) := by decide +kernel
theorem dX9_keepPowers_41 : decode cX9_keepPowers 41 = .ok (.ifCond .lt 6, 3) := by decide +kernel
theorem dX9_keepPowers_44 : decode cX9_keepPowers 44 = .ok (.goto 82, 3) := by decide +kernel
theorem dX9_keepPowers_47 : decode cX9_keepPowers 47 = .ok (.lload 5, 2) := by decide +kernel
theorem dX9_keepPowers_49 : decode cX9_keepPowers 49 = .ok (.lstore 7, 2) := by decide +kernel
theorem dX9_keepPowers_51 : decode cX9_keepPowers 51 = .ok (.lconst 1, 1) := by decide +kernel
theorem dX9_keepPowers_52 : decode cX9_keepPowers 52 = .ok (.lload 5, 2) := by decide +kernel
theorem dX9_keepPowers_54 : decode cX9_keepPowers 54 = .ok (.ladd, 1) := by decide +kernel
theorem dX9_keepPowers_55 : decode cX9_keepPowers 55 = .ok (.lstore 9, 2) := by decide +kernel
theorem dX9_keepPowers_57 : decode cX9_keepPowers 57 = .ok (.iconst 2, 1) := by decide +kernel
theorem dX9_keepPowers_58 : decode cX9_keepPowers 58 = .ok (.istore 11, 2) := by decide +kernel
theorem dX9_keepPowers_60 : decode cX9_keepPowers 60 = .ok (.iload 11, 2) := by decide +kernel
theorem dX9_keepPowers_62 : decode cX9_keepPowers 62 = .ok (.bipush 64, 2) := by decide +kernel
theorem dX9_keepPowers_64 : decode cX9_keepPowers 64 = .ok (.if_icmp .ge 56, 3) := by decide +kernel
theorem dX9_keepPowers_67 : decode cX9_keepPowers 67 = .ok (.lload 9, 2) := by decide +kernel
theorem dX9_keepPowers_69 : decode cX9_keepPowers 69 = .ok (.lload_n 1, 1) := by decide +kernel
theorem dX9_keepPowers_70 : decode cX9_keepPowers 70 = .ok (.lcmp, 1) := by decide +kernel
theorem dX9_keepPowers_71 : decode cX9_keepPowers 71 = .ok (.ifCond .ge 49, 3) := by decide +kernel
theorem dX9_keepPowers_74 : decode cX9_keepPowers 74 = .ok (.lload 7, 2) := by decide +kernel
theorem dX9_keepPowers_76 : decode cX9_keepPowers 76 = .ok (.lload 5, 2) := by decide +kernel
theorem dX9_keepPowers_78 : decode cX9_keepPowers 78 = .ok (.lmul, 1) := by decide +kernel
theorem dX9_keepPowers_79 : decode cX9_keepPowers 79 = .ok (.lstore 7, 2) := by decide +kernel
theorem dX9_keepPowers_81 : decode cX9_keepPowers 81 = .ok (.lload 9, 2) := by decide +kernel
theorem dX9_keepPowers_83 : decode cX9_keepPowers 83 = .ok (.lload 7, 2) := by decide +kernel
theorem dX9_keepPowers_85 : decode cX9_keepPowers 85 = .ok (.ladd, 1) := by decide +kernel
theorem dX9_keepPowers_86 : decode cX9_keepPowers 86 = .ok (.lstore 9, 2) := by decide +kernel
theorem dX9_keepPowers_88 : decode cX9_keepPowers 88 = .ok (.lload 9, 2) := by decide +kernel
theorem dX9_keepPowers_90 : decode cX9_keepPowers 90 = .ok (.lconst 1, 1) := by decide +kernel
theorem dX9_keepPowers_91 : decode cX9_keepPowers 91 = .ok (.lcmp, 1) := by decide +kernel
theorem dX9_keepPowers_92 : decode cX9_keepPowers 92 = .ok (.ifCond .le 22, 3) := by decide +kernel
theorem dX9_keepPowers_95 : decode cX9_keepPowers 95 = .ok (.lload_n 1, 1) := by decide +kernel
theorem dX9_keepPowers_96 : decode cX9_keepPowers 96 = .ok (.lload 9, 2) := by decide +kernel
theorem dX9_keepPowers_98 : decode cX9_keepPowers 98 = .ok (.lrem, 1) := by decide +kernel
theorem dX9_keepPowers_99 : decode cX9_keepPowers 99 = .ok (.lconst 0, 1) := by decide +kernel
theorem dX9_keepPowers_100 : decode cX9_keepPowers 100 = .ok (.lcmp, 1) := by decide +kernel
theorem dX9_keepPowers_101 : decode cX9_keepPowers 101 = .ok (.ifCond .ne 13, 3) := by decide +kernel
theorem dX9_keepPowers_104 : decode cX9_keepPowers 104 = .ok (.aload_n 0, 1) := by decide +kernel
theorem dX9_keepPowers_105 : decode cX9_keepPowers 105 = .ok (.lload 5, 2) := by decide +kernel
theorem dX9_keepPowers_107 : decode cX9_keepPowers 107 = .ok (.lload 7, 2) := by decide +kernel
theorem dX9_keepPowers_109 : decode cX9_keepPowers 109 = .ok (.lload 9, 2) := by decide +kernel
theorem dX9_keepPowers_111 : decode cX9_keepPowers 111 = .ok (.invokevirtual 78, 3) := by decide +kernel
theorem dX9_keepPowers_114 : decode cX9_keepPowers 114 = .ok (.iinc 11 1, 3) := by decide +kernel
theorem dX9_keepPowers_117 : decode cX9_keepPowers 117 = .ok (.goto (-57), 3) := by decide +kernel
theorem dX9_keepPowers_120 : decode cX9_keepPowers 120 = .ok (.iinc 4 1, 3) := by decide +kernel
theorem dX9_keepPowers_123 : decode cX9_keepPowers 123 = .ok (.goto (-112), 3) := by decide +kernel
theorem dX9_keepPowers_126 : decode cX9_keepPowers 126 = .ok (.return_, 1) := by decide +kernel
theorem dX9_keepPower_0 : decode cX9_keepPower 0 = .ok (.aload_n 0, 1) := by decide +kernel
theorem dX9_keepPower_1 : decode cX9_keepPower 1 = .ok (.getfield 21, 3) := by decide +kernel
theorem dX9_keepPower_4 : decode cX9_keepPower 4 = .ok (.sipush 400, 3) := by decide +kernel
theorem dX9_keepPower_7 : decode cX9_keepPower 7 = .ok (.if_icmp .lt 4, 3) := by decide +kernel
theorem dX9_keepPower_10 : decode cX9_keepPower 10 = .ok (.return_, 1) := by decide +kernel
theorem dX9_keepPower_11 : decode cX9_keepPower 11 = .ok (.aload_n 0, 1) := by decide +kernel
theorem dX9_keepPower_12 : decode cX9_keepPower 12 = .ok (.getfield 21, 3) := by decide +kernel
theorem dX9_keepPower_15 : decode cX9_keepPower 15 = .ok (.istore 7, 2) := by decide +kernel
theorem dX9_keepPower_17 : decode cX9_keepPower 17 = .ok (.aload_n 0, 1) := by decide +kernel
theorem dX9_keepPower_18 : decode cX9_keepPower 18 = .ok (.getfield 21, 3) := by decide +kernel
theorem dX9_keepPower_21 : decode cX9_keepPower 21 = .ok (.iconst 1, 1) := by decide +kernel
theorem dX9_keepPower_22 : decode cX9_keepPower 22 = .ok (.isub, 1) := by decide +kernel
theorem dX9_keepPower_23 : decode cX9_keepPower 23 = .ok (.istore 8, 2) := by decide +kernel
theorem dX9_keepPower_25 : decode cX9_keepPower 25 = .ok (.iload 8, 2) := by decide +kernel
theorem dX9_keepPower_27 : decode cX9_keepPower 27 = .ok (.ifCond .lt 74, 3) := by decide +kernel
theorem dX9_keepPower_30 : decode cX9_keepPower 30 = .ok (.aload_n 0, 1) := by decide +kernel
theorem dX9_keepPower_31 : decode cX9_keepPower 31 = .ok (.getfield 18, 3) := by decide +kernel
theorem dX9_keepPower_34 : decode cX9_keepPower 34 = .ok (.iload 8, 2) := by decide +kernel
theorem dX9_keepPower_36 : decode cX9_keepPower 36 = .ok (.laload, 1) := by decide +kernel
theorem dX9_keepPower_37 : decode cX9_keepPower 37 = .ok (.lload 5, 2) := by decide +kernel
theorem dX9_keepPower_39 : decode cX9_keepPower 39 = .ok (.lcmp, 1) := by decide +kernel
theorem dX9_keepPower_40 : decode cX9_keepPower 40 = .ok (.ifCond .le 61, 3) := by decide +kernel
theorem dX9_keepPower_43 : decode cX9_keepPower 43 = .ok (.aload_n 0, 1) := by decide +kernel
theorem dX9_keepPower_44 : decode cX9_keepPower 44 = .ok (.getfield 11, 3) := by decide +kernel
theorem dX9_keepPower_47 : decode cX9_keepPower 47 = .ok (.iload 8, 2) := by decide +kernel
theorem dX9_keepPower_49 : decode cX9_keepPower 49 = .ok (.iconst 1, 1) := by decide +kernel
theorem dX9_keepPower_50 : decode cX9_keepPower 50 = .ok (.iadd, 1) := by decide +kernel
theorem dX9_keepPower_51 : decode cX9_keepPower 51 = .ok (.aload_n 0, 1) := by decide +kernel
theorem dX9_keepPower_52 : decode cX9_keepPower 52 = .ok (.getfield 11, 3) := by decide +kernel
theorem dX9_keepPower_55 : decode cX9_keepPower 55 = .ok (.iload 8, 2) := by decide +kernel
theorem dX9_keepPower_57 : decode cX9_keepPower 57 = .ok (.laload, 1) := by decide +kernel
theorem dX9_keepPower_58 : decode cX9_keepPower 58 = .ok (.lastore, 1) := by decide +kernel
theorem dX9_keepPower_59 : decode cX9_keepPower 59 = .ok (.aload_n 0, 1) := by decide +kernel
theorem dX9_keepPower_60 : decode cX9_keepPower 60 = .ok (.getfield 15, 3) := by decide +kernel
theorem dX9_keepPower_63 : decode cX9_keepPower 63 = .ok (.iload 8, 2) := by decide +kernel
theorem dX9_keepPower_65 : decode cX9_keepPower 65 = .ok (.iconst 1, 1) := by decide +kernel
theorem dX9_keepPower_66 : decode cX9_keepPower 66 = .ok (.iadd, 1) := by decide +kernel
theorem dX9_keepPower_67 : decode cX9_keepPower 67 = .ok (.aload_n 0, 1) := by decide +kernel
theorem dX9_keepPower_68 : decode cX9_keepPower 68 = .ok (.getfield 15, 3) := by decide +kernel
theorem dX9_keepPower_71 : decode cX9_keepPower 71 = .ok (.iload 8, 2) := by decide +kernel
theorem dX9_keepPower_73 : decode cX9_keepPower 73 = .ok (.laload, 1) := by decide +kernel
theorem dX9_keepPower_74 : decode cX9_keepPower 74 = .ok (.lastore, 1) := by decide +kernel
theorem dX9_keepPower_75 : decode cX9_keepPower 75 = .ok (.aload_n 0, 1) := by decide +kernel
theorem dX9_keepPower_76 : decode cX9_keepPower 76 = .ok (.getfield 18, 3) := by decide +kernel
theorem dX9_keepPower_79 : decode cX9_keepPower 79 = .ok (.iload 8, 2) := by decide +kernel
theorem dX9_keepPower_81 : decode cX9_keepPower 81 = .ok (.iconst 1, 1) := by decide +kernel
theorem dX9_keepPower_82 : decode cX9_keepPower 82 = .ok (.iadd, 1) := by decide +kernel
theorem dX9_keepPower_83 : decode cX9_keepPower 83 = .ok (.aload_n 0, 1) := by decide +kernel
theorem dX9_keepPower_84 : decode cX9_keepPower 84 = .ok (.getfield 18, 3) := by decide +kernel
theorem dX9_keepPower_87 : decode cX9_keepPower 87 = .ok (.iload 8, 2) := by decide +kernel
theorem dX9_keepPower_89 : decode cX9_keepPower 89 = .ok (.laload, 1) := by decide +kernel
theorem dX9_keepPower_90 : decode cX9_keepPower 90 = .ok (.lastore, 1) := by decide +kernel
theorem dX9_keepPower_91 : decode cX9_keepPower 91 = .ok (.iload 8, 2) := by decide +kernel
theorem dX9_keepPower_93 : decode cX9_keepPower 93 = .ok (.istore 7, 2) := by decide +kernel
theorem dX9_keepPower_95 : decode cX9_keepPower 95 = .ok (.iinc 8 (-1), 3) := by decide +kernel
theorem dX9_keepPower_98 : decode cX9_keepPower 98 = .ok (.goto (-73), 3) := by decide +kernel
theorem dX9_keepPower_101 : decode cX9_keepPower 101 = .ok (.aload_n 0, 1) := by decide +kernel
theorem dX9_keepPower_102 : decode cX9_keepPower 102 = .ok (.getfield 11, 3) := by decide +kernel
theorem dX9_keepPower_105 : decode cX9_keepPower 105 = .ok (.iload 7, 2) := by decide +kernel
theorem dX9_keepPower_107 : decode cX9_keepPower 107 = .ok (.lload_n 1, 1) := by decide +kernel
theorem dX9_keepPower_108 : decode cX9_keepPower 108 = .ok (.lastore, 1) := by decide +kernel
theorem dX9_keepPower_109 : decode cX9_keepPower 109 = .ok (.aload_n 0, 1) := by decide +kernel
theorem dX9_keepPower_110 : decode cX9_keepPower 110 = .ok (.getfield 15, 3) := by decide +kernel
theorem dX9_keepPower_113 : decode cX9_keepPower 113 = .ok (.iload 7, 2) := by decide +kernel
theorem dX9_keepPower_115 : decode cX9_keepPower 115 = .ok (.lload_n 3, 1) := by decide +kernel
theorem dX9_keepPower_116 : decode cX9_keepPower 116 = .ok (.lastore, 1) := by decide +kernel
theorem dX9_keepPower_117 : decode cX9_keepPower 117 = .ok (.aload_n 0, 1) := by decide +kernel
theorem dX9_keepPower_118 : decode cX9_keepPower 118 = .ok (.getfield 18, 3) := by decide +kernel
theorem dX9_keepPower_121 : decode cX9_keepPower 121 = .ok (.iload 7, 2) := by decide +kernel
theorem dX9_keepPower_123 : decode cX9_keepPower 123 = .ok (.lload 5, 2) := by decide +kernel
theorem dX9_keepPower_125 : decode cX9_keepPower 125 = .ok (.lastore, 1) := by decide +kernel
theorem dX9_keepPower_126 : decode cX9_keepPower 126 = .ok (.aload_n 0, 1) := by decide +kernel
theorem dX9_keepPower_127 : decode cX9_keepPower 127 = .ok (.dup, 1) := by decide +kernel
theorem dX9_keepPower_128 : decode cX9_keepPower 128 = .ok (.getfield 21, 3) := by decide +kernel
theorem dX9_keepPower_131 : decode cX9_keepPower 131 = .ok (.iconst 1, 1) := by decide +kernel
theorem dX9_keepPower_132 : decode cX9_keepPower 132 = .ok (.iadd, 1) := by decide +kernel
theorem dX9_keepPower_133 : decode cX9_keepPower 133 = .ok (.putfield 21, 3) := by decide +kernel
theorem dX9_keepPower_136 : decode cX9_keepPower 136 = .ok (.return_, 1) := by decide +kernel
set_option maxRecDepth 20000 in
theorem ggX9_join_X9_keepFound : GoodIn wsX9_join wsX9_keepFound := goodIn_r _ [10, 11, 12, 16, 17, 18, 19, 20, 21, 22, 23, 24] rfl (by decide +kernel)
set_option maxRecDepth 20000 in
theorem gX9_join_X9_keepFound : GoodIn wsX9_join (wsV RX9 50 RX9 yX9_keepFound wsX9_keepFound) := goodIn_app (goodIn_sub (List.forall_mem_cons.mpr ⟨List.mem_of_getElem? (i := 6) rfl, List.forall_mem_cons.mpr ⟨List.mem_of_getElem? (i := 7) rfl, List.forall_mem_cons.mpr ⟨List.mem_of_getElem? (i := 8) rfl, List.forall_mem_cons.mpr ⟨List.mem_of_getElem? (i := 9) rfl, fun _ h => absurd h List.not_mem_nil⟩⟩⟩⟩) (by decide +kernel)) ggX9_join_X9_keepFound
set_option maxRecDepth 20000 in
theorem ggX9_join_X9_join : GoodIn wsX9_join wsX9_join := goodIn_r _ [0, 1, 2, 3, 4, 5, 6, 7, 8, 9, 10, 11, 12, 13, 14, 15, 16, 17, 18, 19, 20, 21, 22, 23, 24] rfl (by decide +kernel)
set_option maxRecDepth 20000 in
theorem gX9_join_X9_join : GoodIn wsX9_join (wsV RX9 53 RX9 yX9_join wsX9_join) := goodIn_app (goodIn_sub (List.forall_mem_cons.mpr ⟨List.mem_of_getElem? (i := 13) rfl, List.forall_mem_cons.mpr ⟨List.mem_of_getElem? (i := 14) rfl, List.forall_mem_cons.mpr ⟨List.mem_of_getElem? (i := 15) rfl, List.forall_mem_cons.mpr ⟨List.mem_of_getElem? (i := 9) rfl, fun _ h => absurd h List.not_mem_nil⟩⟩⟩⟩) (by decide +kernel)) ggX9_join_X9_join
theorem dX9_join_0 : decode cX9_join 0 = .ok (.iload 6, 2) := by decide +kernel
theorem dX9_join_2 : decode cX9_join 2 = .ok (.bipush 12, 2) := by decide +kernel
theorem dX9_join_4 : decode cX9_join 4 = .ok (.if_icmp .lt 4, 3) := by decide +kernel
theorem dX9_join_7 : decode cX9_join 7 = .ok (.return_, 1) := by decide +kernel
theorem dX9_join_8 : decode cX9_join 8 = .ok (.iload 5, 2) := by decide +kernel
theorem dX9_join_10 : decode cX9_join 10 = .ok (.istore 7, 2) := by decide +kernel
theorem dX9_join_12 : decode cX9_join 12 = .ok (.iload 7, 2) := by decide +kernel
theorem dX9_join_14 : decode cX9_join 14 = .ok (.aload_n 0, 1) := by decide +kernel
theorem dX9_join_15 : decode cX9_join 15 = .ok (.getfield 21, 3) := by decide +kernel
theorem dX9_join_18 : decode cX9_join 18 = .ok (.if_icmp .ge 160, 3) := by decide +kernel
theorem dX9_join_21 : decode cX9_join 21 = .ok (.iload 7, 2) := by decide +kernel
theorem dX9_join_23 : decode cX9_join 23 = .ok (.sipush 400, 3) := by decide +kernel
theorem dX9_join_26 : decode cX9_join 26 = .ok (.if_icmp .ge 152, 3) := by decide +kernel
theorem dX9_join_29 : decode cX9_join 29 = .ok (.aload_n 0, 1) := by decide +kernel
theorem dX9_join_30 : decode cX9_join 30 = .ok (.getfield 18, 3) := by decide +kernel
theorem dX9_join_33 : decode cX9_join 33 = .ok (.iload 7, 2) := by decide +kernel
theorem dX9_join_35 : decode cX9_join 35 = .ok (.laload, 1) := by decide +kernel
theorem dX9_join_36 : decode cX9_join 36 = .ok (.lstore 8, 2) := by decide +kernel
theorem dX9_join_38 : decode cX9_join 38 = .ok (.lload 8, 2) := by decide +kernel
theorem dX9_join_40 : decode cX9_join 40 = .ok (.ldc2_w 88, 3) := by decide +kernel
theorem dX9_join_43 : decode cX9_join 43 = .ok (.lcmp, 1) := by decide +kernel
theorem dX9_join_44 : decode cX9_join 44 = .ok (.ifCond .lt 134, 3) := by decide +kernel
theorem dX9_join_47 : decode cX9_join 47 = .ok (.lload 8, 2) := by decide +kernel
theorem dX9_join_49 : decode cX9_join 49 = .ok (.lload_n 1, 1) := by decide +kernel
theorem dX9_join_50 : decode cX9_join 50 = .ok (.lcmp, 1) := by decide +kernel
theorem dX9_join_51 : decode cX9_join 51 = .ok (.ifCond .le 6, 3) := by decide +kernel
theorem dX9_join_54 : decode cX9_join 54 = .ok (.goto 124, 3) := by decide +kernel
theorem dX9_join_57 : decode cX9_join 57 = .ok (.lload 8, 2) := by decide +kernel
theorem dX9_join_59 : decode cX9_join 59 = .ok (.lload_n 1, 1) := by decide +kernel
theorem dX9_join_60 : decode cX9_join 60 = .ok (.lcmp, 1) := by decide +kernel
theorem dX9_join_61 : decode cX9_join 61 = .ok (.ifCond .ne 7, 3) := by decide +kernel
theorem dX9_join_64 : decode cX9_join 64 = .ok (.iconst 1, 1) := by decide +kernel
theorem dX9_join_65 : decode cX9_join 65 = .ok (.goto 4, 3) := by decide +kernel
theorem dX9_join_68 : decode cX9_join 68 = .ok (.iconst 0, 1) := by decide +kernel
theorem dX9_join_69 : decode cX9_join 69 = .ok (.istore 10, 2) := by decide +kernel
theorem dX9_join_71 : decode cX9_join 71 = .ok (.iload 10, 2) := by decide +kernel
theorem dX9_join_73 : decode cX9_join 73 = .ok (.ifCond .ne 13, 3) := by decide +kernel
theorem dX9_join_76 : decode cX9_join 76 = .ok (.lload 8, 2) := by decide +kernel
theorem dX9_join_78 : decode cX9_join 78 = .ok (.lload 8, 2) := by decide +kernel
theorem dX9_join_80 : decode cX9_join 80 = .ok (.lmul, 1) := by decide +kernel
theorem dX9_join_81 : decode cX9_join 81 = .ok (.lload_n 1, 1) := by decide +kernel
theorem dX9_join_82 : decode cX9_join 82 = .ok (.lcmp, 1) := by decide +kernel
theorem dX9_join_83 : decode cX9_join 83 = .ok (.ifCond .gt 89, 3) := by decide +kernel
theorem dX9_join_86 : decode cX9_join 86 = .ok (.lload_n 1, 1) := by decide +kernel
theorem dX9_join_87 : decode cX9_join 87 = .ok (.lload 8, 2) := by decide +kernel
theorem dX9_join_89 : decode cX9_join 89 = .ok (.lrem, 1) := by decide +kernel
theorem dX9_join_90 : decode cX9_join 90 = .ok (.lconst 0, 1) := by decide +kernel
theorem dX9_join_91 : decode cX9_join 91 = .ok (.lcmp, 1) := by decide +kernel
theorem dX9_join_92 : decode cX9_join 92 = .ok (.ifCond .ne 80, 3) := by decide +kernel
theorem dX9_join_95 : decode cX9_join 95 = .ok (.aload_n 0, 1) := by decide +kernel
theorem dX9_join_96 : decode cX9_join 96 = .ok (.getfield 11, 3) := by decide +kernel
theorem dX9_join_99 : decode cX9_join 99 = .ok (.iload 7, 2) := by decide +kernel
theorem dX9_join_101 : decode cX9_join 101 = .ok (.laload, 1) := by decide +kernel
theorem dX9_join_102 : decode cX9_join 102 = .ok (.ldc2_w 88, 3) := by decide +kernel
theorem dX9_join_105 : decode cX9_join 105 = .ok (.lcmp, 1) := by decide +kernel
theorem dX9_join_106 : decode cX9_join 106 = .ok (.ifCond .lt 66, 3) := by decide +kernel
theorem dX9_join_109 : decode cX9_join 109 = .ok (.lload_n 3, 1) := by decide +kernel
theorem dX9_join_110 : decode cX9_join 110 = .ok (.aload_n 0, 1) := by decide +kernel
theorem dX9_join_111 : decode cX9_join 111 = .ok (.getfield 11, 3) := by decide +kernel
theorem dX9_join_114 : decode cX9_join 114 = .ok (.iload 7, 2) := by decide +kernel
theorem dX9_join_116 : decode cX9_join 116 = .ok (.laload, 1) := by decide +kernel
theorem dX9_join_117 : decode cX9_join 117 = .ok (.lrem, 1) := by decide +kernel
theorem dX9_join_118 : decode cX9_join 118 = .ok (.lconst 0, 1) := by decide +kernel
theorem dX9_join_119 : decode cX9_join 119 = .ok (.lcmp, 1) := by decide +kernel
theorem dX9_join_120 : decode cX9_join 120 = .ok (.ifCond .ne 6, 3) := by decide +kernel
theorem dX9_join_123 : decode cX9_join 123 = .ok (.goto 49, 3) := by decide +kernel
theorem dX9_join_126 : decode cX9_join 126 = .ok (.iload 10, 2) := by decide +kernel
theorem dX9_join_128 : decode cX9_join 128 = .ok (.ifCond .eq 19, 3) := by decide +kernel
theorem dX9_join_131 : decode cX9_join 131 = .ok (.aload_n 0, 1) := by decide +kernel
theorem dX9_join_132 : decode cX9_join 132 = .ok (.lload_n 3, 1) := by decide +kernel
theorem dX9_join_133 : decode cX9_join 133 = .ok (.aload_n 0, 1) := by decide +kernel
theorem dX9_join_134 : decode cX9_join 134 = .ok (.getfield 15, 3) := by decide +kernel
theorem dX9_join_137 : decode cX9_join 137 = .ok (.iload 7, 2) := by decide +kernel
theorem dX9_join_139 : decode cX9_join 139 = .ok (.laload, 1) := by decide +kernel
theorem dX9_join_140 : decode cX9_join 140 = .ok (.lmul, 1) := by decide +kernel
theorem dX9_join_141 : decode cX9_join 141 = .ok (.invokevirtual 50, 3) := by decide +kernel
theorem dX9_join_144 : decode cX9_join 144 = .ok (.goto 28, 3) := by decide +kernel
theorem dX9_join_147 : decode cX9_join 147 = .ok (.aload_n 0, 1) := by decide +kernel
theorem dX9_join_148 : decode cX9_join 148 = .ok (.lload_n 1, 1) := by decide +kernel
theorem dX9_join_149 : decode cX9_join 149 = .ok (.lload 8, 2) := by decide +kernel
theorem dX9_join_151 : decode cX9_join 151 = .ok (.ldiv, 1) := by decide +kernel
theorem dX9_join_152 : decode cX9_join 152 = .ok (.lload_n 3, 1) := by decide +kernel
theorem dX9_join_153 : decode cX9_join 153 = .ok (.aload_n 0, 1) := by decide +kernel
theorem dX9_join_154 : decode cX9_join 154 = .ok (.getfield 15, 3) := by decide +kernel
theorem dX9_join_157 : decode cX9_join 157 = .ok (.iload 7, 2) := by decide +kernel
theorem dX9_join_159 : decode cX9_join 159 = .ok (.laload, 1) := by decide +kernel
theorem dX9_join_160 : decode cX9_join 160 = .ok (.lmul, 1) := by decide +kernel
theorem dX9_join_161 : decode cX9_join 161 = .ok (.iload 7, 2) := by decide +kernel
theorem dX9_join_163 : decode cX9_join 163 = .ok (.iconst 1, 1) := by decide +kernel
theorem dX9_join_164 : decode cX9_join 164 = .ok (.iadd, 1) := by decide +kernel
theorem dX9_join_165 : decode cX9_join 165 = .ok (.iload 6, 2) := by decide +kernel
theorem dX9_join_167 : decode cX9_join 167 = .ok (.iconst 1, 1) := by decide +kernel
theorem dX9_join_168 : decode cX9_join 168 = .ok (.iadd, 1) := by decide +kernel
theorem dX9_join_169 : decode cX9_join 169 = .ok (.invokevirtual 53, 3) := by decide +kernel
theorem dX9_join_172 : decode cX9_join 172 = .ok (.iinc 7 1, 3) := by decide +kernel
theorem dX9_join_175 : decode cX9_join 175 = .ok (.goto (-163), 3) := by decide +kernel
theorem dX9_join_178 : decode cX9_join 178 = .ok (.return_, 1) := by decide +kernel
