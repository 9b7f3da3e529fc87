set_option maxRecDepth 20000 in
theorem ggX12_share_X12_isNumber : GoodIn wsX12_share wsX12_isNumber := goodIn_r _ [5, 6, 7, 8, 4, 9] rfl (by decide +kernel)
set_option maxRecDepth 20000 in
theorem gX12_share_X12_isNumber : GoodIn wsX12_share (va_wsS RX12 71 yX12_isNumber wsX12_isNumber) := goodIn_app (goodIn_sub (List.forall_mem_cons.mpr ⟨List.mem_of_getElem? (i := 2) rfl, List.forall_mem_cons.mpr ⟨List.mem_of_getElem? (i := 3) rfl, List.forall_mem_cons.mpr ⟨List.mem_of_getElem? (i := 4) rfl, fun _ h => absurd h List.not_mem_nil⟩⟩⟩) (by decide +kernel)) ggX12_share_X12_isNumber
set_option maxRecDepth 20000 in
theorem ggX12_share_X12_in : GoodIn wsX12_share wsX12_in := goodIn_r _ [9] rfl (by decide +kernel)
set_option maxRecDepth 20000 in
theorem gX12_share_X12_in : GoodIn wsX12_share (va_wsS RX12 65 yX12_in wsX12_in) := goodIn_app (goodIn_sub (List.forall_mem_cons.mpr ⟨List.mem_of_getElem? (i := 7) rfl, List.forall_mem_cons.mpr ⟨List.mem_of_getElem? (i := 8) rfl, List.forall_mem_cons.mpr ⟨List.mem_of_getElem? (i := 4) rfl, fun _ h => absurd h List.not_mem_nil⟩⟩⟩) (by decide +kernel)) ggX12_share_X12_in
set_option maxRecDepth 20000 in
theorem ggX12_share_X12_sumOf : GoodIn wsX12_share wsX12_sumOf := goodIn_r _ [13, 14, 15, 16, 4, 17, 18, 19, 20, 21, 22, 23, 24, 28, 29, 30, 31, 32, 33, 34, 35, 36, 37, 38, 39, 40, 41, 42, 43, 44, 45, 46, 47, 48] rfl (by decide +kernel)
set_option maxRecDepth 20000 in
theorem gX12_share_X12_sumOf : GoodIn wsX12_share (wsV RX12 75 RX12 yX12_sumOf wsX12_sumOf) := goodIn_app (goodIn_sub (List.forall_mem_cons.mpr ⟨List.mem_of_getElem? (i := 10) rfl, List.forall_mem_cons.mpr ⟨List.mem_of_getElem? (i := 11) rfl, List.forall_mem_cons.mpr ⟨List.mem_of_getElem? (i := 12) rfl, List.forall_mem_cons.mpr ⟨List.mem_of_getElem? (i := 4) rfl, fun _ h => absurd h List.not_mem_nil⟩⟩⟩⟩) (by decide +kernel)) ggX12_share_X12_sumOf
set_option maxRecDepth 20000 in
theorem ggX12_share_X12_common : GoodIn wsX12_share wsX12_common := goodIn_r _ [27] rfl (by decide +kernel)
set_option maxRecDepth 20000 in
theorem gX12_share_X12_common : GoodIn wsX12_share (va_wsS RX12 132 yX12_common wsX12_common) := goodIn_app (goodIn_sub (List.forall_mem_cons.mpr ⟨List.mem_of_getElem? (i := 25) rfl, List.forall_mem_cons.mpr ⟨List.mem_of_getElem? (i := 26) rfl, List.forall_mem_cons.mpr ⟨List.mem_of_getElem? (i := 4) rfl, fun _ h => absurd h List.not_mem_nil⟩⟩⟩) (by decide +kernel)) ggX12_share_X12_common
theorem dX12_share_0 : decode cX12_share 0 = .ok (.lload_n 1, 1) := by decide +kernel
theorem dX12_share_1 : decode cX12_share 1 = .ok (.invokestatic 71, 3) := by decide +kernel
theorem dX12_share_4 : decode cX12_share 4 = .ok (.ifCond .eq 13, 3) := by decide +kernel
theorem dX12_share_7 : decode cX12_share 7 = .ok (.iload_n 3, 1) := by decide +kernel
theorem dX12_share_8 : decode cX12_share 8 = .ok (.i2l, 1) := by decide +kernel
theorem dX12_share_9 : decode cX12_share 9 = .ok (.lconst 0, 1) := by decide +kernel
theorem dX12_share_10 : decode cX12_share 10 = .ok (.lconst 1, 1) := by decide +kernel
theorem dX12_share_11 : decode cX12_share 11 = .ok (.invokestatic 65, 3) := by decide +kernel
theorem dX12_share_14 : decode cX12_share 14 = .ok (.ifCond .ne 7, 3) := by decide +kernel
theorem dX12_share_17 : decode cX12_share 17 = .ok (.ldc2_w 79, 3) := by decide +kernel
theorem dX12_share_20 : decode cX12_share 20 = .ok (.lreturn, 1) := by decide +kernel
theorem dX12_share_21 : decode cX12_share 21 = .ok (.aload_n 0, 1) := by decide +kernel
theorem dX12_share_22 : decode cX12_share 22 = .ok (.iconst 0, 1) := by decide +kernel
theorem dX12_share_23 : decode cX12_share 23 = .ok (.lload_n 1, 1) := by decide +kernel
theorem dX12_share_24 : decode cX12_share 24 = .ok (.invokevirtual 75, 3) := by decide +kernel
theorem dX12_share_27 : decode cX12_share 27 = .ok (.lstore 4, 2) := by decide +kernel
theorem dX12_share_29 : decode cX12_share 29 = .ok (.lload 4, 2) := by decide +kernel
theorem dX12_share_31 : decode cX12_share 31 = .ok (.lload_n 1, 1) := by decide +kernel
theorem dX12_share_32 : decode cX12_share 32 = .ok (.invokestatic 132, 3) := by decide +kernel
theorem dX12_share_35 : decode cX12_share 35 = .ok (.lstore 6, 2) := by decide +kernel
theorem dX12_share_37 : decode cX12_share 37 = .ok (.iload_n 3, 1) := by decide +kernel
theorem dX12_share_38 : decode cX12_share 38 = .ok (.ifCond .ne 11, 3) := by decide +kernel
theorem dX12_share_41 : decode cX12_share 41 = .ok (.lload 4, 2) := by decide +kernel
theorem dX12_share_43 : decode cX12_share 43 = .ok (.lload 6, 2) := by decide +kernel
theorem dX12_share_45 : decode cX12_share 45 = .ok (.ldiv, 1) := by decide +kernel
theorem dX12_share_46 : decode cX12_share 46 = .ok (.goto 7, 3) := by decide +kernel
theorem dX12_share_49 : decode cX12_share 49 = .ok (.lload_n 1, 1) := by decide +kernel
theorem dX12_share_50 : decode cX12_share 50 = .ok (.lload 6, 2) := by decide +kernel
theorem dX12_share_52 : decode cX12_share 52 = .ok (.ldiv, 1) := by decide +kernel
theorem dX12_share_53 : decode cX12_share 53 = .ok (.lreturn, 1) := by decide +kernel
set_option maxRecDepth 20000 in
theorem ggX12_friends_X12_in : GoodIn wsX12_friends wsX12_in := goodIn_r _ [6] rfl (by decide +kernel)
set_option maxRecDepth 20000 in
theorem gX12_friends_X12_in : GoodIn wsX12_friends (va_wsS RX12 65 yX12_in wsX12_in) := goodIn_app (goodIn_sub (List.forall_mem_cons.mpr ⟨List.mem_of_getElem? (i := 3) rfl, List.forall_mem_cons.mpr ⟨List.mem_of_getElem? (i := 4) rfl, List.forall_mem_cons.mpr ⟨List.mem_of_getElem? (i := 5) rfl, fun _ h => absurd h List.not_mem_nil⟩⟩⟩) (by decide +kernel)) ggX12_friends_X12_in
set_option maxRecDepth 20000 in
theorem ggX12_friends_X12_isBound : GoodIn wsX12_friends wsX12_isBound := goodIn_r _ [9, 1, 3, 4, 5, 6] rfl (by decide +kernel)
set_option maxRecDepth 20000 in
theorem gX12_friends_X12_isBound : GoodIn wsX12_friends (va_wsS RX12 110 yX12_isBound wsX12_isBound) := goodIn_app (goodIn_sub (List.forall_mem_cons.mpr ⟨List.mem_of_getElem? (i := 7) rfl, List.forall_mem_cons.mpr ⟨List.mem_of_getElem? (i := 8) rfl, List.forall_mem_cons.mpr ⟨List.mem_of_getElem? (i := 5) rfl, fun _ h => absurd h List.not_mem_nil⟩⟩⟩) (by decide +kernel)) ggX12_friends_X12_isBound
set_option maxRecDepth 20000 in
theorem ggX12_friends_X12_layTable : GoodIn wsX12_friends wsX12_layTable := goodIn_r _ [13, 14, 2, 15, 16, 17, 18, 5, 19, 20, 21, 22, 23, 24, 25, 26, 27, 28, 29, 30, 31, 32, 33, 34, 35, 36, 37, 38, 39, 40, 41, 42, 43, 44, 45, 46, 47, 48, 49, 50, 51] rfl (by decide +kernel)
set_option maxRecDepth 20000 in
theorem gX12_friends_X12_layTable : GoodIn wsX12_friends (wsV RX12 114 RX12 yX12_layTable wsX12_layTable) := goodIn_app (goodIn_sub (List.forall_mem_cons.mpr ⟨List.mem_of_getElem? (i := 10) rfl, List.forall_mem_cons.mpr ⟨List.mem_of_getElem? (i := 11) rfl, List.forall_mem_cons.mpr ⟨List.mem_of_getElem? (i := 12) rfl, List.forall_mem_cons.mpr ⟨List.mem_of_getElem? (i := 5) rfl, fun _ h => absurd h List.not_mem_nil⟩⟩⟩⟩) (by decide +kernel)) ggX12_friends_X12_layTable
theorem dX12_friends_0 : decode cX12_friends 0 = .ok (.iload_n 1, 1) := by decide +kernel
theorem dX12_friends_1 : decode cX12_friends 1 = .ok (.i2l, 1) := by decide +kernel
theorem dX12_friends_2 : decode cX12_friends 2 = .ok (.lconst 1, 1) := by decide +kernel
theorem dX12_friends_3 : decode cX12_friends 3 = .ok (.ldc2_w 106, 3) := by decide +kernel
theorem dX12_friends_6 : decode cX12_friends 6 = .ok (.invokestatic 65, 3) := by decide +kernel
theorem dX12_friends_9 : decode cX12_friends 9 = .ok (.ifCond .eq 15, 3) := by decide +kernel
theorem dX12_friends_12 : decode cX12_friends 12 = .ok (.iload_n 2, 1) := by decide +kernel
theorem dX12_friends_13 : decode cX12_friends 13 = .ok (.invokestatic 110, 3) := by decide +kernel
theorem dX12_friends_16 : decode cX12_friends 16 = .ok (.ifCond .eq 8, 3) := by decide +kernel
theorem dX12_friends_19 : decode cX12_friends 19 = .ok (.iload_n 3, 1) := by decide +kernel
theorem dX12_friends_20 : decode cX12_friends 20 = .ok (.iconst (-1), 1) := by decide +kernel
theorem dX12_friends_21 : decode cX12_friends 21 = .ok (.if_icmp .ge 5, 3) := by decide +kernel
theorem dX12_friends_24 : decode cX12_friends 24 = .ok (.iconst (-1), 1) := by decide +kernel
theorem dX12_friends_25 : decode cX12_friends 25 = .ok (.ireturn, 1) := by decide +kernel
theorem dX12_friends_26 : decode cX12_friends 26 = .ok (.aload_n 0, 1) := by decide +kernel
theorem dX12_friends_27 : decode cX12_friends 27 = .ok (.iconst 0, 1) := by decide +kernel
theorem dX12_friends_28 : decode cX12_friends 28 = .ok (.invokevirtual 114, 3) := by decide +kernel
theorem dX12_friends_31 : decode cX12_friends 31 = .ok (.iconst 0, 1) := by decide +kernel
theorem dX12_friends_32 : decode cX12_friends 32 = .ok (.istore 4, 2) := by decide +kernel
theorem dX12_friends_34 : decode cX12_friends 34 = .ok (.iconst 1, 1) := by decide +kernel
theorem dX12_friends_35 : decode cX12_friends 35 = .ok (.istore 5, 2) := by decide +kernel
theorem dX12_friends_37 : decode cX12_friends 37 = .ok (.iload 5, 2) := by decide +kernel
theorem dX12_friends_39 : decode cX12_friends 39 = .ok (.iload_n 2, 1) := by decide +kernel
theorem dX12_friends_40 : decode cX12_friends 40 = .ok (.if_icmp .gt 53, 3) := by decide +kernel
theorem dX12_friends_43 : decode cX12_friends 43 = .ok (.iload 5, 2) := by decide +kernel
theorem dX12_friends_45 : decode cX12_friends 45 = .ok (.iload_n 1, 1) := by decide +kernel
theorem dX12_friends_46 : decode cX12_friends 46 = .ok (.if_icmp .eq 41, 3) := by decide +kernel
theorem dX12_friends_49 : decode cX12_friends 49 = .ok (.aload_n 0, 1) := by decide +kernel
theorem dX12_friends_50 : decode cX12_friends 50 = .ok (.getfield 21, 3) := by decide +kernel
theorem dX12_friends_53 : decode cX12_friends 53 = .ok (.iload 5, 2) := by decide +kernel
theorem dX12_friends_55 : decode cX12_friends 55 = .ok (.iaload, 1) := by decide +kernel
theorem dX12_friends_56 : decode cX12_friends 56 = .ok (.i2l, 1) := by decide +kernel
theorem dX12_friends_57 : decode cX12_friends 57 = .ok (.iload_n 1, 1) := by decide +kernel
theorem dX12_friends_58 : decode cX12_friends 58 = .ok (.i2l, 1) := by decide +kernel
theorem dX12_friends_59 : decode cX12_friends 59 = .ok (.lmul, 1) := by decide +kernel
theorem dX12_friends_60 : decode cX12_friends 60 = .ok (.aload_n 0, 1) := by decide +kernel
theorem dX12_friends_61 : decode cX12_friends 61 = .ok (.getfield 21, 3) := by decide +kernel
theorem dX12_friends_64 : decode cX12_friends 64 = .ok (.iload_n 1, 1) := by decide +kernel
theorem dX12_friends_65 : decode cX12_friends 65 = .ok (.iaload, 1) := by decide +kernel
theorem dX12_friends_66 : decode cX12_friends 66 = .ok (.i2l, 1) := by decide +kernel
theorem dX12_friends_67 : decode cX12_friends 67 = .ok (.iload 5, 2) := by decide +kernel
theorem dX12_friends_69 : decode cX12_friends 69 = .ok (.i2l, 1) := by decide +kernel
theorem dX12_friends_70 : decode cX12_friends 70 = .ok (.lmul, 1) := by decide +kernel
theorem dX12_friends_71 : decode cX12_friends 71 = .ok (.lcmp, 1) := by decide +kernel
theorem dX12_friends_72 : decode cX12_friends 72 = .ok (.ifCond .ne 15, 3) := by decide +kernel
theorem dX12_friends_75 : decode cX12_friends 75 = .ok (.iload 4, 2) := by decide +kernel
theorem dX12_friends_77 : decode cX12_friends 77 = .ok (.iload_n 3, 1) := by decide +kernel
theorem dX12_friends_78 : decode cX12_friends 78 = .ok (.if_icmp .ne 6, 3) := by decide +kernel
theorem dX12_friends_81 : decode cX12_friends 81 = .ok (.iload 5, 2) := by decide +kernel
theorem dX12_friends_83 : decode cX12_friends 83 = .ok (.ireturn, 1) := by decide +kernel
theorem dX12_friends_84 : decode cX12_friends 84 = .ok (.iinc 4 1, 3) := by decide +kernel
theorem dX12_friends_87 : decode cX12_friends 87 = .ok (.iinc 5 1, 3) := by decide +kernel
theorem dX12_friends_90 : decode cX12_friends 90 = .ok (.goto (-53), 3) := by decide +kernel
theorem dX12_friends_93 : decode cX12_friends 93 = .ok (.iload_n 3, 1) := by decide +kernel
theorem dX12_friends_94 : decode cX12_friends 94 = .ok (.ifCond .ge 8, 3) := by decide +kernel
theorem dX12_friends_97 : decode cX12_friends 97 = .ok (.iload 4, 2) := by decide +kernel
theorem dX12_friends_99 : decode cX12_friends 99 = .ok (.goto 5, 3) := by decide +kernel
theorem dX12_friends_102 : decode cX12_friends 102 = .ok (.bipush (-4), 2) := by decide +kernel
theorem dX12_friends_104 : decode cX12_friends 104 = .ok (.ireturn, 1) := by decide +kernel
set_option maxRecDepth 20000 in
theorem ggX12_reached_X12_in : GoodIn wsX12_reached wsX12_in := goodIn_r _ [6] rfl (by decide +kernel)
set_option maxRecDepth 20000 in
theorem gX12_reached_X12_in : GoodIn wsX12_reached (va_wsS RX12 65 yX12_in wsX12_in) := goodIn_app (goodIn_sub (List.forall_mem_cons.mpr ⟨List.mem_of_getElem? (i := 3) rfl, List.forall_mem_cons.mpr ⟨List.mem_of_getElem? (i := 4) rfl, List.forall_mem_cons.mpr ⟨List.mem_of_getElem? (i := 5) rfl, fun _ h => absurd h List.not_mem_nil⟩⟩⟩) (by decide +kernel)) ggX12_reached_X12_in
set_option maxRecDepth 20000 in
theorem ggX12_reached_X12_isBound : GoodIn wsX12_reached wsX12_isBound := goodIn_r _ [9, 10, 3, 4, 5, 6] rfl (by decide +kernel)
set_option maxRecDepth 20000 in
theorem gX12_reached_X12_isBound : GoodIn wsX12_reached (va_wsS RX12 110 yX12_isBound wsX12_isBound) := goodIn_app (goodIn_sub (List.forall_mem_cons.mpr ⟨List.mem_of_getElem? (i := 7) rfl, List.forall_mem_cons.mpr ⟨List.mem_of_getElem? (i := 8) rfl, List.forall_mem_cons.mpr ⟨List.mem_of_getElem? (i := 5) rfl, fun _ h => absurd h List.not_mem_nil⟩⟩⟩) (by decide +kernel)) ggX12_reached_X12_isBound
set_option maxRecDepth 20000 in
theorem ggX12_reached_X12_layTable : GoodIn wsX12_reached wsX12_layTable := goodIn_r _ [14, 15, 2, 16, 17, 18, 19, 5, 20, 21, 22, 23, 24, 25, 26, 27, 28, 29, 30, 31, 32, 33, 34, 35, 36, 37, 38, 39, 40, 41, 42, 43, 44, 45, 46, 47, 48, 49, 50, 51, 52] rfl (by decide +kernel)
set_option maxRecDepth 20000 in
theorem gX12_reached_X12_layTable : GoodIn wsX12_reached (wsV RX12 114 RX12 yX12_layTable wsX12_layTable) := goodIn_app (goodIn_sub (List.forall_mem_cons.mpr ⟨List.mem_of_getElem? (i := 11) rfl, List.forall_mem_cons.mpr ⟨List.mem_of_getElem? (i := 12) rfl, List.forall_mem_cons.mpr ⟨List.mem_of_getElem? (i := 13) rfl, List.forall_mem_cons.mpr ⟨List.mem_of_getElem? (i := 5) rfl, fun _ h => absurd h List.not_mem_nil⟩⟩⟩⟩) (by decide +kernel)) ggX12_reached_X12_layTable
theorem dX12_reached_0 : decode cX12_reached 0 = .ok (.iload_n 1, 1) := by decide +kernel
theorem dX12_reached_1 : decode cX12_reached 1 = .ok (.i2l, 1) := by decide +kernel
theorem dX12_reached_2 : decode cX12_reached 2 = .ok (.lconst 1, 1) := by decide +kernel
theorem dX12_reached_3 : decode cX12_reached 3 = .ok (.ldc2_w 122, 3) := by decide +kernel
theorem dX12_reached_6 : decode cX12_reached 6 = .ok (.invokestatic 65, 3) := by decide +kernel
theorem dX12_reached_9 : decode cX12_reached 9 = .ok (.ifCond .eq 22, 3) := by decide +kernel
theorem dX12_reached_12 : decode cX12_reached 12 = .ok (.iload_n 2, 1) := by decide +kernel
theorem dX12_reached_13 : decode cX12_reached 13 = .ok (.i2l, 1) := by decide +kernel
theorem dX12_reached_14 : decode cX12_reached 14 = .ok (.lconst 1, 1) := by decide +kernel
theorem dX12_reached_15 : decode cX12_reached 15 = .ok (.ldc2_w 122, 3) := by decide +kernel
theorem dX12_reached_18 : decode cX12_reached 18 = .ok (.invokestatic 65, 3) := by decide +kernel
theorem dX12_reached_21 : decode cX12_reached 21 = .ok (.ifCond .eq 10, 3) := by decide +kernel
theorem dX12_reached_24 : decode cX12_reached 24 = .ok (.iload_n 3, 1) := by decide +kernel
theorem dX12_reached_25 : decode cX12_reached 25 = .ok (.invokestatic 110, 3) := by decide +kernel
theorem dX12_reached_28 : decode cX12_reached 28 = .ok (.ifCond .ne 5, 3) := by decide +kernel
theorem dX12_reached_31 : decode cX12_reached 31 = .ok (.iconst (-1), 1) := by decide +kernel
theorem dX12_reached_32 : decode cX12_reached 32 = .ok (.ireturn, 1) := by decide +kernel
theorem dX12_reached_33 : decode cX12_reached 33 = .ok (.aload_n 0, 1) := by decide +kernel
theorem dX12_reached_34 : decode cX12_reached 34 = .ok (.iconst 0, 1) := by decide +kernel
theorem dX12_reached_35 : decode cX12_reached 35 = .ok (.invokevirtual 114, 3) := by decide +kernel
theorem dX12_reached_38 : decode cX12_reached 38 = .ok (.iconst 1, 1) := by decide +kernel
theorem dX12_reached_39 : decode cX12_reached 39 = .ok (.istore 4, 2) := by decide +kernel
theorem dX12_reached_41 : decode cX12_reached 41 = .ok (.iload 4, 2) := by decide +kernel
theorem dX12_reached_43 : decode cX12_reached 43 = .ok (.iload_n 3, 1) := by decide +kernel
theorem dX12_reached_44 : decode cX12_reached 44 = .ok (.if_icmp .gt 33, 3) := by decide +kernel
theorem dX12_reached_47 : decode cX12_reached 47 = .ok (.aload_n 0, 1) := by decide +kernel
theorem dX12_reached_48 : decode cX12_reached 48 = .ok (.getfield 21, 3) := by decide +kernel
theorem dX12_reached_51 : decode cX12_reached 51 = .ok (.iload 4, 2) := by decide +kernel
theorem dX12_reached_53 : decode cX12_reached 53 = .ok (.iaload, 1) := by decide +kernel
theorem dX12_reached_54 : decode cX12_reached 54 = .ok (.i2l, 1) := by decide +kernel
theorem dX12_reached_55 : decode cX12_reached 55 = .ok (.iload_n 2, 1) := by decide +kernel
theorem dX12_reached_56 : decode cX12_reached 56 = .ok (.i2l, 1) := by decide +kernel
theorem dX12_reached_57 : decode cX12_reached 57 = .ok (.lmul, 1) := by decide +kernel
theorem dX12_reached_58 : decode cX12_reached 58 = .ok (.iload_n 1, 1) := by decide +kernel
theorem dX12_reached_59 : decode cX12_reached 59 = .ok (.i2l, 1) := by decide +kernel
theorem dX12_reached_60 : decode cX12_reached 60 = .ok (.iload 4, 2) := by decide +kernel
theorem dX12_reached_62 : decode cX12_reached 62 = .ok (.i2l, 1) := by decide +kernel
theorem dX12_reached_63 : decode cX12_reached 63 = .ok (.lmul, 1) := by decide +kernel
theorem dX12_reached_64 : decode cX12_reached 64 = .ok (.lcmp, 1) := by decide +kernel
theorem dX12_reached_65 : decode cX12_reached 65 = .ok (.ifCond .lt 6, 3) := by decide +kernel
theorem dX12_reached_68 : decode cX12_reached 68 = .ok (.iload 4, 2) := by decide +kernel
theorem dX12_reached_70 : decode cX12_reached 70 = .ok (.ireturn, 1) := by decide +kernel
theorem dX12_reached_71 : decode cX12_reached 71 = .ok (.iinc 4 1, 3) := by decide +kernel
theorem dX12_reached_74 : decode cX12_reached 74 = .ok (.goto (-33), 3) := by decide +kernel
theorem dX12_reached_77 : decode cX12_reached 77 = .ok (.bipush (-4), 2) := by decide +kernel
theorem dX12_reached_79 : decode cX12_reached 79 = .ok (.ireturn, 1) := by decide +kernel
set_option maxRecDepth 20000 in
theorem ggX12_records_X12_in : GoodIn wsX12_records wsX12_in := goodIn_r _ [5] rfl (by decide +kernel)
set_option maxRecDepth 20000 in
theorem gX12_records_X12_in : GoodIn wsX12_records (va_wsS RX12 65 yX12_in wsX12_in) := goodIn_app (goodIn_sub (List.forall_mem_cons.mpr ⟨List.mem_of_getElem? (i := 2) rfl, List.forall_mem_cons.mpr ⟨List.mem_of_getElem? (i := 3) rfl, List.forall_mem_cons.mpr ⟨List.mem_of_getElem? (i := 4) rfl, fun _ h => absurd h List.not_mem_nil⟩⟩⟩) (by decide +kernel)) ggX12_records_X12_in
set_option maxRecDepth 20000 in
theorem ggX12_records_X12_isBound : GoodIn wsX12_records wsX12_isBound := goodIn_r _ [8, 9, 2, 3, 4, 5] rfl (by decide +kernel)
set_option maxRecDepth 20000 in
theorem gX12_records_X12_isBound : GoodIn wsX12_records (va_wsS RX12 110 yX12_isBound wsX12_isBound) := goodIn_app (goodIn_sub (List.forall_mem_cons.mpr ⟨List.mem_of_getElem? (i := 6) rfl, List.forall_mem_cons.mpr ⟨List.mem_of_getElem? (i := 7) rfl, List.forall_mem_cons.mpr ⟨List.mem_of_getElem? (i := 4) rfl, fun _ h => absurd h List.not_mem_nil⟩⟩⟩) (by decide +kernel)) ggX12_records_X12_isBound
set_option maxRecDepth 20000 in
theorem ggX12_records_X12_layTable : GoodIn wsX12_records wsX12_layTable := goodIn_r _ [13, 14, 1, 15, 16, 17, 18, 4, 19, 20, 21, 22, 23, 24, 25, 26, 27, 28, 29, 30, 31, 32, 33, 34, 35, 36, 37, 38, 39, 40, 41, 42, 43, 44, 45, 46, 47, 48, 49, 50, 51] rfl (by decide +kernel)
set_option maxRecDepth 20000 in
theorem gX12_records_X12_layTable : GoodIn wsX12_records (wsV RX12 114 RX12 yX12_layTable wsX12_layTable) := goodIn_app (goodIn_sub (List.forall_mem_cons.mpr ⟨List.mem_of_getElem? (i := 10) rfl, List.forall_mem_cons.mpr ⟨List.mem_of_getElem? (i := 11) rfl, List.forall_mem_cons.mpr ⟨List.mem_of_getElem? (i := 12) rfl, List.forall_mem_cons.mpr ⟨List.mem_of_getElem? (i := 4) rfl, fun _ h => absurd h List.not_mem_nil⟩⟩⟩⟩) (by decide +kernel)) ggX12_records_X12_layTable
theorem dX12_records_0 : decode cX12_records 0 = .ok (.iload_n 1, 1) := by decide +kernel
theorem dX12_records_1 : decode cX12_records 1 = .ok (.i2l, 1) := by decide +kernel
theorem dX12_records_2 : decode cX12_records 2 = .ok (.lconst 0, 1) := by decide +kernel
theorem dX12_records_3 : decode cX12_records 3 = .ok (.lconst 1, 1) := by decide +kernel
theorem dX12_records_4 : decode cX12_records 4 = .ok (.invokestatic 65, 3) := by decide +kernel
theorem dX12_records_7 : decode cX12_records 7 = .ok (.ifCond .eq 15, 3) := by decide +kernel
theorem dX12_records_10 : decode cX12_records 10 = .ok (.iload_n 2, 1) := by decide +kernel
theorem dX12_records_11 : decode cX12_records 11 = .ok (.invokestatic 110, 3) := by decide +kernel
theorem dX12_records_14 : decode cX12_records 14 = .ok (.ifCond .eq 8, 3) := by decide +kernel
theorem dX12_records_17 : decode cX12_records 17 = .ok (.iload_n 3, 1) := by decide +kernel
theorem dX12_records_18 : decode cX12_records 18 = .ok (.iconst (-1), 1) := by decide +kernel
theorem dX12_records_19 : decode cX12_records 19 = .ok (.if_icmp .ge 5, 3) := by decide +kernel
theorem dX12_records_22 : decode cX12_records 22 = .ok (.iconst (-1), 1) := by decide +kernel
theorem dX12_records_23 : decode cX12_records 23 = .ok (.ireturn, 1) := by decide +kernel
theorem dX12_records_24 : decode cX12_records 24 = .ok (.aload_n 0, 1) := by decide +kernel
theorem dX12_records_25 : decode cX12_records 25 = .ok (.iconst 0, 1) := by decide +kernel
theorem dX12_records_26 : decode cX12_records 26 = .ok (.invokevirtual 114, 3) := by decide +kernel
theorem dX12_records_29 : decode cX12_records 29 = .ok (.iconst 0, 1) := by decide +kernel
theorem dX12_records_30 : decode cX12_records 30 = .ok (.istore 4, 2) := by decide +kernel
theorem dX12_records_32 : decode cX12_records 32 = .ok (.iconst 0, 1) := by decide +kernel
theorem dX12_records_33 : decode cX12_records 33 = .ok (.istore 5, 2) := by decide +kernel
theorem dX12_records_35 : decode cX12_records 35 = .ok (.iconst 1, 1) := by decide +kernel
theorem dX12_records_36 : decode cX12_records 36 = .ok (.istore 6, 2) := by decide +kernel
theorem dX12_records_38 : decode cX12_records 38 = .ok (.iload 6, 2) := by decide +kernel
theorem dX12_records_40 : decode cX12_records 40 = .ok (.iload_n 2, 1) := by decide +kernel
theorem dX12_records_41 : decode cX12_records 41 = .ok (.if_icmp .gt 94, 3) := by decide +kernel
theorem dX12_records_44 : decode cX12_records 44 = .ok (.iload 5, 2) := by decide +kernel
theorem dX12_records_46 : decode cX12_records 46 = .ok (.ifCond .eq 55, 3) := by decide +kernel
theorem dX12_records_49 : decode cX12_records 49 = .ok (.iload_n 1, 1) := by decide +kernel
theorem dX12_records_50 : decode cX12_records 50 = .ok (.ifCond .ne 23, 3) := by decide +kernel
theorem dX12_records_53 : decode cX12_records 53 = .ok (.aload_n 0, 1) := by decide +kernel
theorem dX12_records_54 : decode cX12_records 54 = .ok (.getfield 21, 3) := by decide +kernel
theorem dX12_records_57 : decode cX12_records 57 = .ok (.iload 6, 2) := by decide +kernel
theorem dX12_records_59 : decode cX12_records 59 = .ok (.iaload, 1) := by decide +kernel
theorem dX12_records_60 : decode cX12_records 60 = .ok (.aload_n 0, 1) := by decide +kernel
theorem dX12_records_61 : decode cX12_records 61 = .ok (.getfield 21, 3) := by decide +kernel
theorem dX12_records_64 : decode cX12_records 64 = .ok (.iload 5, 2) := by decide +kernel
theorem dX12_records_66 : decode cX12_records 66 = .ok (.iaload, 1) := by decide +kernel
theorem dX12_records_67 : decode cX12_records 67 = .ok (.if_icmp .le 38, 3) := by decide +kernel
theorem dX12_records_70 : decode cX12_records 70 = .ok (.goto 31, 3) := by decide +kernel
theorem dX12_records_73 : decode cX12_records 73 = .ok (.aload_n 0, 1) := by decide +kernel
theorem dX12_records_74 : decode cX12_records 74 = .ok (.getfield 21, 3) := by decide +kernel
theorem dX12_records_77 : decode cX12_records 77 = .ok (.iload 6, 2) := by decide +kernel
theorem dX12_records_79 : decode cX12_records 79 = .ok (.iaload, 1) := by decide +kernel
theorem dX12_records_80 : decode cX12_records 80 = .ok (.i2l, 1) := by decide +kernel
theorem dX12_records_81 : decode cX12_records 81 = .ok (.iload 5, 2) := by decide +kernel
theorem dX12_records_83 : decode cX12_records 83 = .ok (.i2l, 1) := by decide +kernel
theorem dX12_records_84 : decode cX12_records 84 = .ok (.lmul, 1) := by decide +kernel
theorem dX12_records_85 : decode cX12_records 85 = .ok (.aload_n 0, 1) := by decide +kernel
theorem dX12_records_86 : decode cX12_records 86 = .ok (.getfield 21, 3) := by decide +kernel
theorem dX12_records_89 : decode cX12_records 89 = .ok (.iload 5, 2) := by decide +kernel
theorem dX12_records_91 : decode cX12_records 91 = .ok (.iaload, 1) := by decide +kernel
theorem dX12_records_92 : decode cX12_records 92 = .ok (.i2l, 1) := by decide +kernel
theorem dX12_records_93 : decode cX12_records 93 = .ok (.iload 6, 2) := by decide +kernel
theorem dX12_records_95 : decode cX12_records 95 = .ok (.i2l, 1) := by decide +kernel
theorem dX12_records_96 : decode cX12_records 96 = .ok (.lmul, 1) := by decide +kernel
theorem dX12_records_97 : decode cX12_records 97 = .ok (.lcmp, 1) := by decide +kernel
theorem dX12_records_98 : decode cX12_records 98 = .ok (.ifCond .le 7, 3) := by decide +kernel
theorem dX12_records_101 : decode cX12_records 101 = .ok (.iconst 1, 1) := by decide +kernel
theorem dX12_records_102 : decode cX12_records 102 = .ok (.goto 4, 3) := by decide +kernel
theorem dX12_records_105 : decode cX12_records 105 = .ok (.iconst 0, 1) := by decide +kernel
theorem dX12_records_106 : decode cX12_records 106 = .ok (.istore 7, 2) := by decide +kernel
theorem dX12_records_108 : decode cX12_records 108 = .ok (.iload 7, 2) := by decide +kernel
theorem dX12_records_110 : decode cX12_records 110 = .ok (.ifCond .eq 19, 3) := by decide +kernel
theorem dX12_records_113 : decode cX12_records 113 = .ok (.iload 6, 2) := by decide +kernel
theorem dX12_records_115 : decode cX12_records 115 = .ok (.istore 5, 2) := by decide +kernel
theorem dX12_records_117 : decode cX12_records 117 = .ok (.iload 4, 2) := by decide +kernel
theorem dX12_records_119 : decode cX12_records 119 = .ok (.iload_n 3, 1) := by decide +kernel
theorem dX12_records_120 : decode cX12_records 120 = .ok (.if_icmp .ne 6, 3) := by decide +kernel
theorem dX12_records_123 : decode cX12_records 123 = .ok (.iload 6, 2) := by decide +kernel
theorem dX12_records_125 : decode cX12_records 125 = .ok (.ireturn, 1) := by decide +kernel
theorem dX12_records_126 : decode cX12_records 126 = .ok (.iinc 4 1, 3) := by decide +kernel
theorem dX12_records_129 : decode cX12_records 129 = .ok (.iinc 6 1, 3) := by decide +kernel
theorem dX12_records_132 : decode cX12_records 132 = .ok (.goto (-94), 3) := by decide +kernel
theorem dX12_records_135 : decode cX12_records 135 = .ok (.iload_n 3, 1) := by decide +kernel
theorem dX12_records_136 : decode cX12_records 136 = .ok (.ifCond .ge 8, 3) := by decide +kernel
theorem dX12_records_139 : decode cX12_records 139 = .ok (.iload 4, 2) := by decide +kernel
theorem dX12_records_141 : decode cX12_records 141 = .ok (.goto 5, 3) := by decide +kernel
theorem dX12_records_144 : decode cX12_records 144 = .ok (.bipush (-4), 2) := by decide +kernel
theorem dX12_records_146 : decode cX12_records 146 = .ok (.ireturn, 1) := by decide +kernel
theorem dX12_weigh_0 : decode cX12_weigh 0 = .ok (.aload_n 0, 1) := by decide +kernel
theorem dX12_weigh_1 : decode cX12_weigh 1 = .ok (.getfield 21, 3) := by decide +kernel
theorem dX12_weigh_4 : decode cX12_weigh 4 = .ok (.iload_n 1, 1) := by decide +kernel
theorem dX12_weigh_5 : decode cX12_weigh 5 = .ok (.iaload, 1) := by decide +kernel
theorem dX12_weigh_6 : decode cX12_weigh 6 = .ok (.iload_n 1, 1) := by decide +kernel
theorem dX12_weigh_7 : decode cX12_weigh 7 = .ok (.isub, 1) := by decide +kernel
theorem dX12_weigh_8 : decode cX12_weigh 8 = .ok (.istore_n 2, 1) := by decide +kernel
theorem dX12_weigh_9 : decode cX12_weigh 9 = .ok (.iload_n 2, 1) := by decide +kernel
theorem dX12_weigh_10 : decode cX12_weigh 10 = .ok (.iload_n 1, 1) := by decide +kernel
theorem dX12_weigh_11 : decode cX12_weigh 11 = .ok (.if_icmp .ge 7, 3) := by decide +kernel
theorem dX12_weigh_14 : decode cX12_weigh 14 = .ok (.iconst 0, 1) := by decide +kernel
theorem dX12_weigh_15 : decode cX12_weigh 15 = .ok (.goto 13, 3) := by decide +kernel
theorem dX12_weigh_18 : decode cX12_weigh 18 = .ok (.iload_n 2, 1) := by decide +kernel
theorem dX12_weigh_19 : decode cX12_weigh 19 = .ok (.iload_n 1, 1) := by decide +kernel
theorem dX12_weigh_20 : decode cX12_weigh 20 = .ok (.if_icmp .ne 7, 3) := by decide +kernel
theorem dX12_weigh_23 : decode cX12_weigh 23 = .ok (.iconst 1, 1) := by decide +kernel
theorem dX12_weigh_24 : decode cX12_weigh 24 = .ok (.goto 4, 3) := by decide +kernel
theorem dX12_weigh_27 : decode cX12_weigh 27 = .ok (.iconst 2, 1) := by decide +kernel
theorem dX12_weigh_28 : decode cX12_weigh 28 = .ok (.ireturn, 1) := by decide +kernel
set_option maxRecDepth 20000 in
theorem ggX12_sortOf_X12_weigh : GoodIn wsX12_sortOf wsX12_weigh := goodIn_r _ [5, 6, 7, 8, 9, 10, 11, 12, 13, 14, 15, 16, 17, 18, 19, 20, 21, 22, 23, 24, 25, 26, 27] rfl (by decide +kernel)
set_option maxRecDepth 20000 in
theorem gX12_sortOf_X12_weigh : GoodIn wsX12_sortOf (wsV RX12 136 RX12 yX12_weigh wsX12_weigh) := goodIn_app (goodIn_sub (List.forall_mem_cons.mpr ⟨List.mem_of_getElem? (i := 1) rfl, List.forall_mem_cons.mpr ⟨List.mem_of_getElem? (i := 2) rfl, List.forall_mem_cons.mpr ⟨List.mem_of_getElem? (i := 3) rfl, List.forall_mem_cons.mpr ⟨List.mem_of_getElem? (i := 4) rfl, fun _ h => absurd h List.not_mem_nil⟩⟩⟩⟩) (by decide +kernel)) ggX12_sortOf_X12_weigh
theorem dX12_sortOf_0 : decode cX12_sortOf 0 = .ok (.aload_n 0, 1) := by decide +kernel
theorem dX12_sortOf_1 : decode cX12_sortOf 1 = .ok (.iload_n 1, 1) := by decide +kernel
theorem dX12_sortOf_2 : decode cX12_sortOf 2 = .ok (.invokevirtual 136, 3) := by decide +kernel
theorem dX12_sortOf_5 : decode cX12_sortOf 5 = .ok (.istore_n 2, 1) := by decide +kernel
theorem dX12_sortOf_6 : decode cX12_sortOf 6 = .ok (.iload_n 2, 1) := by decide +kernel
theorem dX12_sortOf_7 : decode cX12_sortOf 7 = .ok (.iconst 2, 1) := by decide +kernel
theorem dX12_sortOf_8 : decode cX12_sortOf 8 = .ok (.if_icmp .ge 5, 3) := by decide +kernel
theorem dX12_sortOf_11 : decode cX12_sortOf 11 = .ok (.iload_n 2, 1) := by decide +kernel
theorem dX12_sortOf_12 : decode cX12_sortOf 12 = .ok (.ireturn, 1) := by decide +kernel
theorem dX12_sortOf_13 : decode cX12_sortOf 13 = .ok (.iconst 2, 1) := by decide +kernel
theorem dX12_sortOf_14 : decode cX12_sortOf 14 = .ok (.istore_n 3, 1) := by decide +kernel
theorem dX12_sortOf_15 : decode cX12_sortOf 15 = .ok (.iload_n 3, 1) := by decide +kernel
theorem dX12_sortOf_16 : decode cX12_sortOf 16 = .ok (.iload_n 1, 1) := by decide +kernel
theorem dX12_sortOf_17 : decode cX12_sortOf 17 = .ok (.iconst 2, 1) := by decide +kernel
theorem dX12_sortOf_18 : decode cX12_sortOf 18 = .ok (.idiv, 1) := by decide +kernel
theorem dX12_sortOf_19 : decode cX12_sortOf 19 = .ok (.if_icmp .gt 26, 3) := by decide +kernel
theorem dX12_sortOf_22 : decode cX12_sortOf 22 = .ok (.iload_n 1, 1) := by decide +kernel
theorem dX12_sortOf_23 : decode cX12_sortOf 23 = .ok (.iload_n 3, 1) := by decide +kernel
theorem dX12_sortOf_24 : decode cX12_sortOf 24 = .ok (.irem, 1) := by decide +kernel
theorem dX12_sortOf_25 : decode cX12_sortOf 25 = .ok (.ifCond .ne 14, 3) := by decide +kernel
theorem dX12_sortOf_28 : decode cX12_sortOf 28 = .ok (.aload_n 0, 1) := by decide +kernel
theorem dX12_sortOf_29 : decode cX12_sortOf 29 = .ok (.iload_n 3, 1) := by decide +kernel
theorem dX12_sortOf_30 : decode cX12_sortOf 30 = .ok (.invokevirtual 136, 3) := by decide +kernel
theorem dX12_sortOf_33 : decode cX12_sortOf 33 = .ok (.iconst 2, 1) := by decide +kernel
theorem dX12_sortOf_34 : decode cX12_sortOf 34 = .ok (.if_icmp .ne 5, 3) := by decide +kernel
theorem dX12_sortOf_37 : decode cX12_sortOf 37 = .ok (.iconst 2, 1) := by decide +kernel
theorem dX12_sortOf_38 : decode cX12_sortOf 38 = .ok (.ireturn, 1) := by decide +kernel
theorem dX12_sortOf_39 : decode cX12_sortOf 39 = .ok (.iinc 3 1, 3) := by decide +kernel
theorem dX12_sortOf_42 : decode cX12_sortOf 42 = .ok (.goto (-27), 3) := by decide +kernel
theorem dX12_sortOf_45 : decode cX12_sortOf 45 = .ok (.iconst 3, 1) := by decide +kernel
theorem dX12_sortOf_46 : decode cX12_sortOf 46 = .ok (.ireturn, 1) := by decide +kernel
set_option maxRecDepth 20000 in
theorem ggX12_sort_X12_in : GoodIn wsX12_sort wsX12_in := goodIn_r _ [5] rfl (by decide +kernel)
set_option maxRecDepth 20000 in
theorem gX12_sort_X12_in : GoodIn wsX12_sort (va_wsS RX12 65 yX12_in wsX12_in) := goodIn_app (goodIn_sub (List.forall_mem_cons.mpr ⟨List.mem_of_getElem? (i := 2) rfl, List.forall_mem_cons.mpr ⟨List.mem_of_getElem? (i := 3) rfl, List.forall_mem_cons.mpr ⟨List.mem_of_getElem? (i := 4) rfl, fun _ h => absurd h List.not_mem_nil⟩⟩⟩) (by decide +kernel)) ggX12_sort_X12_in
set_option maxRecDepth 20000 in
theorem ggX12_sort_X12_layTable : GoodIn wsX12_sort wsX12_layTable := goodIn_r _ [9, 10, 11, 12, 13, 14, 15, 4, 16, 17, 18, 19, 20, 21, 22, 23, 24, 25, 26, 27, 36, 37, 38, 39, 40, 41, 42, 43, 44, 45, 46, 47, 48, 49, 50, 51, 52, 53, 54, 55, 56] rfl (by decide +kernel)
set_option maxRecDepth 20000 in
theorem gX12_sort_X12_layTable : GoodIn wsX12_sort (wsV RX12 114 RX12 yX12_layTable wsX12_layTable) := goodIn_app (goodIn_sub (List.forall_mem_cons.mpr ⟨List.mem_of_getElem? (i := 6) rfl, List.forall_mem_cons.mpr ⟨List.mem_of_getElem? (i := 7) rfl, List.forall_mem_cons.mpr ⟨List.mem_of_getElem? (i := 8) rfl, List.forall_mem_cons.mpr ⟨List.mem_of_getElem? (i := 4) rfl, fun _ h => absurd h List.not_mem_nil⟩⟩⟩⟩) (by decide +kernel)) ggX12_sort_X12_layTable
set_option maxRecDepth 20000 in
theorem ggX12_sort_X12_sortOf : GoodIn wsX12_sort wsX12_sortOf := goodIn_r _ [31, 32, 33, 34, 4, 35, 11, 36, 37, 38, 39, 40, 41, 42, 43, 44, 45, 46, 47, 48, 49, 50, 51, 52, 53, 54, 55, 56] rfl (by decide +kernel)
set_option maxRecDepth 20000 in
theorem gX12_sort_X12_sortOf : GoodIn wsX12_sort (wsV RX12 140 RX12 yX12_sortOf wsX12_sortOf) := goodIn_app (goodIn_sub (List.forall_mem_cons.mpr ⟨List.mem_of_getElem? (i := 28) rfl, List.forall_mem_cons.mpr ⟨List.mem_of_getElem? (i := 29) rfl, List.forall_mem_cons.mpr ⟨List.mem_of_getElem? (i := 30) rfl, List.forall_mem_cons.mpr ⟨List.mem_of_getElem? (i := 4) rfl, fun _ h => absurd h List.not_mem_nil⟩⟩⟩⟩) (by decide +kernel)) ggX12_sort_X12_sortOf
theorem dX12_sort_0 : decode cX12_sort 0 = .ok (.iload_n 1, 1) := by decide +kernel
theorem dX12_sort_1 : decode cX12_sort 1 = .ok (.i2l, 1) := by decide +kernel
theorem dX12_sort_2 : decode cX12_sort 2 = .ok (.lconst 1, 1) := by decide +kernel
theorem dX12_sort_3 : decode cX12_sort 3 = .ok (.ldc2_w 106, 3) := by decide +kernel
theorem dX12_sort_6 : decode cX12_sort 6 = .ok (.invokestatic 65, 3) := by decide +kernel
theorem dX12_sort_9 : decode cX12_sort 9 = .ok (.ifCond .ne 5, 3) := by decide +kernel
theorem dX12_sort_12 : decode cX12_sort 12 = .ok (.iconst (-1), 1) := by decide +kernel
theorem dX12_sort_13 : decode cX12_sort 13 = .ok (.ireturn, 1) := by decide +kernel
theorem dX12_sort_14 : decode cX12_sort 14 = .ok (.aload_n 0, 1) := by decide +kernel
theorem dX12_sort_15 : decode cX12_sort 15 = .ok (.iconst 0, 1) := by decide +kernel
theorem dX12_sort_16 : decode cX12_sort 16 = .ok (.invokevirtual 114, 3) := by decide +kernel
theorem dX12_sort_19 : decode cX12_sort 19 = .ok (.aload_n 0, 1) := by decide +kernel
theorem dX12_sort_20 : decode cX12_sort 20 = .ok (.iload_n 1, 1) := by decide +kernel
theorem dX12_sort_21 : decode cX12_sort 21 = .ok (.invokevirtual 140, 3) := by decide +kernel
theorem dX12_sort_24 : decode cX12_sort 24 = .ok (.ireturn, 1) := by decide +kernel
set_option maxRecDepth 20000 in
theorem ggX12_made_X12_in : GoodIn wsX12_made wsX12_in := goodIn_r _ [7] rfl (by decide +kernel)
set_option maxRecDepth 20000 in
theorem gX12_made_X12_in : GoodIn wsX12_made (va_wsS RX12 65 yX12_in wsX12_in) := goodIn_app (goodIn_sub (List.forall_mem_cons.mpr ⟨List.mem_of_getElem? (i := 4) rfl, List.forall_mem_cons.mpr ⟨List.mem_of_getElem? (i := 5) rfl, List.forall_mem_cons.mpr ⟨List.mem_of_getElem? (i := 6) rfl, fun _ h => absurd h List.not_mem_nil⟩⟩⟩) (by decide +kernel)) ggX12_made_X12_in
theorem dX12_made_0 : decode cX12_made 0 = .ok (.iload_n 1, 1) := by decide +kernel
theorem dX12_made_1 : decode cX12_made 1 = .ok (.i2l, 1) := by decide +kernel
theorem dX12_made_2 : decode cX12_made 2 = .ok (.lconst 1, 1) := by decide +kernel
theorem dX12_made_3 : decode cX12_made 3 = .ok (.ldc2_w 143, 3) := by decide +kernel
theorem dX12_made_6 : decode cX12_made 6 = .ok (.invokestatic 65, 3) := by decide +kernel
theorem dX12_made_9 : decode cX12_made 9 = .ok (.ifCond .ne 5, 3) := by decide +kernel
theorem dX12_made_12 : decode cX12_made 12 = .ok (.iconst (-1), 1) := by decide +kernel
theorem dX12_made_13 : decode cX12_made 13 = .ok (.ireturn, 1) := by decide +kernel
theorem dX12_made_14 : decode cX12_made 14 = .ok (.iconst 1, 1) := by decide +kernel
theorem dX12_made_15 : decode cX12_made 15 = .ok (.istore_n 2, 1) := by decide +kernel
theorem dX12_made_16 : decode cX12_made 16 = .ok (.iload_n 2, 1) := by decide +kernel
theorem dX12_made_17 : decode cX12_made 17 = .ok (.iload_n 1, 1) := by decide +kernel
theorem dX12_made_18 : decode cX12_made 18 = .ok (.if_icmp .gt 17, 3) := by decide +kernel
theorem dX12_made_21 : decode cX12_made 21 = .ok (.aload_n 0, 1) := by decide +kernel
theorem dX12_made_22 : decode cX12_made 22 = .ok (.getfield 27, 3) := by decide +kernel
theorem dX12_made_25 : decode cX12_made 25 = .ok (.iload_n 2, 1) := by decide +kernel
theorem dX12_made_26 : decode cX12_made 26 = .ok (.ldc 145, 2) := by decide +kernel
theorem dX12_made_28 : decode cX12_made 28 = .ok (.iastore, 1) := by decide +kernel
theorem dX12_made_29 : decode cX12_made 29 = .ok (.iinc 2 1, 3) := by decide +kernel
theorem dX12_made_32 : decode cX12_made 32 = .ok (.goto (-16), 3) := by decide +kernel
theorem dX12_made_35 : decode cX12_made 35 = .ok (.aload_n 0, 1) := by decide +kernel
theorem dX12_made_36 : decode cX12_made 36 = .ok (.getfield 27, 3) := by decide +kernel
theorem dX12_made_39 : decode cX12_made 39 = .ok (.iconst 0, 1) := by decide +kernel
theorem dX12_made_40 : decode cX12_made 40 = .ok (.iconst 0, 1) := by decide +kernel
theorem dX12_made_41 : decode cX12_made 41 = .ok (.iastore, 1) := by decide +kernel
theorem dX12_made_42 : decode cX12_made 42 = .ok (.iconst 1, 1) := by decide +kernel
theorem dX12_made_43 : decode cX12_made 43 = .ok (.istore_n 2, 1) := by decide +kernel
theorem dX12_made_44 : decode cX12_made 44 = .ok (.iload_n 2, 1) := by decide +kernel
theorem dX12_made_45 : decode cX12_made 45 = .ok (.iload_n 1, 1) := by decide +kernel
theorem dX12_made_46 : decode cX12_made 46 = .ok (.if_icmp .ge 68, 3) := by decide +kernel
theorem dX12_made_49 : decode cX12_made 49 = .ok (.iload_n 1, 1) := by decide +kernel
theorem dX12_made_50 : decode cX12_made 50 = .ok (.iload_n 2, 1) := by decide +kernel
theorem dX12_made_51 : decode cX12_made 51 = .ok (.irem, 1) := by decide +kernel
theorem dX12_made_52 : decode cX12_made 52 = .ok (.ifCond .ne 56, 3) := by decide +kernel
theorem dX12_made_55 : decode cX12_made 55 = .ok (.iload_n 1, 1) := by decide +kernel
theorem dX12_made_56 : decode cX12_made 56 = .ok (.istore_n 3, 1) := by decide +kernel
theorem dX12_made_57 : decode cX12_made 57 = .ok (.iload_n 3, 1) := by decide +kernel
theorem dX12_made_58 : decode cX12_made 58 = .ok (.iload_n 2, 1) := by decide +kernel
theorem dX12_made_59 : decode cX12_made 59 = .ok (.if_icmp .lt 49, 3) := by decide +kernel
theorem dX12_made_62 : decode cX12_made 62 = .ok (.aload_n 0, 1) := by decide +kernel
theorem dX12_made_63 : decode cX12_made 63 = .ok (.getfield 27, 3) := by decide +kernel
theorem dX12_made_66 : decode cX12_made 66 = .ok (.iload_n 3, 1) := by decide +kernel
theorem dX12_made_67 : decode cX12_made 67 = .ok (.iload_n 2, 1) := by decide +kernel
theorem dX12_made_68 : decode cX12_made 68 = .ok (.isub, 1) := by decide +kernel
theorem dX12_made_69 : decode cX12_made 69 = .ok (.iaload, 1) := by decide +kernel
theorem dX12_made_70 : decode cX12_made 70 = .ok (.iconst 1, 1) := by decide +kernel
theorem dX12_made_71 : decode cX12_made 71 = .ok (.iadd, 1) := by decide +kernel
theorem dX12_made_72 : decode cX12_made 72 = .ok (.istore 4, 2) := by decide +kernel
theorem dX12_made_74 : decode cX12_made 74 = .ok (.aload_n 0, 1) := by decide +kernel
theorem dX12_made_75 : decode cX12_made 75 = .ok (.getfield 27, 3) := by decide +kernel
theorem dX12_made_78 : decode cX12_made 78 = .ok (.iload_n 3, 1) := by decide +kernel
theorem dX12_made_79 : decode cX12_made 79 = .ok (.iload 4, 2) := by decide +kernel
theorem dX12_made_81 : decode cX12_made 81 = .ok (.aload_n 0, 1) := by decide +kernel
theorem dX12_made_82 : decode cX12_made 82 = .ok (.getfield 27, 3) := by decide +kernel
theorem dX12_made_85 : decode cX12_made 85 = .ok (.iload_n 3, 1) := by decide +kernel
theorem dX12_made_86 : decode cX12_made 86 = .ok (.iaload, 1) := by decide +kernel
theorem dX12_made_87 : decode cX12_made 87 = .ok (.if_icmp .ge 8, 3) := by decide +kernel
theorem dX12_made_90 : decode cX12_made 90 = .ok (.iload 4, 2) := by decide +kernel
theorem dX12_made_92 : decode cX12_made 92 = .ok (.goto 9, 3) := by decide +kernel
theorem dX12_made_95 : decode cX12_made 95 = .ok (.aload_n 0, 1) := by decide +kernel
theorem dX12_made_96 : decode cX12_made 96 = .ok (.getfield 27, 3) := by decide +kernel
theorem dX12_made_99 : decode cX12_made 99 = .ok (.iload_n 3, 1) := by decide +kernel
theorem dX12_made_100 : decode cX12_made 100 = .ok (.iaload, 1) := by decide +kernel
theorem dX12_made_101 : decode cX12_made 101 = .ok (.iastore, 1) := by decide +kernel
theorem dX12_made_102 : decode cX12_made 102 = .ok (.iinc 3 (-1), 3) := by decide +kernel
theorem dX12_made_105 : decode cX12_made 105 = .ok (.goto (-48), 3) := by decide +kernel
theorem dX12_made_108 : decode cX12_made 108 = .ok (.iinc 2 1, 3) := by decide +kernel
theorem dX12_made_111 : decode cX12_made 111 = .ok (.goto (-67), 3) := by decide +kernel
theorem dX12_made_114 : decode cX12_made 114 = .ok (.aload_n 0, 1) := by decide +kernel
theorem dX12_made_115 : decode cX12_made 115 = .ok (.getfield 27, 3) := by decide +kernel
theorem dX12_made_118 : decode cX12_made 118 = .ok (.iload_n 1, 1) := by decide +kernel
theorem dX12_made_119 : decode cX12_made 119 = .ok (.iaload, 1) := by decide +kernel
theorem dX12_made_120 : decode cX12_made 120 = .ok (.ldc 145, 2) := by decide +kernel
theorem dX12_made_122 : decode cX12_made 122 = .ok (.if_icmp .ge 12, 3) := by decide +kernel
theorem dX12_made_125 : decode cX12_made 125 = .ok (.aload_n 0, 1) := by decide +kernel
theorem dX12_made_126 : decode cX12_made 126 = .ok (.getfield 27, 3) := by decide +kernel
theorem dX12_made_129 : decode cX12_made 129 = .ok (.iload_n 1, 1) := by decide +kernel
theorem dX12_made_130 : decode cX12_made 130 = .ok (.iaload, 1) := by decide +kernel
theorem dX12_made_131 : decode cX12_made 131 = .ok (.goto 5, 3) := by decide +kernel
theorem dX12_made_134 : decode cX12_made 134 = .ok (.bipush (-4), 2) := by decide +kernel
theorem dX12_made_136 : decode cX12_made 136 = .ok (.ireturn, 1) := by decide +kernel
set_option maxRecDepth 20000 in
theorem ggX12_falling_X12_in : GoodIn wsX12_falling wsX12_in := goodIn_r _ [8] rfl (by decide +kernel)
set_option maxRecDepth 20000 in
theorem gX12_falling_X12_in : GoodIn wsX12_falling (va_wsS RX12 65 yX12_in wsX12_in) := goodIn_app (goodIn_sub (List.forall_mem_cons.mpr ⟨List.mem_of_getElem? (i := 5) rfl, List.forall_mem_cons.mpr ⟨List.mem_of_getElem? (i := 6) rfl, List.forall_mem_cons.mpr ⟨List.mem_of_getElem? (i := 7) rfl, fun _ h => absurd h List.not_mem_nil⟩⟩⟩) (by decide +kernel)) ggX12_falling_X12_in
set_option maxRecDepth 20000 in
theorem ggX12_falling_X12_isBound : GoodIn wsX12_falling wsX12_isBound := goodIn_r _ [11, 2, 5, 6, 7, 8] rfl (by decide +kernel)
set_option maxRecDepth 20000 in
theorem gX12_falling_X12_isBound : GoodIn wsX12_falling (va_wsS RX12 110 yX12_isBound wsX12_isBound) := goodIn_app (goodIn_sub (List.forall_mem_cons.mpr ⟨List.mem_of_getElem? (i := 9) rfl, List.forall_mem_cons.mpr ⟨List.mem_of_getElem? (i := 10) rfl, List.forall_mem_cons.mpr ⟨List.mem_of_getElem? (i := 7) rfl, fun _ h => absurd h List.not_mem_nil⟩⟩⟩) (by decide +kernel)) ggX12_falling_X12_isBound
set_option maxRecDepth 20000 in
theorem ggX12_falling_X12_layTable : GoodIn wsX12_falling wsX12_layTable := goodIn_r _ [15, 16, 4, 17, 18, 19, 20, 7, 21, 22, 23, 24, 25, 26, 27, 28, 29, 30, 31, 32, 33, 34, 35, 36, 37, 38, 39, 40, 41, 42, 43, 44, 45, 46, 47, 48, 49, 50, 51, 52, 53] rfl (by decide +kernel)
set_option maxRecDepth 20000 in
theorem gX12_falling_X12_layTable : GoodIn wsX12_falling (wsV RX12 114 RX12 yX12_layTable wsX12_layTable) := goodIn_app (goodIn_sub (List.forall_mem_cons.mpr ⟨List.mem_of_getElem? (i := 12) rfl, List.forall_mem_cons.mpr ⟨List.mem_of_getElem? (i := 13) rfl, List.forall_mem_cons.mpr ⟨List.mem_of_getElem? (i := 14) rfl, List.forall_mem_cons.mpr ⟨List.mem_of_getElem? (i := 7) rfl, fun _ h => absurd h List.not_mem_nil⟩⟩⟩⟩) (by decide +kernel)) ggX12_falling_X12_layTable
theorem dX12_falling_0 : decode cX12_falling 0 = .ok (.iload_n 1, 1) := by decide +kernel
theorem dX12_falling_1 : decode cX12_falling 1 = .ok (.i2l, 1) := by decide +kernel
theorem dX12_falling_2 : decode cX12_falling 2 = .ok (.lconst 1, 1) := by decide +kernel
theorem dX12_falling_3 : decode cX12_falling 3 = .ok (.ldc2_w 69, 3) := by decide +kernel
theorem dX12_falling_6 : decode cX12_falling 6 = .ok (.invokestatic 65, 3) := by decide +kernel
theorem dX12_falling_9 : decode cX12_falling 9 = .ok (.ifCond .eq 35, 3) := by decide +kernel
theorem dX12_falling_12 : decode cX12_falling 12 = .ok (.iload_n 2, 1) := by decide +kernel
theorem dX12_falling_13 : decode cX12_falling 13 = .ok (.i2l, 1) := by decide +kernel
theorem dX12_falling_14 : decode cX12_falling 14 = .ok (.lconst 1, 1) := by decide +kernel
theorem dX12_falling_15 : decode cX12_falling 15 = .ok (.ldc2_w 106, 3) := by decide +kernel
theorem dX12_falling_18 : decode cX12_falling 18 = .ok (.invokestatic 65, 3) := by decide +kernel
theorem dX12_falling_21 : decode cX12_falling 21 = .ok (.ifCond .eq 23, 3) := by decide +kernel
theorem dX12_falling_24 : decode cX12_falling 24 = .ok (.iload_n 3, 1) := by decide +kernel
theorem dX12_falling_25 : decode cX12_falling 25 = .ok (.i2l, 1) := by decide +kernel
theorem dX12_falling_26 : decode cX12_falling 26 = .ok (.lconst 0, 1) := by decide +kernel
theorem dX12_falling_27 : decode cX12_falling 27 = .ok (.ldc2_w 146, 3) := by decide +kernel
theorem dX12_falling_30 : decode cX12_falling 30 = .ok (.invokestatic 65, 3) := by decide +kernel
theorem dX12_falling_33 : decode cX12_falling 33 = .ok (.ifCond .eq 11, 3) := by decide +kernel
theorem dX12_falling_36 : decode cX12_falling 36 = .ok (.iload 4, 2) := by decide +kernel
theorem dX12_falling_38 : decode cX12_falling 38 = .ok (.invokestatic 110, 3) := by decide +kernel
theorem dX12_falling_41 : decode cX12_falling 41 = .ok (.ifCond .ne 5, 3) := by decide +kernel
theorem dX12_falling_44 : decode cX12_falling 44 = .ok (.iconst (-1), 1) := by decide +kernel
theorem dX12_falling_45 : decode cX12_falling 45 = .ok (.ireturn, 1) := by decide +kernel
theorem dX12_falling_46 : decode cX12_falling 46 = .ok (.aload_n 0, 1) := by decide +kernel
theorem dX12_falling_47 : decode cX12_falling 47 = .ok (.iload_n 1, 1) := by decide +kernel
theorem dX12_falling_48 : decode cX12_falling 48 = .ok (.invokevirtual 114, 3) := by decide +kernel
theorem dX12_falling_51 : decode cX12_falling 51 = .ok (.iconst 0, 1) := by decide +kernel
theorem dX12_falling_52 : decode cX12_falling 52 = .ok (.istore 5, 2) := by decide +kernel
theorem dX12_falling_54 : decode cX12_falling 54 = .ok (.iconst 1, 1) := by decide +kernel
theorem dX12_falling_55 : decode cX12_falling 55 = .ok (.istore 6, 2) := by decide +kernel
theorem dX12_falling_57 : decode cX12_falling 57 = .ok (.iload 6, 2) := by decide +kernel
theorem dX12_falling_59 : decode cX12_falling 59 = .ok (.iload 4, 2) := by decide +kernel
theorem dX12_falling_61 : decode cX12_falling 61 = .ok (.if_icmp .gt 78, 3) := by decide +kernel
theorem dX12_falling_64 : decode cX12_falling 64 = .ok (.iload 6, 2) := by decide +kernel
theorem dX12_falling_66 : decode cX12_falling 66 = .ok (.istore 7, 2) := by decide +kernel
theorem dX12_falling_68 : decode cX12_falling 68 = .ok (.iconst 0, 1) := by decide +kernel
theorem dX12_falling_69 : decode cX12_falling 69 = .ok (.istore 8, 2) := by decide +kernel
theorem dX12_falling_71 : decode cX12_falling 71 = .ok (.iload 8, 2) := by decide +kernel
theorem dX12_falling_73 : decode cX12_falling 73 = .ok (.iload_n 3, 1) := by decide +kernel
theorem dX12_falling_74 : decode cX12_falling 74 = .ok (.if_icmp .ge 37, 3) := by decide +kernel
theorem dX12_falling_77 : decode cX12_falling 77 = .ok (.iload 7, 2) := by decide +kernel
theorem dX12_falling_79 : decode cX12_falling 79 = .ok (.iload_n 2, 1) := by decide +kernel
theorem dX12_falling_80 : decode cX12_falling 80 = .ok (.if_icmp .eq 31, 3) := by decide +kernel
theorem dX12_falling_83 : decode cX12_falling 83 = .ok (.iload 7, 2) := by decide +kernel
theorem dX12_falling_85 : decode cX12_falling 85 = .ok (.i2l, 1) := by decide +kernel
theorem dX12_falling_86 : decode cX12_falling 86 = .ok (.lconst 1, 1) := by decide +kernel
theorem dX12_falling_87 : decode cX12_falling 87 = .ok (.iload 4, 2) := by decide +kernel
theorem dX12_falling_89 : decode cX12_falling 89 = .ok (.i2l, 1) := by decide +kernel
theorem dX12_falling_90 : decode cX12_falling 90 = .ok (.invokestatic 65, 3) := by decide +kernel
theorem dX12_falling_93 : decode cX12_falling 93 = .ok (.ifCond .eq 18, 3) := by decide +kernel
theorem dX12_falling_96 : decode cX12_falling 96 = .ok (.aload_n 0, 1) := by decide +kernel
theorem dX12_falling_97 : decode cX12_falling 97 = .ok (.getfield 21, 3) := by decide +kernel
theorem dX12_falling_100 : decode cX12_falling 100 = .ok (.iload 7, 2) := by decide +kernel
theorem dX12_falling_102 : decode cX12_falling 102 = .ok (.iaload, 1) := by decide +kernel
theorem dX12_falling_103 : decode cX12_falling 103 = .ok (.istore 7, 2) := by decide +kernel
theorem dX12_falling_105 : decode cX12_falling 105 = .ok (.iinc 8 1, 3) := by decide +kernel
theorem dX12_falling_108 : decode cX12_falling 108 = .ok (.goto (-37), 3) := by decide +kernel
theorem dX12_falling_111 : decode cX12_falling 111 = .ok (.iload 5, 2) := by decide +kernel
theorem dX12_falling_113 : decode cX12_falling 113 = .ok (.iload 7, 2) := by decide +kernel
theorem dX12_falling_115 : decode cX12_falling 115 = .ok (.iload_n 2, 1) := by decide +kernel
theorem dX12_falling_116 : decode cX12_falling 116 = .ok (.if_icmp .ne 13, 3) := by decide +kernel
theorem dX12_falling_119 : decode cX12_falling 119 = .ok (.iload_n 2, 1) := by decide +kernel
theorem dX12_falling_120 : decode cX12_falling 120 = .ok (.iload 4, 2) := by decide +kernel
theorem dX12_falling_122 : decode cX12_falling 122 = .ok (.if_icmp .gt 7, 3) := by decide +kernel
theorem dX12_falling_125 : decode cX12_falling 125 = .ok (.iconst 1, 1) := by decide +kernel
theorem dX12_falling_126 : decode cX12_falling 126 = .ok (.goto 4, 3) := by decide +kernel
theorem dX12_falling_129 : decode cX12_falling 129 = .ok (.iconst 0, 1) := by decide +kernel
theorem dX12_falling_130 : decode cX12_falling 130 = .ok (.iadd, 1) := by decide +kernel
theorem dX12_falling_131 : decode cX12_falling 131 = .ok (.istore 5, 2) := by decide +kernel
theorem dX12_falling_133 : decode cX12_falling 133 = .ok (.iinc 6 1, 3) := by decide +kernel
theorem dX12_falling_136 : decode cX12_falling 136 = .ok (.goto (-79), 3) := by decide +kernel
theorem dX12_falling_139 : decode cX12_falling 139 = .ok (.iload 5, 2) := by decide +kernel
theorem dX12_falling_141 : decode cX12_falling 141 = .ok (.ireturn, 1) := by decide +kernel
theorem dX12_isMade_0 : decode cX12_isMade 0 = .ok (.iconst 0, 1) := by decide +kernel
theorem dX12_isMade_1 : decode cX12_isMade 1 = .ok (.istore_n 2, 1) := by decide +kernel
theorem dX12_isMade_2 : decode cX12_isMade 2 = .ok (.iload_n 2, 1) := by decide +kernel
theorem dX12_isMade_3 : decode cX12_isMade 3 = .ok (.bipush 80, 2) := by decide +kernel
theorem dX12_isMade_5 : decode cX12_isMade 5 = .ok (.if_icmp .ge 16, 3) := by decide +kernel
theorem dX12_isMade_8 : decode cX12_isMade 8 = .ok (.aload_n 0, 1) := by decide +kernel
theorem dX12_isMade_9 : decode cX12_isMade 9 = .ok (.getfield 40, 3) := by decide +kernel
theorem dX12_isMade_12 : decode cX12_isMade 12 = .ok (.iload_n 2, 1) := by decide +kernel
theorem dX12_isMade_13 : decode cX12_isMade 13 = .ok (.lconst 0, 1) := by decide +kernel
theorem dX12_isMade_14 : decode cX12_isMade 14 = .ok (.lastore, 1) := by decide +kernel
theorem dX12_isMade_15 : decode cX12_isMade 15 = .ok (.iinc 2 1, 3) := by decide +kernel
theorem dX12_isMade_18 : decode cX12_isMade 18 = .ok (.goto (-16), 3) := by decide +kernel
theorem dX12_isMade_21 : decode cX12_isMade 21 = .ok (.aload_n 0, 1) := by decide +kernel
theorem dX12_isMade_22 : decode cX12_isMade 22 = .ok (.getfield 40, 3) := by decide +kernel
theorem dX12_isMade_25 : decode cX12_isMade 25 = .ok (.iconst 0, 1) := by decide +kernel
theorem dX12_isMade_26 : decode cX12_isMade 26 = .ok (.lconst 1, 1) := by decide +kernel
theorem dX12_isMade_27 : decode cX12_isMade 27 = .ok (.lastore, 1) := by decide +kernel
theorem dX12_isMade_28 : decode cX12_isMade 28 = .ok (.iconst 1, 1) := by decide +kernel
theorem dX12_isMade_29 : decode cX12_isMade 29 = .ok (.istore_n 2, 1) := by decide +kernel
theorem dX12_isMade_30 : decode cX12_isMade 30 = .ok (.iload_n 2, 1) := by decide +kernel
theorem dX12_isMade_31 : decode cX12_isMade 31 = .ok (.iload_n 1, 1) := by decide +kernel
theorem dX12_isMade_32 : decode cX12_isMade 32 = .ok (.if_icmp .ge 105, 3) := by decide +kernel
theorem dX12_isMade_35 : decode cX12_isMade 35 = .ok (.iload_n 1, 1) := by decide +kernel
theorem dX12_isMade_36 : decode cX12_isMade 36 = .ok (.iload_n 2, 1) := by decide +kernel
theorem dX12_isMade_37 : decode cX12_isMade 37 = .ok (.irem, 1) := by decide +kernel
theorem dX12_isMade_38 : decode cX12_isMade 38 = .ok (.ifCond .ne 93, 3) := by decide +kernel
theorem dX12_isMade_41 : decode cX12_isMade 41 = .ok (.iload_n 2, 1) := by decide +kernel
theorem dX12_isMade_42 : decode cX12_isMade 42 = .ok (.bipush 64, 2) := by decide +kernel
theorem dX12_isMade_44 : decode cX12_isMade 44 = .ok (.idiv, 1) := by decide +kernel
theorem dX12_isMade_45 : decode cX12_isMade 45 = .ok (.istore_n 3, 1) := by decide +kernel
theorem dX12_isMade_46 : decode cX12_isMade 46 = .ok (.iload_n 2, 1) := by decide +kernel
theorem dX12_isMade_47 : decode cX12_isMade 47 = .ok (.bipush 64, 2) := by decide +kernel
theorem dX12_isMade_49 : decode cX12_isMade 49 = .ok (.irem, 1) := by decide +kernel
theorem dX12_isMade_50 : decode cX12_isMade 50 = .ok (.istore 4, 2) := by decide +kernel
theorem dX12_isMade_52 : decode cX12_isMade 52 = .ok (.bipush 79, 2) := by decide +kernel
theorem dX12_isMade_54 : decode cX12_isMade 54 = .ok (.istore 5, 2) := by decide +kernel
theorem dX12_isMade_56 : decode cX12_isMade 56 = .ok (.iload 5, 2) := by decide +kernel
theorem dX12_isMade_58 : decode cX12_isMade 58 = .ok (.iload_n 3, 1) := by decide +kernel
theorem dX12_isMade_59 : decode cX12_isMade 59 = .ok (.if_icmp .lt 72, 3) := by decide +kernel
theorem dX12_isMade_62 : decode cX12_isMade 62 = .ok (.aload_n 0, 1) := by decide +kernel
theorem dX12_isMade_63 : decode cX12_isMade 63 = .ok (.getfield 40, 3) := by decide +kernel
theorem dX12_isMade_66 : decode cX12_isMade 66 = .ok (.iload 5, 2) := by decide +kernel
theorem dX12_isMade_68 : decode cX12_isMade 68 = .ok (.iload_n 3, 1) := by decide +kernel
theorem dX12_isMade_69 : decode cX12_isMade 69 = .ok (.isub, 1) := by decide +kernel
theorem dX12_isMade_70 : decode cX12_isMade 70 = .ok (.laload, 1) := by decide +kernel
theorem dX12_isMade_71 : decode cX12_isMade 71 = .ok (.iload 4, 2) := by decide +kernel
theorem dX12_isMade_73 : decode cX12_isMade 73 = .ok (.lshl, 1) := by decide +kernel
theorem dX12_isMade_74 : decode cX12_isMade 74 = .ok (.lstore 6, 2) := by decide +kernel
theorem dX12_isMade_76 : decode cX12_isMade 76 = .ok (.lload 6, 2) := by decide +kernel
theorem dX12_isMade_78 : decode cX12_isMade 78 = .ok (.iload 4, 2) := by decide +kernel
theorem dX12_isMade_80 : decode cX12_isMade 80 = .ok (.ifCond .le 29, 3) := by decide +kernel
theorem dX12_isMade_83 : decode cX12_isMade 83 = .ok (.iload 5, 2) := by decide +kernel
theorem dX12_isMade_85 : decode cX12_isMade 85 = .ok (.iload_n 3, 1) := by decide +kernel
theorem dX12_isMade_86 : decode cX12_isMade 86 = .ok (.if_icmp .le 23, 3) := by decide +kernel
theorem dX12_isMade_89 : decode cX12_isMade 89 = .ok (.aload_n 0, 1) := by decide +kernel
theorem dX12_isMade_90 : decode cX12_isMade 90 = .ok (.getfield 40, 3) := by decide +kernel
theorem dX12_isMade_93 : decode cX12_isMade 93 = .ok (.iload 5, 2) := by decide +kernel
theorem dX12_isMade_95 : decode cX12_isMade 95 = .ok (.iload_n 3, 1) := by decide +kernel
theorem dX12_isMade_96 : decode cX12_isMade 96 = .ok (.isub, 1) := by decide +kernel
theorem dX12_isMade_97 : decode cX12_isMade 97 = .ok (.iconst 1, 1) := by decide +kernel
theorem dX12_isMade_98 : decode cX12_isMade 98 = .ok (.isub, 1) := by decide +kernel
theorem dX12_isMade_99 : decode cX12_isMade 99 = .ok (.laload, 1) := by decide +kernel
theorem dX12_isMade_100 : decode cX12_isMade 100 = .ok (.bipush 64, 2) := by decide +kernel
theorem dX12_isMade_102 : decode cX12_isMade 102 = .ok (.iload 4, 2) := by decide +kernel
theorem dX12_isMade_104 : decode cX12_isMade 104 = .ok (.isub, 1) := by decide +kernel
theorem dX12_isMade_105 : decode cX12_isMade 105 = .ok (.lushr, 1) := by decide +kernel
theorem dX12_isMade_106 : decode cX12_isMade 106 = .ok (.goto 4, 3) := by decide +kernel
theorem dX12_isMade_109 : decode cX12_isMade 109 = .ok (.lconst 0, 1) := by decide +kernel
theorem dX12_isMade_110 : decode cX12_isMade 110 = .ok (.lor, 1) := by decide +kernel
theorem dX12_isMade_111 : decode cX12_isMade 111 = .ok (.lstore 6, 2) := by decide +kernel
theorem dX12_isMade_113 : decode cX12_isMade 113 = .ok (.aload_n 0, 1) := by decide +kernel
theorem dX12_isMade_114 : decode cX12_isMade 114 = .ok (.getfield 40, 3) := by decide +kernel
theorem dX12_isMade_117 : decode cX12_isMade 117 = .ok (.iload 5, 2) := by decide +kernel
theorem dX12_isMade_119 : decode cX12_isMade 119 = .ok (.dup2, 1) := by decide +kernel
theorem dX12_isMade_120 : decode cX12_isMade 120 = .ok (.laload, 1) := by decide +kernel
theorem dX12_isMade_121 : decode cX12_isMade 121 = .ok (.lload 6, 2) := by decide +kernel
theorem dX12_isMade_123 : decode cX12_isMade 123 = .ok (.lor, 1) := by decide +kernel
theorem dX12_isMade_124 : decode cX12_isMade 124 = .ok (.lastore, 1) := by decide +kernel
theorem dX12_isMade_125 : decode cX12_isMade 125 = .ok (.iinc 5 (-1), 3) := by decide +kernel
theorem dX12_isMade_128 : decode cX12_isMade 128 = .ok (.goto (-72), 3) := by decide +kernel
theorem dX12_isMade_131 : decode cX12_isMade 131 = .ok (.iinc 2 1, 3) := by decide +kernel
theorem dX12_isMade_134 : decode cX12_isMade 134 = .ok (.goto (-104), 3) := by decide +kernel
theorem dX12_isMade_137 : decode cX12_isMade 137 = .ok (.aload_n 0, 1) := by decide +kernel
theorem dX12_isMade_138 : decode cX12_isMade 138 = .ok (.getfield 40, 3) := by decide +kernel
theorem dX12_isMade_141 : decode cX12_isMade 141 = .ok (.iload_n 1, 1) := by decide +kernel
theorem dX12_isMade_142 : decode cX12_isMade 142 = .ok (.bipush 64, 2) := by decide +kernel
theorem dX12_isMade_144 : decode cX12_isMade 144 = .ok (.idiv, 1) := by decide +kernel
theorem dX12_isMade_145 : decode cX12_isMade 145 = .ok (.laload, 1) := by decide +kernel
theorem dX12_isMade_146 : decode cX12_isMade 146 = .ok (.iload_n 1, 1) := by decide +kernel
theorem dX12_isMade_147 : decode cX12_isMade 147 = .ok (.bipush 64, 2) := by decide +kernel
theorem dX12_isMade_149 : decode cX12_isMade 149 = .ok (.irem, 1) := by decide +kernel
theorem dX12_isMade_150 : decode cX12_isMade 150 = .ok (.lshr, 1) := by decide +kernel
theorem dX12_isMade_151 : decode cX12_isMade 151 = .ok (.lconst 1, 1) := by decide +kernel
theorem dX12_isMade_152 : decode cX12_isMade 152 = .ok (.land, 1) := by decide +kernel
theorem dX12_isMade_153 : decode cX12_isMade 153 = .ok (.lconst 1, 1) := by decide +kernel
theorem dX12_isMade_154 : decode cX12_isMade 154 = .ok (.lcmp, 1) := by decide +kernel
theorem dX12_isMade_155 : decode cX12_isMade 155 = .ok (.ifCond .ne 7, 3) := by decide +kernel
theorem dX12_isMade_158 : decode cX12_isMade 158 = .ok (.iconst 1, 1) := by decide +kernel
theorem dX12_isMade_159 : decode cX12_isMade 159 = .ok (.goto 4, 3) := by decide +kernel
theorem dX12_isMade_162 : decode cX12_isMade 162 = .ok (.iconst 0, 1) := by decide +kernel
theorem dX12_isMade_163 : decode cX12_isMade 163 = .ok (.ireturn, 1) := by decide +kernel
set_option maxRecDepth 20000 in
theorem ggX12_layFlags_X12_layTable : GoodIn wsX12_layFlags wsX12_layTable := goodIn_r _ [10, 11, 4, 12, 13, 14, 15, 9, 16, 17, 18, 19, 20, 21, 22, 23, 24, 25, 26, 27, 37, 38, 39, 40, 41, 42, 43, 44, 45, 46, 47, 48, 49, 50, 51, 52, 53, 54, 55, 56, 57] rfl (by decide +kernel)
set_option maxRecDepth 20000 in
theorem gX12_layFlags_X12_layTable : GoodIn wsX12_layFlags (wsV RX12 114 RX12 yX12_layTable wsX12_layTable) := goodIn_app (goodIn_sub (List.forall_mem_cons.mpr ⟨List.mem_of_getElem? (i := 6) rfl, List.forall_mem_cons.mpr ⟨List.mem_of_getElem? (i := 7) rfl, List.forall_mem_cons.mpr ⟨List.mem_of_getElem? (i := 8) rfl, List.forall_mem_cons.mpr ⟨List.mem_of_getElem? (i := 9) rfl, fun _ h => absurd h List.not_mem_nil⟩⟩⟩⟩) (by decide +kernel)) ggX12_layFlags_X12_layTable
set_option maxRecDepth 20000 in
theorem ggX12_layFlags_X12_weigh : GoodIn wsX12_layFlags wsX12_weigh := goodIn_r _ [31, 4, 37, 38, 39, 40, 41, 42, 43, 44, 45, 46, 47, 48, 49, 50, 51, 52, 53, 54, 55, 56, 57] rfl (by decide +kernel)
set_option maxRecDepth 20000 in
theorem gX12_layFlags_X12_weigh : GoodIn wsX12_layFlags (wsV RX12 136 RX12 yX12_weigh wsX12_weigh) := goodIn_app (goodIn_sub (List.forall_mem_cons.mpr ⟨List.mem_of_getElem? (i := 28) rfl, List.forall_mem_cons.mpr ⟨List.mem_of_getElem? (i := 29) rfl, List.forall_mem_cons.mpr ⟨List.mem_of_getElem? (i := 30) rfl, List.forall_mem_cons.mpr ⟨List.mem_of_getElem? (i := 9) rfl, fun _ h => absurd h List.not_mem_nil⟩⟩⟩⟩) (by decide +kernel)) ggX12_layFlags_X12_weigh
set_option maxRecDepth 20000 in
theorem ggX12_layFlags_X12_isMade : GoodIn wsX12_layFlags wsX12_isMade := goodIn_r _ [35, 36, 37, 38, 39, 40, 41, 42, 43, 44, 45, 46, 47, 48, 49, 50, 51, 52, 53, 54, 55, 56, 57] rfl (by decide +kernel)
set_option maxRecDepth 20000 in
theorem gX12_layFlags_X12_isMade : GoodIn wsX12_layFlags (wsV RX12 152 RX12 yX12_isMade wsX12_isMade) := goodIn_app (goodIn_sub (List.forall_mem_cons.mpr ⟨List.mem_of_getElem? (i := 32) rfl, List.forall_mem_cons.mpr ⟨List.mem_of_getElem? (i := 33) rfl, List.forall_mem_cons.mpr ⟨List.mem_of_getElem? (i := 34) rfl, List.forall_mem_cons.mpr ⟨List.mem_of_getElem? (i := 9) rfl, fun _ h => absurd h List.not_mem_nil⟩⟩⟩⟩) (by decide +kernel)) ggX12_layFlags_X12_isMade
theorem dX12_layFlags_0 : decode cX12_layFlags 0 = .ok (.aload_n 0, 1) := by decide +kernel
theorem dX12_layFlags_1 : decode cX12_layFlags 1 = .ok (.iconst 0, 1) := by decide +kernel
theorem dX12_layFlags_2 : decode cX12_layFlags 2 = .ok (.invokevirtual 114, 3) := by decide +kernel
theorem dX12_layFlags_5 : decode cX12_layFlags 5 = .ok (.aload_n 0, 1) := by decide +kernel
theorem dX12_layFlags_6 : decode cX12_layFlags 6 = .ok (.getfield 148, 3) := by decide +kernel
theorem dX12_layFlags_9 : decode cX12_layFlags 9 = .ok (.ifCond .eq 4, 3) := by decide +kernel
theorem dX12_layFlags_12 : decode cX12_layFlags 12 = .ok (.return_, 1) := by decide +kernel
theorem dX12_layFlags_13 : decode cX12_layFlags 13 = .ok (.aload_n 0, 1) := by decide +kernel
theorem dX12_layFlags_14 : decode cX12_layFlags 14 = .ok (.iconst 1, 1) := by decide +kernel
theorem dX12_layFlags_15 : decode cX12_layFlags 15 = .ok (.putfield 148, 3) := by decide +kernel
theorem dX12_layFlags_18 : decode cX12_layFlags 18 = .ok (.iconst 0, 1) := by decide +kernel
theorem dX12_layFlags_19 : decode cX12_layFlags 19 = .ok (.istore_n 1, 1) := by decide +kernel
theorem dX12_layFlags_20 : decode cX12_layFlags 20 = .ok (.iconst 0, 1) := by decide +kernel
theorem dX12_layFlags_21 : decode cX12_layFlags 21 = .ok (.istore_n 2, 1) := by decide +kernel
theorem dX12_layFlags_22 : decode cX12_layFlags 22 = .ok (.iconst 1, 1) := by decide +kernel
theorem dX12_layFlags_23 : decode cX12_layFlags 23 = .ok (.istore_n 3, 1) := by decide +kernel
theorem dX12_layFlags_24 : decode cX12_layFlags 24 = .ok (.iload_n 3, 1) := by decide +kernel
theorem dX12_layFlags_25 : decode cX12_layFlags 25 = .ok (.sipush 5000, 3) := by decide +kernel
theorem dX12_layFlags_28 : decode cX12_layFlags 28 = .ok (.if_icmp .gt 136, 3) := by decide +kernel
theorem dX12_layFlags_31 : decode cX12_layFlags 31 = .ok (.aload_n 0, 1) := by decide +kernel
theorem dX12_layFlags_32 : decode cX12_layFlags 32 = .ok (.getfield 30, 3) := by decide +kernel
theorem dX12_layFlags_35 : decode cX12_layFlags 35 = .ok (.iload_n 3, 1) := by decide +kernel
theorem dX12_layFlags_36 : decode cX12_layFlags 36 = .ok (.aload_n 0, 1) := by decide +kernel
theorem dX12_layFlags_37 : decode cX12_layFlags 37 = .ok (.iload_n 3, 1) := by decide +kernel
theorem dX12_layFlags_38 : decode cX12_layFlags 38 = .ok (.invokevirtual 136, 3) := by decide +kernel
theorem dX12_layFlags_41 : decode cX12_layFlags 41 = .ok (.iconst 2, 1) := by decide +kernel
theorem dX12_layFlags_42 : decode cX12_layFlags 42 = .ok (.if_icmp .ne 15, 3) := by decide +kernel
theorem dX12_layFlags_45 : decode cX12_layFlags 45 = .ok (.aload_n 0, 1) := by decide +kernel
theorem dX12_layFlags_46 : decode cX12_layFlags 46 = .ok (.iload_n 3, 1) := by decide +kernel
theorem dX12_layFlags_47 : decode cX12_layFlags 47 = .ok (.invokevirtual 152, 3) := by decide +kernel
theorem dX12_layFlags_50 : decode cX12_layFlags 50 = .ok (.ifCond .ne 7, 3) := by decide +kernel
theorem dX12_layFlags_53 : decode cX12_layFlags 53 = .ok (.iconst 1, 1) := by decide +kernel
theorem dX12_layFlags_54 : decode cX12_layFlags 54 = .ok (.goto 4, 3) := by decide +kernel
theorem dX12_layFlags_57 : decode cX12_layFlags 57 = .ok (.iconst 0, 1) := by decide +kernel
theorem dX12_layFlags_58 : decode cX12_layFlags 58 = .ok (.bastore, 1) := by decide +kernel
theorem dX12_layFlags_59 : decode cX12_layFlags 59 = .ok (.aload_n 0, 1) := by decide +kernel
theorem dX12_layFlags_60 : decode cX12_layFlags 60 = .ok (.getfield 34, 3) := by decide +kernel
theorem dX12_layFlags_63 : decode cX12_layFlags 63 = .ok (.iload_n 3, 1) := by decide +kernel
theorem dX12_layFlags_64 : decode cX12_layFlags 64 = .ok (.iload_n 1, 1) := by decide +kernel
theorem dX12_layFlags_65 : decode cX12_layFlags 65 = .ok (.ifCond .eq 18, 3) := by decide +kernel
theorem dX12_layFlags_68 : decode cX12_layFlags 68 = .ok (.aload_n 0, 1) := by decide +kernel
theorem dX12_layFlags_69 : decode cX12_layFlags 69 = .ok (.getfield 21, 3) := by decide +kernel
theorem dX12_layFlags_72 : decode cX12_layFlags 72 = .ok (.iload_n 3, 1) := by decide +kernel
theorem dX12_layFlags_73 : decode cX12_layFlags 73 = .ok (.iaload, 1) := by decide +kernel
theorem dX12_layFlags_74 : decode cX12_layFlags 74 = .ok (.aload_n 0, 1) := by decide +kernel
theorem dX12_layFlags_75 : decode cX12_layFlags 75 = .ok (.getfield 21, 3) := by decide +kernel
theorem dX12_layFlags_78 : decode cX12_layFlags 78 = .ok (.iload_n 1, 1) := by decide +kernel
theorem dX12_layFlags_79 : decode cX12_layFlags 79 = .ok (.iaload, 1) := by decide +kernel
theorem dX12_layFlags_80 : decode cX12_layFlags 80 = .ok (.if_icmp .le 7, 3) := by decide +kernel
theorem dX12_layFlags_83 : decode cX12_layFlags 83 = .ok (.iconst 1, 1) := by decide +kernel
theorem dX12_layFlags_84 : decode cX12_layFlags 84 = .ok (.goto 4, 3) := by decide +kernel
theorem dX12_layFlags_87 : decode cX12_layFlags 87 = .ok (.iconst 0, 1) := by decide +kernel
theorem dX12_layFlags_88 : decode cX12_layFlags 88 = .ok (.bastore, 1) := by decide +kernel
theorem dX12_layFlags_89 : decode cX12_layFlags 89 = .ok (.aload_n 0, 1) := by decide +kernel
theorem dX12_layFlags_90 : decode cX12_layFlags 90 = .ok (.getfield 37, 3) := by decide +kernel
theorem dX12_layFlags_93 : decode cX12_layFlags 93 = .ok (.iload_n 3, 1) := by decide +kernel
theorem dX12_layFlags_94 : decode cX12_layFlags 94 = .ok (.iload_n 2, 1) := by decide +kernel
theorem dX12_layFlags_95 : decode cX12_layFlags 95 = .ok (.ifCond .eq 27, 3) := by decide +kernel
theorem dX12_layFlags_98 : decode cX12_layFlags 98 = .ok (.aload_n 0, 1) := by decide +kernel
theorem dX12_layFlags_99 : decode cX12_layFlags 99 = .ok (.getfield 21, 3) := by decide +kernel
theorem dX12_layFlags_102 : decode cX12_layFlags 102 = .ok (.iload_n 3, 1) := by decide +kernel
theorem dX12_layFlags_103 : decode cX12_layFlags 103 = .ok (.iaload, 1) := by decide +kernel
theorem dX12_layFlags_104 : decode cX12_layFlags 104 = .ok (.i2l, 1) := by decide +kernel
theorem dX12_layFlags_105 : decode cX12_layFlags 105 = .ok (.iload_n 2, 1) := by decide +kernel
theorem dX12_layFlags_106 : decode cX12_layFlags 106 = .ok (.i2l, 1) := by decide +kernel
theorem dX12_layFlags_107 : decode cX12_layFlags 107 = .ok (.lmul, 1) := by decide +kernel
theorem dX12_layFlags_108 : decode cX12_layFlags 108 = .ok (.aload_n 0, 1) := by decide +kernel
theorem dX12_layFlags_109 : decode cX12_layFlags 109 = .ok (.getfield 21, 3) := by decide +kernel
theorem dX12_layFlags_112 : decode cX12_layFlags 112 = .ok (.iload_n 2, 1) := by decide +kernel
theorem dX12_layFlags_113 : decode cX12_layFlags 113 = .ok (.iaload, 1) := by decide +kernel
theorem dX12_layFlags_114 : decode cX12_layFlags 114 = .ok (.i2l, 1) := by decide +kernel
theorem dX12_layFlags_115 : decode cX12_layFlags 115 = .ok (.iload_n 3, 1) := by decide +kernel
theorem dX12_layFlags_116 : decode cX12_layFlags 116 = .ok (.i2l, 1) := by decide +kernel
theorem dX12_layFlags_117 : decode cX12_layFlags 117 = .ok (.lmul, 1) := by decide +kernel
theorem dX12_layFlags_118 : decode cX12_layFlags 118 = .ok (.lcmp, 1) := by decide +kernel
theorem dX12_layFlags_119 : decode cX12_layFlags 119 = .ok (.ifCond .le 7, 3) := by decide +kernel
theorem dX12_layFlags_122 : decode cX12_layFlags 122 = .ok (.iconst 1, 1) := by decide +kernel
theorem dX12_layFlags_123 : decode cX12_layFlags 123 = .ok (.goto 4, 3) := by decide +kernel
theorem dX12_layFlags_126 : decode cX12_layFlags 126 = .ok (.iconst 0, 1) := by decide +kernel
theorem dX12_layFlags_127 : decode cX12_layFlags 127 = .ok (.bastore, 1) := by decide +kernel
theorem dX12_layFlags_128 : decode cX12_layFlags 128 = .ok (.aload_n 0, 1) := by decide +kernel
theorem dX12_layFlags_129 : decode cX12_layFlags 129 = .ok (.getfield 34, 3) := by decide +kernel
theorem dX12_layFlags_132 : decode cX12_layFlags 132 = .ok (.iload_n 3, 1) := by decide +kernel
theorem dX12_layFlags_133 : decode cX12_layFlags 133 = .ok (.baload, 1) := by decide +kernel
theorem dX12_layFlags_134 : decode cX12_layFlags 134 = .ok (.ifCond .eq 7, 3) := by decide +kernel
theorem dX12_layFlags_137 : decode cX12_layFlags 137 = .ok (.iload_n 3, 1) := by decide +kernel
theorem dX12_layFlags_138 : decode cX12_layFlags 138 = .ok (.goto 4, 3) := by decide +kernel
theorem dX12_layFlags_141 : decode cX12_layFlags 141 = .ok (.iload_n 1, 1) := by decide +kernel
theorem dX12_layFlags_142 : decode cX12_layFlags 142 = .ok (.istore_n 1, 1) := by decide +kernel
theorem dX12_layFlags_143 : decode cX12_layFlags 143 = .ok (.aload_n 0, 1) := by decide +kernel
theorem dX12_layFlags_144 : decode cX12_layFlags 144 = .ok (.getfield 37, 3) := by decide +kernel
theorem dX12_layFlags_147 : decode cX12_layFlags 147 = .ok (.iload_n 3, 1) := by decide +kernel
theorem dX12_layFlags_148 : decode cX12_layFlags 148 = .ok (.baload, 1) := by decide +kernel
theorem dX12_layFlags_149 : decode cX12_layFlags 149 = .ok (.ifCond .eq 7, 3) := by decide +kernel
theorem dX12_layFlags_152 : decode cX12_layFlags 152 = .ok (.iload_n 3, 1) := by decide +kernel
theorem dX12_layFlags_153 : decode cX12_layFlags 153 = .ok (.goto 4, 3) := by decide +kernel
theorem dX12_layFlags_156 : decode cX12_layFlags 156 = .ok (.iload_n 2, 1) := by decide +kernel
theorem dX12_layFlags_157 : decode cX12_layFlags 157 = .ok (.istore_n 2, 1) := by decide +kernel
theorem dX12_layFlags_158 : decode cX12_layFlags 158 = .ok (.iinc 3 1, 3) := by decide +kernel
theorem dX12_layFlags_161 : decode cX12_layFlags 161 = .ok (.goto (-137), 3) := by decide +kernel
theorem dX12_layFlags_164 : decode cX12_layFlags 164 = .ok (.return_, 1) := by decide +kernel
set_option maxRecDepth 20000 in
theorem ggX12_write_X12_in : GoodIn wsX12_write wsX12_in := goodIn_r _ [8] rfl (by decide +kernel)
set_option maxRecDepth 20000 in
theorem gX12_write_X12_in : GoodIn wsX12_write (va_wsS RX12 65 yX12_in wsX12_in) := goodIn_app (goodIn_sub (List.forall_mem_cons.mpr ⟨List.mem_of_getElem? (i := 5) rfl, List.forall_mem_cons.mpr ⟨List.mem_of_getElem? (i := 6) rfl, List.forall_mem_cons.mpr ⟨List.mem_of_getElem? (i := 7) rfl, fun _ h => absurd h List.not_mem_nil⟩⟩⟩) (by decide +kernel)) ggX12_write_X12_in
theorem dX12_write_0 : decode cX12_write 0 = .ok (.iload_n 1, 1) := by decide +kernel
theorem dX12_write_1 : decode cX12_write 1 = .ok (.i2l, 1) := by decide +kernel
theorem dX12_write_2 : decode cX12_write 2 = .ok (.lconst 1, 1) := by decide +kernel
theorem dX12_write_3 : decode cX12_write 3 = .ok (.ldc2_w 155, 3) := by decide +kernel
theorem dX12_write_6 : decode cX12_write 6 = .ok (.invokestatic 65, 3) := by decide +kernel
theorem dX12_write_9 : decode cX12_write 9 = .ok (.ifCond .ne 5, 3) := by decide +kernel
theorem dX12_write_12 : decode cX12_write 12 = .ok (.iconst (-1), 1) := by decide +kernel
theorem dX12_write_13 : decode cX12_write 13 = .ok (.ireturn, 1) := by decide +kernel
theorem dX12_write_14 : decode cX12_write 14 = .ok (.aload_n 0, 1) := by decide +kernel
theorem dX12_write_15 : decode cX12_write 15 = .ok (.getfield 157, 3) := by decide +kernel
theorem dX12_write_18 : decode cX12_write 18 = .ok (.iload_n 1, 1) := by decide +kernel
theorem dX12_write_19 : decode cX12_write 19 = .ok (.iadd, 1) := by decide +kernel
theorem dX12_write_20 : decode cX12_write 20 = .ok (.bipush 60, 2) := by decide +kernel
theorem dX12_write_22 : decode cX12_write 22 = .ok (.if_icmp .le 6, 3) := by decide +kernel
theorem dX12_write_25 : decode cX12_write 25 = .ok (.bipush (-3), 2) := by decide +kernel
theorem dX12_write_27 : decode cX12_write 27 = .ok (.ireturn, 1) := by decide +kernel
theorem dX12_write_28 : decode cX12_write 28 = .ok (.iload_n 1, 1) := by decide +kernel
theorem dX12_write_29 : decode cX12_write 29 = .ok (.iconst 1, 1) := by decide +kernel
theorem dX12_write_30 : decode cX12_write 30 = .ok (.isub, 1) := by decide +kernel
theorem dX12_write_31 : decode cX12_write 31 = .ok (.istore 4, 2) := by decide +kernel
theorem dX12_write_33 : decode cX12_write 33 = .ok (.iload 4, 2) := by decide +kernel
theorem dX12_write_35 : decode cX12_write 35 = .ok (.ifCond .lt 40, 3) := by decide +kernel
theorem dX12_write_38 : decode cX12_write 38 = .ok (.aload_n 0, 1) := by decide +kernel
theorem dX12_write_39 : decode cX12_write 39 = .ok (.getfield 7, 3) := by decide +kernel
theorem dX12_write_42 : decode cX12_write 42 = .ok (.aload_n 0, 1) := by decide +kernel
theorem dX12_write_43 : decode cX12_write 43 = .ok (.getfield 157, 3) := by decide +kernel
theorem dX12_write_46 : decode cX12_write 46 = .ok (.lload_n 2, 1) := by decide +kernel
theorem dX12_write_47 : decode cX12_write 47 = .ok (.bipush 8, 2) := by decide +kernel
theorem dX12_write_49 : decode cX12_write 49 = .ok (.iload 4, 2) := by decide +kernel
theorem dX12_write_51 : decode cX12_write 51 = .ok (.imul, 1) := by decide +kernel
theorem dX12_write_52 : decode cX12_write 52 = .ok (.lshr, 1) := by decide +kernel
theorem dX12_write_53 : decode cX12_write 53 = .ok (.ldc2_w 160, 3) := by decide +kernel
theorem dX12_write_56 : decode cX12_write 56 = .ok (.land, 1) := by decide +kernel
theorem dX12_write_57 : decode cX12_write 57 = .ok (.l2i, 1) := by decide +kernel
theorem dX12_write_58 : decode cX12_write 58 = .ok (.iastore, 1) := by decide +kernel
theorem dX12_write_59 : decode cX12_write 59 = .ok (.aload_n 0, 1) := by decide +kernel
theorem dX12_write_60 : decode cX12_write 60 = .ok (.dup, 1) := by decide +kernel
theorem dX12_write_61 : decode cX12_write 61 = .ok (.getfield 157, 3) := by decide +kernel
theorem dX12_write_64 : decode cX12_write 64 = .ok (.iconst 1, 1) := by decide +kernel
theorem dX12_write_65 : decode cX12_write 65 = .ok (.iadd, 1) := by decide +kernel
theorem dX12_write_66 : decode cX12_write 66 = .ok (.putfield 157, 3) := by decide +kernel
theorem dX12_write_69 : decode cX12_write 69 = .ok (.iinc 4 (-1), 3) := by decide +kernel
theorem dX12_write_72 : decode cX12_write 72 = .ok (.goto (-39), 3) := by decide +kernel
theorem dX12_write_75 : decode cX12_write 75 = .ok (.aload_n 0, 1) := by decide +kernel
theorem dX12_write_76 : decode cX12_write 76 = .ok (.getfield 157, 3) := by decide +kernel
theorem dX12_write_79 : decode cX12_write 79 = .ok (.ireturn, 1) := by decide +kernel
theorem dX12_wipe_0 : decode cX12_wipe 0 = .ok (.aload_n 0, 1) := by decide +kernel
theorem dX12_wipe_1 : decode cX12_wipe 1 = .ok (.getfield 157, 3) := by decide +kernel
theorem dX12_wipe_4 : decode cX12_wipe 4 = .ok (.istore_n 1, 1) := by decide +kernel
theorem dX12_wipe_5 : decode cX12_wipe 5 = .ok (.aload_n 0, 1) := by decide +kernel
theorem dX12_wipe_6 : decode cX12_wipe 6 = .ok (.iconst 0, 1) := by decide +kernel
theorem dX12_wipe_7 : decode cX12_wipe 7 = .ok (.putfield 157, 3) := by decide +kernel
theorem dX12_wipe_10 : decode cX12_wipe 10 = .ok (.iload_n 1, 1) := by decide +kernel
theorem dX12_wipe_11 : decode cX12_wipe 11 = .ok (.ireturn, 1) := by decide +kernel
set_option maxRecDepth 20000 in
theorem ggX12_looks_X12_in : GoodIn wsX12_looks wsX12_in := goodIn_r _ [6] rfl (by decide +kernel)
set_option maxRecDepth 20000 in
theorem gX12_looks_X12_in : GoodIn wsX12_looks (va_wsS RX12 65 yX12_in wsX12_in) := goodIn_app (goodIn_sub (List.forall_mem_cons.mpr ⟨List.mem_of_getElem? (i := 3) rfl, List.forall_mem_cons.mpr ⟨List.mem_of_getElem? (i := 4) rfl, List.forall_mem_cons.mpr ⟨List.mem_of_getElem? (i := 5) rfl, fun _ h => absurd h List.not_mem_nil⟩⟩⟩) (by decide +kernel)) ggX12_looks_X12_in
theorem dX12_looks_0 : decode cX12_looks 0 = .ok (.iload_n 0, 1) := by decide +kernel
theorem dX12_looks_1 : decode cX12_looks 1 = .ok (.bipush 114, 2) := by decide +kernel
theorem dX12_looks_3 : decode cX12_looks 3 = .ok (.if_icmp .eq 27, 3) := by decide +kernel
theorem dX12_looks_6 : decode cX12_looks 6 = .ok (.iload_n 0, 1) := by decide +kernel
theorem dX12_looks_7 : decode cX12_looks 7 = .ok (.bipush 98, 2) := by decide +kernel
theorem dX12_looks_9 : decode cX12_looks 9 = .ok (.if_icmp .eq 21, 3) := by decide +kernel
theorem dX12_looks_12 : decode cX12_looks 12 = .ok (.iload_n 0, 1) := by decide +kernel
theorem dX12_looks_13 : decode cX12_looks 13 = .ok (.bipush 120, 2) := by decide +kernel
theorem dX12_looks_15 : decode cX12_looks 15 = .ok (.if_icmp .eq 15, 3) := by decide +kernel
theorem dX12_looks_18 : decode cX12_looks 18 = .ok (.iload_n 0, 1) := by decide +kernel
theorem dX12_looks_19 : decode cX12_looks 19 = .ok (.bipush 112, 2) := by decide +kernel
theorem dX12_looks_21 : decode cX12_looks 21 = .ok (.if_icmp .eq 9, 3) := by decide +kernel
theorem dX12_looks_24 : decode cX12_looks 24 = .ok (.iload_n 0, 1) := by decide +kernel
theorem dX12_looks_25 : decode cX12_looks 25 = .ok (.bipush 111, 2) := by decide +kernel
theorem dX12_looks_27 : decode cX12_looks 27 = .ok (.if_icmp .ne 7, 3) := by decide +kernel
theorem dX12_looks_30 : decode cX12_looks 30 = .ok (.iconst 1, 1) := by decide +kernel
theorem dX12_looks_31 : decode cX12_looks 31 = .ok (.goto 4, 3) := by decide +kernel
theorem dX12_looks_34 : decode cX12_looks 34 = .ok (.iconst 0, 1) := by decide +kernel
theorem dX12_looks_35 : decode cX12_looks 35 = .ok (.istore_n 1, 1) := by decide +kernel
theorem dX12_looks_36 : decode cX12_looks 36 = .ok (.iload_n 0, 1) := by decide +kernel
theorem dX12_looks_37 : decode cX12_looks 37 = .ok (.bipush 101, 2) := by decide +kernel
theorem dX12_looks_39 : decode cX12_looks 39 = .ok (.if_icmp .eq 27, 3) := by decide +kernel
theorem dX12_looks_42 : decode cX12_looks 42 = .ok (.iload_n 0, 1) := by decide +kernel
theorem dX12_looks_43 : decode cX12_looks 43 = .ok (.bipush 113, 2) := by decide +kernel
theorem dX12_looks_45 : decode cX12_looks 45 = .ok (.if_icmp .eq 21, 3) := by decide +kernel
theorem dX12_looks_48 : decode cX12_looks 48 = .ok (.iload_n 0, 1) := by decide +kernel
theorem dX12_looks_49 : decode cX12_looks 49 = .ok (.bipush 102, 2) := by decide +kernel
theorem dX12_looks_51 : decode cX12_looks 51 = .ok (.if_icmp .eq 15, 3) := by decide +kernel
theorem dX12_looks_54 : decode cX12_looks 54 = .ok (.iload_n 0, 1) := by decide +kernel
theorem dX12_looks_55 : decode cX12_looks 55 = .ok (.bipush 104, 2) := by decide +kernel
theorem dX12_looks_57 : decode cX12_looks 57 = .ok (.if_icmp .eq 9, 3) := by decide +kernel
theorem dX12_looks_60 : decode cX12_looks 60 = .ok (.iload_n 0, 1) := by decide +kernel
theorem dX12_looks_61 : decode cX12_looks 61 = .ok (.bipush 116, 2) := by decide +kernel
theorem dX12_looks_63 : decode cX12_looks 63 = .ok (.if_icmp .ne 7, 3) := by decide +kernel
theorem dX12_looks_66 : decode cX12_looks 66 = .ok (.iconst 1, 1) := by decide +kernel
theorem dX12_looks_67 : decode cX12_looks 67 = .ok (.goto 4, 3) := by decide +kernel
theorem dX12_looks_70 : decode cX12_looks 70 = .ok (.iconst 0, 1) := by decide +kernel
theorem dX12_looks_71 : decode cX12_looks 71 = .ok (.istore_n 2, 1) := by decide +kernel
theorem dX12_looks_72 : decode cX12_looks 72 = .ok (.iload_n 1, 1) := by decide +kernel
theorem dX12_looks_73 : decode cX12_looks 73 = .ok (.ifCond .ne 21, 3) := by decide +kernel
theorem dX12_looks_76 : decode cX12_looks 76 = .ok (.iload_n 2, 1) := by decide +kernel
theorem dX12_looks_77 : decode cX12_looks 77 = .ok (.ifCond .ne 17, 3) := by decide +kernel
theorem dX12_looks_80 : decode cX12_looks 80 = .ok (.iload_n 0, 1) := by decide +kernel
theorem dX12_looks_81 : decode cX12_looks 81 = .ok (.i2l, 1) := by decide +kernel
theorem dX12_looks_82 : decode cX12_looks 82 = .ok (.ldc2_w 162, 3) := by decide +kernel
theorem dX12_looks_85 : decode cX12_looks 85 = .ok (.ldc2_w 164, 3) := by decide +kernel
theorem dX12_looks_88 : decode cX12_looks 88 = .ok (.invokestatic 65, 3) := by decide +kernel
theorem dX12_looks_91 : decode cX12_looks 91 = .ok (.ifCond .eq 7, 3) := by decide +kernel
theorem dX12_looks_94 : decode cX12_looks 94 = .ok (.iconst 1, 1) := by decide +kernel
theorem dX12_looks_95 : decode cX12_looks 95 = .ok (.goto 4, 3) := by decide +kernel
theorem dX12_looks_98 : decode cX12_looks 98 = .ok (.iconst 0, 1) := by decide +kernel
theorem dX12_looks_99 : decode cX12_looks 99 = .ok (.ireturn, 1) := by decide +kernel
set_option maxRecDepth 20000 in
theorem ggX12_fault_X12_looks : GoodIn wsX12_fault wsX12_looks := goodIn_r _ [6, 7, 8, 9, 10, 5, 11] rfl (by decide +kernel)
set_option maxRecDepth 20000 in
theorem gX12_fault_X12_looks : GoodIn wsX12_fault (va_wsS RX12 166 yX12_looks wsX12_looks) := goodIn_app (goodIn_sub (List.forall_mem_cons.mpr ⟨List.mem_of_getElem? (i := 3) rfl, List.forall_mem_cons.mpr ⟨List.mem_of_getElem? (i := 4) rfl, List.forall_mem_cons.mpr ⟨List.mem_of_getElem? (i := 5) rfl, fun _ h => absurd h List.not_mem_nil⟩⟩⟩) (by decide +kernel)) ggX12_fault_X12_looks
theorem dX12_fault_0 : decode cX12_fault 0 = .ok (.iconst 0, 1) := by decide +kernel
theorem dX12_fault_1 : decode cX12_fault 1 = .ok (.istore_n 1, 1) := by decide +kernel
theorem dX12_fault_2 : decode cX12_fault 2 = .ok (.iconst 0, 1) := by decide +kernel
theorem dX12_fault_3 : decode cX12_fault 3 = .ok (.istore_n 2, 1) := by decide +kernel
theorem dX12_fault_4 : decode cX12_fault 4 = .ok (.iload_n 2, 1) := by decide +kernel
theorem dX12_fault_5 : decode cX12_fault 5 = .ok (.aload_n 0, 1) := by decide +kernel
theorem dX12_fault_6 : decode cX12_fault 6 = .ok (.getfield 157, 3) := by decide +kernel
theorem dX12_fault_9 : decode cX12_fault 9 = .ok (.if_icmp .ge 83, 3) := by decide +kernel
theorem dX12_fault_12 : decode cX12_fault 12 = .ok (.aload_n 0, 1) := by decide +kernel
theorem dX12_fault_13 : decode cX12_fault 13 = .ok (.getfield 7, 3) := by decide +kernel
theorem dX12_fault_16 : decode cX12_fault 16 = .ok (.iload_n 2, 1) := by decide +kernel
theorem dX12_fault_17 : decode cX12_fault 17 = .ok (.iaload, 1) := by decide +kernel
theorem dX12_fault_18 : decode cX12_fault 18 = .ok (.istore_n 3, 1) := by decide +kernel
theorem dX12_fault_19 : decode cX12_fault 19 = .ok (.iload_n 3, 1) := by decide +kernel
theorem dX12_fault_20 : decode cX12_fault 20 = .ok (.invokestatic 166, 3) := by decide +kernel
theorem dX12_fault_23 : decode cX12_fault 23 = .ok (.ifCond .eq 17, 3) := by decide +kernel
theorem dX12_fault_26 : decode cX12_fault 26 = .ok (.iload_n 1, 1) := by decide +kernel
theorem dX12_fault_27 : decode cX12_fault 27 = .ok (.bipush 8, 2) := by decide +kernel
theorem dX12_fault_29 : decode cX12_fault 29 = .ok (.if_icmp .ne 5, 3) := by decide +kernel
theorem dX12_fault_32 : decode cX12_fault 32 = .ok (.iload_n 2, 1) := by decide +kernel
theorem dX12_fault_33 : decode cX12_fault 33 = .ok (.ireturn, 1) := by decide +kernel
theorem dX12_fault_34 : decode cX12_fault 34 = .ok (.iinc 1 1, 3) := by decide +kernel
theorem dX12_fault_37 : decode cX12_fault 37 = .ok (.goto 49, 3) := by decide +kernel
theorem dX12_fault_40 : decode cX12_fault 40 = .ok (.iload_n 3, 1) := by decide +kernel
theorem dX12_fault_41 : decode cX12_fault 41 = .ok (.bipush 126, 2) := by decide +kernel
theorem dX12_fault_43 : decode cX12_fault 43 = .ok (.if_icmp .ne 10, 3) := by decide +kernel
theorem dX12_fault_46 : decode cX12_fault 46 = .ok (.iload_n 1, 1) := by decide +kernel
theorem dX12_fault_47 : decode cX12_fault 47 = .ok (.iconst 1, 1) := by decide +kernel
theorem dX12_fault_48 : decode cX12_fault 48 = .ok (.if_icmp .ge 38, 3) := by decide +kernel
theorem dX12_fault_51 : decode cX12_fault 51 = .ok (.iload_n 2, 1) := by decide +kernel
theorem dX12_fault_52 : decode cX12_fault 52 = .ok (.ireturn, 1) := by decide +kernel
theorem dX12_fault_53 : decode cX12_fault 53 = .ok (.iload_n 3, 1) := by decide +kernel
theorem dX12_fault_54 : decode cX12_fault 54 = .ok (.bipush 38, 2) := by decide +kernel
theorem dX12_fault_56 : decode cX12_fault 56 = .ok (.if_icmp .eq 15, 3) := by decide +kernel
theorem dX12_fault_59 : decode cX12_fault 59 = .ok (.iload_n 3, 1) := by decide +kernel
theorem dX12_fault_60 : decode cX12_fault 60 = .ok (.bipush 124, 2) := by decide +kernel
theorem dX12_fault_62 : decode cX12_fault 62 = .ok (.if_icmp .eq 9, 3) := by decide +kernel
theorem dX12_fault_65 : decode cX12_fault 65 = .ok (.iload_n 3, 1) := by decide +kernel
theorem dX12_fault_66 : decode cX12_fault 66 = .ok (.bipush 94, 2) := by decide +kernel
theorem dX12_fault_68 : decode cX12_fault 68 = .ok (.if_icmp .ne 16, 3) := by decide +kernel
theorem dX12_fault_71 : decode cX12_fault 71 = .ok (.iload_n 1, 1) := by decide +kernel
theorem dX12_fault_72 : decode cX12_fault 72 = .ok (.iconst 2, 1) := by decide +kernel
theorem dX12_fault_73 : decode cX12_fault 73 = .ok (.if_icmp .ge 5, 3) := by decide +kernel
theorem dX12_fault_76 : decode cX12_fault 76 = .ok (.iload_n 2, 1) := by decide +kernel
theorem dX12_fault_77 : decode cX12_fault 77 = .ok (.ireturn, 1) := by decide +kernel
theorem dX12_fault_78 : decode cX12_fault 78 = .ok (.iinc 1 (-1), 3) := by decide +kernel
theorem dX12_fault_81 : decode cX12_fault 81 = .ok (.goto 5, 3) := by decide +kernel
theorem dX12_fault_84 : decode cX12_fault 84 = .ok (.iload_n 2, 1) := by decide +kernel
theorem dX12_fault_85 : decode cX12_fault 85 = .ok (.ireturn, 1) := by decide +kernel
theorem dX12_fault_86 : decode cX12_fault 86 = .ok (.iinc 2 1, 3) := by decide +kernel
theorem dX12_fault_89 : decode cX12_fault 89 = .ok (.goto (-85), 3) := by decide +kernel
theorem dX12_fault_92 : decode cX12_fault 92 = .ok (.iload_n 1, 1) := by decide +kernel
theorem dX12_fault_93 : decode cX12_fault 93 = .ok (.iconst 1, 1) := by decide +kernel
theorem dX12_fault_94 : decode cX12_fault 94 = .ok (.if_icmp .ne 8, 3) := by decide +kernel
theorem dX12_fault_97 : decode cX12_fault 97 = .ok (.bipush (-4), 2) := by decide +kernel
theorem dX12_fault_99 : decode cX12_fault 99 = .ok (.goto 7, 3) := by decide +kernel
theorem dX12_fault_102 : decode cX12_fault 102 = .ok (.aload_n 0, 1) := by decide +kernel
theorem dX12_fault_103 : decode cX12_fault 103 = .ok (.getfield 157, 3) := by decide +kernel
theorem dX12_fault_106 : decode cX12_fault 106 = .ok (.ireturn, 1) := by decide +kernel
set_option maxRecDepth 20000 in
theorem ggX12_lookAt_X12_layPrimes : GoodIn wsX12_lookAt wsX12_layPrimes := goodIn_r _ [9, 3, 10, 4, 11, 12, 13, 14, 15, 16, 17, 18, 19, 20, 21, 22, 23, 24, 25, 26, 27, 28, 29, 30, 31] rfl (by decide +kernel)
set_option maxRecDepth 20000 in
theorem gX12_lookAt_X12_layPrimes : GoodIn wsX12_lookAt (wsV RX12 55 RX12 yX12_layPrimes wsX12_layPrimes) := goodIn_app (goodIn_sub (List.forall_mem_cons.mpr ⟨List.mem_of_getElem? (i := 5) rfl, List.forall_mem_cons.mpr ⟨List.mem_of_getElem? (i := 6) rfl, List.forall_mem_cons.mpr ⟨List.mem_of_getElem? (i := 7) rfl, List.forall_mem_cons.mpr ⟨List.mem_of_getElem? (i := 8) rfl, fun _ h => absurd h List.not_mem_nil⟩⟩⟩⟩) (by decide +kernel)) ggX12_lookAt_X12_layPrimes
theorem dX12_lookAt_0 : decode cX12_lookAt 0 = .ok (.aload_n 0, 1) := by decide +kernel
theorem dX12_lookAt_1 : decode cX12_lookAt 1 = .ok (.iload_n 1, 1) := by decide +kernel
theorem dX12_lookAt_2 : decode cX12_lookAt 2 = .ok (.i2l, 1) := by decide +kernel
theorem dX12_lookAt_3 : decode cX12_lookAt 3 = .ok (.invokevirtual 55, 3) := by decide +kernel
theorem dX12_lookAt_6 : decode cX12_lookAt 6 = .ok (.aload_n 0, 1) := by decide +kernel
theorem dX12_lookAt_7 : decode cX12_lookAt 7 = .ok (.iconst 0, 1) := by decide +kernel
theorem dX12_lookAt_8 : decode cX12_lookAt 8 = .ok (.putfield 169, 3) := by decide +kernel
theorem dX12_lookAt_11 : decode cX12_lookAt 11 = .ok (.aload_n 0, 1) := by decide +kernel
theorem dX12_lookAt_12 : decode cX12_lookAt 12 = .ok (.iconst 1, 1) := by decide +kernel
theorem dX12_lookAt_13 : decode cX12_lookAt 13 = .ok (.putfield 172, 3) := by decide +kernel
theorem dX12_lookAt_16 : decode cX12_lookAt 16 = .ok (.iconst 0, 1) := by decide +kernel
theorem dX12_lookAt_17 : decode cX12_lookAt 17 = .ok (.istore_n 2, 1) := by decide +kernel
theorem dX12_lookAt_18 : decode cX12_lookAt 18 = .ok (.iload_n 2, 1) := by decide +kernel
theorem dX12_lookAt_19 : decode cX12_lookAt 19 = .ok (.aload_n 0, 1) := by decide +kernel
theorem dX12_lookAt_20 : decode cX12_lookAt 20 = .ok (.getfield 50, 3) := by decide +kernel
theorem dX12_lookAt_23 : decode cX12_lookAt 23 = .ok (.if_icmp .ge 75, 3) := by decide +kernel
theorem dX12_lookAt_26 : decode cX12_lookAt 26 = .ok (.iload_n 2, 1) := by decide +kernel
theorem dX12_lookAt_27 : decode cX12_lookAt 27 = .ok (.ifCond .le 25, 3) := by decide +kernel
theorem dX12_lookAt_30 : decode cX12_lookAt 30 = .ok (.aload_n 0, 1) := by decide +kernel
theorem dX12_lookAt_31 : decode cX12_lookAt 31 = .ok (.getfield 13, 3) := by decide +kernel
theorem dX12_lookAt_34 : decode cX12_lookAt 34 = .ok (.iload_n 2, 1) := by decide +kernel
theorem dX12_lookAt_35 : decode cX12_lookAt 35 = .ok (.laload, 1) := by decide +kernel
theorem dX12_lookAt_36 : decode cX12_lookAt 36 = .ok (.aload_n 0, 1) := by decide +kernel
theorem dX12_lookAt_37 : decode cX12_lookAt 37 = .ok (.getfield 13, 3) := by decide +kernel
theorem dX12_lookAt_40 : decode cX12_lookAt 40 = .ok (.iload_n 2, 1) := by decide +kernel
theorem dX12_lookAt_41 : decode cX12_lookAt 41 = .ok (.iconst 1, 1) := by decide +kernel
theorem dX12_lookAt_42 : decode cX12_lookAt 42 = .ok (.isub, 1) := by decide +kernel
theorem dX12_lookAt_43 : decode cX12_lookAt 43 = .ok (.laload, 1) := by decide +kernel
theorem dX12_lookAt_44 : decode cX12_lookAt 44 = .ok (.lcmp, 1) := by decide +kernel
theorem dX12_lookAt_45 : decode cX12_lookAt 45 = .ok (.ifCond .ne 7, 3) := by decide +kernel
theorem dX12_lookAt_48 : decode cX12_lookAt 48 = .ok (.iconst 1, 1) := by decide +kernel
theorem dX12_lookAt_49 : decode cX12_lookAt 49 = .ok (.goto 4, 3) := by decide +kernel
theorem dX12_lookAt_52 : decode cX12_lookAt 52 = .ok (.iconst 0, 1) := by decide +kernel
theorem dX12_lookAt_53 : decode cX12_lookAt 53 = .ok (.istore_n 3, 1) := by decide +kernel
theorem dX12_lookAt_54 : decode cX12_lookAt 54 = .ok (.aload_n 0, 1) := by decide +kernel
theorem dX12_lookAt_55 : decode cX12_lookAt 55 = .ok (.dup, 1) := by decide +kernel
theorem dX12_lookAt_56 : decode cX12_lookAt 56 = .ok (.getfield 169, 3) := by decide +kernel
theorem dX12_lookAt_59 : decode cX12_lookAt 59 = .ok (.iload_n 3, 1) := by decide +kernel
theorem dX12_lookAt_60 : decode cX12_lookAt 60 = .ok (.ifCond .eq 7, 3) := by decide +kernel
theorem dX12_lookAt_63 : decode cX12_lookAt 63 = .ok (.iconst 0, 1) := by decide +kernel
theorem dX12_lookAt_64 : decode cX12_lookAt 64 = .ok (.goto 4, 3) := by decide +kernel
theorem dX12_lookAt_67 : decode cX12_lookAt 67 = .ok (.iconst 1, 1) := by decide +kernel
theorem dX12_lookAt_68 : decode cX12_lookAt 68 = .ok (.iadd, 1) := by decide +kernel
theorem dX12_lookAt_69 : decode cX12_lookAt 69 = .ok (.putfield 169, 3) := by decide +kernel
theorem dX12_lookAt_72 : decode cX12_lookAt 72 = .ok (.aload_n 0, 1) := by decide +kernel
theorem dX12_lookAt_73 : decode cX12_lookAt 73 = .ok (.aload_n 0, 1) := by decide +kernel
theorem dX12_lookAt_74 : decode cX12_lookAt 74 = .ok (.getfield 172, 3) := by decide +kernel
theorem dX12_lookAt_77 : decode cX12_lookAt 77 = .ok (.ifCond .eq 11, 3) := by decide +kernel
theorem dX12_lookAt_80 : decode cX12_lookAt 80 = .ok (.iload_n 3, 1) := by decide +kernel
theorem dX12_lookAt_81 : decode cX12_lookAt 81 = .ok (.ifCond .ne 7, 3) := by decide +kernel
theorem dX12_lookAt_84 : decode cX12_lookAt 84 = .ok (.iconst 1, 1) := by decide +kernel
theorem dX12_lookAt_85 : decode cX12_lookAt 85 = .ok (.goto 4, 3) := by decide +kernel
theorem dX12_lookAt_88 : decode cX12_lookAt 88 = .ok (.iconst 0, 1) := by decide +kernel
theorem dX12_lookAt_89 : decode cX12_lookAt 89 = .ok (.putfield 172, 3) := by decide +kernel
theorem dX12_lookAt_92 : decode cX12_lookAt 92 = .ok (.iinc 2 1, 3) := by decide +kernel
theorem dX12_lookAt_95 : decode cX12_lookAt 95 = .ok (.goto (-77), 3) := by decide +kernel
theorem dX12_lookAt_98 : decode cX12_lookAt 98 = .ok (.return_, 1) := by decide +kernel
set_option maxRecDepth 20000 in
theorem ggX12_seen_X12_weigh : GoodIn wsX12_seen wsX12_weigh := goodIn_r _ [10, 11, 31, 32, 33, 34, 35, 36, 37, 38, 39, 40, 41, 42, 43, 44, 45, 46, 47, 48, 49, 50, 51] rfl (by decide +kernel)
set_option maxRecDepth 20000 in
theorem gX12_seen_X12_weigh : GoodIn wsX12_seen (wsV RX12 136 RX12 yX12_weigh wsX12_weigh) := goodIn_app (goodIn_sub (List.forall_mem_cons.mpr ⟨List.mem_of_getElem? (i := 6) rfl, List.forall_mem_cons.mpr ⟨List.mem_of_getElem? (i := 7) rfl, List.forall_mem_cons.mpr ⟨List.mem_of_getElem? (i := 8) rfl, List.forall_mem_cons.mpr ⟨List.mem_of_getElem? (i := 9) rfl, fun _ h => absurd h List.not_mem_nil⟩⟩⟩⟩) (by decide +kernel)) ggX12_seen_X12_weigh
set_option maxRecDepth 20000 in
theorem ggX12_seen_X12_sortOf : GoodIn wsX12_seen wsX12_sortOf := goodIn_r _ [15, 6, 7, 8, 9, 10, 11, 31, 32, 33, 34, 35, 36, 37, 38, 39, 40, 41, 42, 43, 44, 45, 46, 47, 48, 49, 50, 51] rfl (by decide +kernel)
set_option maxRecDepth 20000 in
theorem gX12_seen_X12_sortOf : GoodIn wsX12_seen (wsV RX12 140 RX12 yX12_sortOf wsX12_sortOf) := goodIn_app (goodIn_sub (List.forall_mem_cons.mpr ⟨List.mem_of_getElem? (i := 12) rfl, List.forall_mem_cons.mpr ⟨List.mem_of_getElem? (i := 13) rfl, List.forall_mem_cons.mpr ⟨List.mem_of_getElem? (i := 14) rfl, List.forall_mem_cons.mpr ⟨List.mem_of_getElem? (i := 9) rfl, fun _ h => absurd h List.not_mem_nil⟩⟩⟩⟩) (by decide +kernel)) ggX12_seen_X12_sortOf
set_option maxRecDepth 20000 in
theorem ggX12_seen_X12_root : GoodIn wsX12_seen wsX12_root := goodIn_r _ [18, 19, 20] rfl (by decide +kernel)
set_option maxRecDepth 20000 in
theorem gX12_seen_X12_root : GoodIn wsX12_seen (va_wsS RX12 81 yX12_root wsX12_root) := goodIn_app (goodIn_sub (List.forall_mem_cons.mpr ⟨List.mem_of_getElem? (i := 16) rfl, List.forall_mem_cons.mpr ⟨List.mem_of_getElem? (i := 17) rfl, List.forall_mem_cons.mpr ⟨List.mem_of_getElem? (i := 9) rfl, fun _ h => absurd h List.not_mem_nil⟩⟩⟩) (by decide +kernel)) ggX12_seen_X12_root
set_option maxRecDepth 20000 in
theorem ggX12_seen_X12_lookAt : GoodIn wsX12_seen wsX12_lookAt := goodIn_r _ [24, 5, 2, 25, 26, 27, 28, 29, 9, 30, 20, 31, 32, 33, 34, 35, 36, 37, 38, 39, 40, 41, 42, 43, 44, 45, 46, 47, 48, 49, 50, 51] rfl (by decide +kernel)
set_option maxRecDepth 20000 in
theorem gX12_seen_X12_lookAt : GoodIn wsX12_seen (wsV RX12 175 RX12 yX12_lookAt wsX12_lookAt) := goodIn_app (goodIn_sub (List.forall_mem_cons.mpr ⟨List.mem_of_getElem? (i := 21) rfl, List.forall_mem_cons.mpr ⟨List.mem_of_getElem? (i := 22) rfl, List.forall_mem_cons.mpr ⟨List.mem_of_getElem? (i := 23) rfl, List.forall_mem_cons.mpr ⟨List.mem_of_getElem? (i := 9) rfl, fun _ h => absurd h List.not_mem_nil⟩⟩⟩⟩) (by decide +kernel)) ggX12_seen_X12_lookAt
theorem dX12_seen_0 : decode cX12_seen 0 = .ok (.iload_n 1, 1) := by decide +kernel
theorem dX12_seen_1 : decode cX12_seen 1 = .ok (.tableswitch 232 98 120 #[122, 232, 232, 173, 208, 232, 218, 232, 232, 232, 232, 232, 232, 166, 152, 185, 107, 232, 225, 232, 232, 232, 137], 107) := by decide +kernel
theorem dX12_seen_108 : decode cX12_seen 108 = .ok (.aload_n 0, 1) := by decide +kernel
theorem dX12_seen_109 : decode cX12_seen 109 = .ok (.iload_n 2, 1) := by decide +kernel
theorem dX12_seen_110 : decode cX12_seen 110 = .ok (.invokevirtual 136, 3) := by decide +kernel
theorem dX12_seen_113 : decode cX12_seen 113 = .ok (.iconst 2, 1) := by decide +kernel
theorem dX12_seen_114 : decode cX12_seen 114 = .ok (.if_icmp .ne 7, 3) := by decide +kernel
theorem dX12_seen_117 : decode cX12_seen 117 = .ok (.iconst 1, 1) := by decide +kernel
theorem dX12_seen_118 : decode cX12_seen 118 = .ok (.goto 4, 3) := by decide +kernel
theorem dX12_seen_121 : decode cX12_seen 121 = .ok (.iconst 0, 1) := by decide +kernel
theorem dX12_seen_122 : decode cX12_seen 122 = .ok (.ireturn, 1) := by decide +kernel
theorem dX12_seen_123 : decode cX12_seen 123 = .ok (.aload_n 0, 1) := by decide +kernel
theorem dX12_seen_124 : decode cX12_seen 124 = .ok (.iload_n 2, 1) := by decide +kernel
theorem dX12_seen_125 : decode cX12_seen 125 = .ok (.invokevirtual 140, 3) := by decide +kernel
theorem dX12_seen_128 : decode cX12_seen 128 = .ok (.iconst 3, 1) := by decide +kernel
theorem dX12_seen_129 : decode cX12_seen 129 = .ok (.if_icmp .ne 7, 3) := by decide +kernel
theorem dX12_seen_132 : decode cX12_seen 132 = .ok (.iconst 1, 1) := by decide +kernel
theorem dX12_seen_133 : decode cX12_seen 133 = .ok (.goto 4, 3) := by decide +kernel
theorem dX12_seen_136 : decode cX12_seen 136 = .ok (.iconst 0, 1) := by decide +kernel
theorem dX12_seen_137 : decode cX12_seen 137 = .ok (.ireturn, 1) := by decide +kernel
theorem dX12_seen_138 : decode cX12_seen 138 = .ok (.aload_n 0, 1) := by decide +kernel
theorem dX12_seen_139 : decode cX12_seen 139 = .ok (.iload_n 2, 1) := by decide +kernel
theorem dX12_seen_140 : decode cX12_seen 140 = .ok (.invokevirtual 136, 3) := by decide +kernel
theorem dX12_seen_143 : decode cX12_seen 143 = .ok (.iconst 1, 1) := by decide +kernel
theorem dX12_seen_144 : decode cX12_seen 144 = .ok (.if_icmp .ne 7, 3) := by decide +kernel
theorem dX12_seen_147 : decode cX12_seen 147 = .ok (.iconst 1, 1) := by decide +kernel
theorem dX12_seen_148 : decode cX12_seen 148 = .ok (.goto 4, 3) := by decide +kernel
theorem dX12_seen_151 : decode cX12_seen 151 = .ok (.iconst 0, 1) := by decide +kernel
theorem dX12_seen_152 : decode cX12_seen 152 = .ok (.ireturn, 1) := by decide +kernel
theorem dX12_seen_153 : decode cX12_seen 153 = .ok (.aload_n 0, 1) := by decide +kernel
theorem dX12_seen_154 : decode cX12_seen 154 = .ok (.iload_n 2, 1) := by decide +kernel
theorem dX12_seen_155 : decode cX12_seen 155 = .ok (.invokevirtual 136, 3) := by decide +kernel
theorem dX12_seen_158 : decode cX12_seen 158 = .ok (.ifCond .ne 7, 3) := by decide +kernel
theorem dX12_seen_161 : decode cX12_seen 161 = .ok (.iconst 1, 1) := by decide +kernel
theorem dX12_seen_162 : decode cX12_seen 162 = .ok (.goto 4, 3) := by decide +kernel
theorem dX12_seen_165 : decode cX12_seen 165 = .ok (.iconst 0, 1) := by decide +kernel
theorem dX12_seen_166 : decode cX12_seen 166 = .ok (.ireturn, 1) := by decide +kernel
theorem dX12_seen_167 : decode cX12_seen 167 = .ok (.aload_n 0, 1) := by decide +kernel
theorem dX12_seen_168 : decode cX12_seen 168 = .ok (.getfield 30, 3) := by decide +kernel
theorem dX12_seen_171 : decode cX12_seen 171 = .ok (.iload_n 2, 1) := by decide +kernel
theorem dX12_seen_172 : decode cX12_seen 172 = .ok (.baload, 1) := by decide +kernel
theorem dX12_seen_173 : decode cX12_seen 173 = .ok (.ireturn, 1) := by decide +kernel
theorem dX12_seen_174 : decode cX12_seen 174 = .ok (.iload_n 2, 1) := by decide +kernel
theorem dX12_seen_175 : decode cX12_seen 175 = .ok (.iconst 2, 1) := by decide +kernel
theorem dX12_seen_176 : decode cX12_seen 176 = .ok (.irem, 1) := by decide +kernel
theorem dX12_seen_177 : decode cX12_seen 177 = .ok (.ifCond .ne 7, 3) := by decide +kernel
theorem dX12_seen_180 : decode cX12_seen 180 = .ok (.iconst 1, 1) := by decide +kernel
theorem dX12_seen_181 : decode cX12_seen 181 = .ok (.goto 4, 3) := by decide +kernel
theorem dX12_seen_184 : decode cX12_seen 184 = .ok (.iconst 0, 1) := by decide +kernel
theorem dX12_seen_185 : decode cX12_seen 185 = .ok (.ireturn, 1) := by decide +kernel
theorem dX12_seen_186 : decode cX12_seen 186 = .ok (.iload_n 2, 1) := by decide +kernel
theorem dX12_seen_187 : decode cX12_seen 187 = .ok (.i2l, 1) := by decide +kernel
theorem dX12_seen_188 : decode cX12_seen 188 = .ok (.invokestatic 81, 3) := by decide +kernel
theorem dX12_seen_191 : decode cX12_seen 191 = .ok (.iload_n 2, 1) := by decide +kernel
theorem dX12_seen_192 : decode cX12_seen 192 = .ok (.i2l, 1) := by decide +kernel
theorem dX12_seen_193 : decode cX12_seen 193 = .ok (.invokestatic 81, 3) := by decide +kernel
theorem dX12_seen_196 : decode cX12_seen 196 = .ok (.lmul, 1) := by decide +kernel
theorem dX12_seen_197 : decode cX12_seen 197 = .ok (.iload_n 2, 1) := by decide +kernel
theorem dX12_seen_198 : decode cX12_seen 198 = .ok (.i2l, 1) := by decide +kernel
theorem dX12_seen_199 : decode cX12_seen 199 = .ok (.lcmp, 1) := by decide +kernel
theorem dX12_seen_200 : decode cX12_seen 200 = .ok (.ifCond .ne 7, 3) := by decide +kernel
theorem dX12_seen_203 : decode cX12_seen 203 = .ok (.iconst 1, 1) := by decide +kernel
theorem dX12_seen_204 : decode cX12_seen 204 = .ok (.goto 4, 3) := by decide +kernel
theorem dX12_seen_207 : decode cX12_seen 207 = .ok (.iconst 0, 1) := by decide +kernel
theorem dX12_seen_208 : decode cX12_seen 208 = .ok (.ireturn, 1) := by decide +kernel
theorem dX12_seen_209 : decode cX12_seen 209 = .ok (.aload_n 0, 1) := by decide +kernel
theorem dX12_seen_210 : decode cX12_seen 210 = .ok (.iload_n 2, 1) := by decide +kernel
theorem dX12_seen_211 : decode cX12_seen 211 = .ok (.invokevirtual 175, 3) := by decide +kernel
theorem dX12_seen_214 : decode cX12_seen 214 = .ok (.aload_n 0, 1) := by decide +kernel
theorem dX12_seen_215 : decode cX12_seen 215 = .ok (.getfield 172, 3) := by decide +kernel
theorem dX12_seen_218 : decode cX12_seen 218 = .ok (.ireturn, 1) := by decide +kernel
theorem dX12_seen_219 : decode cX12_seen 219 = .ok (.aload_n 0, 1) := by decide +kernel
theorem dX12_seen_220 : decode cX12_seen 220 = .ok (.getfield 34, 3) := by decide +kernel
theorem dX12_seen_223 : decode cX12_seen 223 = .ok (.iload_n 2, 1) := by decide +kernel
theorem dX12_seen_224 : decode cX12_seen 224 = .ok (.baload, 1) := by decide +kernel
theorem dX12_seen_225 : decode cX12_seen 225 = .ok (.ireturn, 1) := by decide +kernel
theorem dX12_seen_226 : decode cX12_seen 226 = .ok (.aload_n 0, 1) := by decide +kernel
theorem dX12_seen_227 : decode cX12_seen 227 = .ok (.getfield 37, 3) := by decide +kernel
theorem dX12_seen_230 : decode cX12_seen 230 = .ok (.iload_n 2, 1) := by decide +kernel
theorem dX12_seen_231 : decode cX12_seen 231 = .ok (.baload, 1) := by decide +kernel
theorem dX12_seen_232 : decode cX12_seen 232 = .ok (.ireturn, 1) := by decide +kernel
theorem dX12_seen_233 : decode cX12_seen 233 = .ok (.aload_n 0, 1) := by decide +kernel
theorem dX12_seen_234 : decode cX12_seen 234 = .ok (.iload_n 2, 1) := by decide +kernel
theorem dX12_seen_235 : decode cX12_seen 235 = .ok (.invokevirtual 175, 3) := by decide +kernel
theorem dX12_seen_238 : decode cX12_seen 238 = .ok (.aload_n 0, 1) := by decide +kernel
theorem dX12_seen_239 : decode cX12_seen 239 = .ok (.getfield 169, 3) := by decide +kernel
theorem dX12_seen_242 : decode cX12_seen 242 = .ok (.iload_n 1, 1) := by decide +kernel
theorem dX12_seen_243 : decode cX12_seen 243 = .ok (.bipush 48, 2) := by decide +kernel
theorem dX12_seen_245 : decode cX12_seen 245 = .ok (.isub, 1) := by decide +kernel
theorem dX12_seen_246 : decode cX12_seen 246 = .ok (.if_icmp .ne 7, 3) := by decide +kernel
theorem dX12_seen_249 : decode cX12_seen 249 = .ok (.iconst 1, 1) := by decide +kernel
theorem dX12_seen_250 : decode cX12_seen 250 = .ok (.goto 4, 3) := by decide +kernel
theorem dX12_seen_253 : decode cX12_seen 253 = .ok (.iconst 0, 1) := by decide +kernel
theorem dX12_seen_254 : decode cX12_seen 254 = .ok (.ireturn, 1) := by decide +kernel
set_option maxRecDepth 20000 in
theorem ggX12_isWished_X12_looks : GoodIn wsX12_isWished wsX12_looks := goodIn_r _ [7, 8, 9, 10, 11, 6, 12] rfl (by decide +kernel)
set_option maxRecDepth 20000 in
theorem gX12_isWished_X12_looks : GoodIn wsX12_isWished (va_wsS RX12 166 yX12_looks wsX12_looks) := goodIn_app (goodIn_sub (List.forall_mem_cons.mpr ⟨List.mem_of_getElem? (i := 4) rfl, List.forall_mem_cons.mpr ⟨List.mem_of_getElem? (i := 5) rfl, List.forall_mem_cons.mpr ⟨List.mem_of_getElem? (i := 6) rfl, fun _ h => absurd h List.not_mem_nil⟩⟩⟩) (by decide +kernel)) ggX12_isWished_X12_looks
set_option maxRecDepth 20000 in
theorem ggX12_isWished_X12_seen : GoodIn wsX12_isWished wsX12_seen := goodIn_r _ [16, 17, 18, 19, 20, 21, 22, 23, 24, 6, 25, 26, 27, 28, 29, 30, 31, 32, 33, 34, 35, 36, 37, 38, 39, 40, 41, 42, 43, 44, 45, 46, 47, 48, 49, 50, 51, 52, 53, 54, 55, 56, 57, 58, 59, 60, 61, 62, 63, 64, 65, 66] rfl (by decide +kernel)
set_option maxRecDepth 20000 in
theorem gX12_isWished_X12_seen : GoodIn wsX12_isWished (wsV RX12 178 RX12 yX12_seen wsX12_seen) := goodIn_app (goodIn_sub (List.forall_mem_cons.mpr ⟨List.mem_of_getElem? (i := 13) rfl, List.forall_mem_cons.mpr ⟨List.mem_of_getElem? (i := 14) rfl, List.forall_mem_cons.mpr ⟨List.mem_of_getElem? (i := 15) rfl, List.forall_mem_cons.mpr ⟨List.mem_of_getElem? (i := 6) rfl, fun _ h => absurd h List.not_mem_nil⟩⟩⟩⟩) (by decide +kernel)) ggX12_isWished_X12_seen
theorem dX12_isWished_0 : decode cX12_isWished 0 = .ok (.iconst 0, 1) := by decide +kernel
theorem dX12_isWished_1 : decode cX12_isWished 1 = .ok (.istore_n 2, 1) := by decide +kernel
theorem dX12_isWished_2 : decode cX12_isWished 2 = .ok (.iconst 0, 1) := by decide +kernel
theorem dX12_isWished_3 : decode cX12_isWished 3 = .ok (.istore_n 3, 1) := by decide +kernel
theorem dX12_isWished_4 : decode cX12_isWished 4 = .ok (.iload_n 3, 1) := by decide +kernel
theorem dX12_isWished_5 : decode cX12_isWished 5 = .ok (.aload_n 0, 1) := by decide +kernel
theorem dX12_isWished_6 : decode cX12_isWished 6 = .ok (.getfield 157, 3) := by decide +kernel
theorem dX12_isWished_9 : decode cX12_isWished 9 = .ok (.if_icmp .ge 169, 3) := by decide +kernel
theorem dX12_isWished_12 : decode cX12_isWished 12 = .ok (.aload_n 0, 1) := by decide +kernel
theorem dX12_isWished_13 : decode cX12_isWished 13 = .ok (.getfield 7, 3) := by decide +kernel
theorem dX12_isWished_16 : decode cX12_isWished 16 = .ok (.iload_n 3, 1) := by decide +kernel
theorem dX12_isWished_17 : decode cX12_isWished 17 = .ok (.iaload, 1) := by decide +kernel
theorem dX12_isWished_18 : decode cX12_isWished 18 = .ok (.istore 4, 2) := by decide +kernel
theorem dX12_isWished_20 : decode cX12_isWished 20 = .ok (.iload 4, 2) := by decide +kernel
theorem dX12_isWished_22 : decode cX12_isWished 22 = .ok (.invokestatic 166, 3) := by decide +kernel
theorem dX12_isWished_25 : decode cX12_isWished 25 = .ok (.ifCond .eq 22, 3) := by decide +kernel
theorem dX12_isWished_28 : decode cX12_isWished 28 = .ok (.aload_n 0, 1) := by decide +kernel
theorem dX12_isWished_29 : decode cX12_isWished 29 = .ok (.getfield 43, 3) := by decide +kernel
theorem dX12_isWished_32 : decode cX12_isWished 32 = .ok (.iload_n 2, 1) := by decide +kernel
theorem dX12_isWished_33 : decode cX12_isWished 33 = .ok (.aload_n 0, 1) := by decide +kernel
theorem dX12_isWished_34 : decode cX12_isWished 34 = .ok (.iload 4, 2) := by decide +kernel
theorem dX12_isWished_36 : decode cX12_isWished 36 = .ok (.iload_n 1, 1) := by decide +kernel
theorem dX12_isWished_37 : decode cX12_isWished 37 = .ok (.invokevirtual 178, 3) := by decide +kernel
theorem dX12_isWished_40 : decode cX12_isWished 40 = .ok (.bastore, 1) := by decide +kernel
theorem dX12_isWished_41 : decode cX12_isWished 41 = .ok (.iinc 2 1, 3) := by decide +kernel
theorem dX12_isWished_44 : decode cX12_isWished 44 = .ok (.goto 128, 3) := by decide +kernel
theorem dX12_isWished_47 : decode cX12_isWished 47 = .ok (.iload 4, 2) := by decide +kernel
theorem dX12_isWished_49 : decode cX12_isWished 49 = .ok (.bipush 126, 2) := by decide +kernel
theorem dX12_isWished_51 : decode cX12_isWished 51 = .ok (.if_icmp .ne 30, 3) := by decide +kernel
theorem dX12_isWished_54 : decode cX12_isWished 54 = .ok (.aload_n 0, 1) := by decide +kernel
theorem dX12_isWished_55 : decode cX12_isWished 55 = .ok (.getfield 43, 3) := by decide +kernel
theorem dX12_isWished_58 : decode cX12_isWished 58 = .ok (.iload_n 2, 1) := by decide +kernel
theorem dX12_isWished_59 : decode cX12_isWished 59 = .ok (.iconst 1, 1) := by decide +kernel
theorem dX12_isWished_60 : decode cX12_isWished 60 = .ok (.isub, 1) := by decide +kernel
theorem dX12_isWished_61 : decode cX12_isWished 61 = .ok (.aload_n 0, 1) := by decide +kernel
theorem dX12_isWished_62 : decode cX12_isWished 62 = .ok (.getfield 43, 3) := by decide +kernel
theorem dX12_isWished_65 : decode cX12_isWished 65 = .ok (.iload_n 2, 1) := by decide +kernel
theorem dX12_isWished_66 : decode cX12_isWished 66 = .ok (.iconst 1, 1) := by decide +kernel
theorem dX12_isWished_67 : decode cX12_isWished 67 = .ok (.isub, 1) := by decide +kernel
theorem dX12_isWished_68 : decode cX12_isWished 68 = .ok (.baload, 1) := by decide +kernel
theorem dX12_isWished_69 : decode cX12_isWished 69 = .ok (.ifCond .ne 7, 3) := by decide +kernel
theorem dX12_isWished_72 : decode cX12_isWished 72 = .ok (.iconst 1, 1) := by decide +kernel
theorem dX12_isWished_73 : decode cX12_isWished 73 = .ok (.goto 4, 3) := by decide +kernel
theorem dX12_isWished_76 : decode cX12_isWished 76 = .ok (.iconst 0, 1) := by decide +kernel
theorem dX12_isWished_77 : decode cX12_isWished 77 = .ok (.bastore, 1) := by decide +kernel
theorem dX12_isWished_78 : decode cX12_isWished 78 = .ok (.goto 94, 3) := by decide +kernel
theorem dX12_isWished_81 : decode cX12_isWished 81 = .ok (.iinc 2 (-1), 3) := by decide +kernel
theorem dX12_isWished_84 : decode cX12_isWished 84 = .ok (.aload_n 0, 1) := by decide +kernel
theorem dX12_isWished_85 : decode cX12_isWished 85 = .ok (.getfield 43, 3) := by decide +kernel
theorem dX12_isWished_88 : decode cX12_isWished 88 = .ok (.iload_n 2, 1) := by decide +kernel
theorem dX12_isWished_89 : decode cX12_isWished 89 = .ok (.iconst 1, 1) := by decide +kernel
theorem dX12_isWished_90 : decode cX12_isWished 90 = .ok (.isub, 1) := by decide +kernel
theorem dX12_isWished_91 : decode cX12_isWished 91 = .ok (.baload, 1) := by decide +kernel
theorem dX12_isWished_92 : decode cX12_isWished 92 = .ok (.istore 5, 2) := by decide +kernel
theorem dX12_isWished_94 : decode cX12_isWished 94 = .ok (.aload_n 0, 1) := by decide +kernel
theorem dX12_isWished_95 : decode cX12_isWished 95 = .ok (.getfield 43, 3) := by decide +kernel
theorem dX12_isWished_98 : decode cX12_isWished 98 = .ok (.iload_n 2, 1) := by decide +kernel
theorem dX12_isWished_99 : decode cX12_isWished 99 = .ok (.baload, 1) := by decide +kernel
theorem dX12_isWished_100 : decode cX12_isWished 100 = .ok (.istore 6, 2) := by decide +kernel
theorem dX12_isWished_102 : decode cX12_isWished 102 = .ok (.aload_n 0, 1) := by decide +kernel
theorem dX12_isWished_103 : decode cX12_isWished 103 = .ok (.getfield 43, 3) := by decide +kernel
theorem dX12_isWished_106 : decode cX12_isWished 106 = .ok (.iload_n 2, 1) := by decide +kernel
theorem dX12_isWished_107 : decode cX12_isWished 107 = .ok (.iconst 1, 1) := by decide +kernel
theorem dX12_isWished_108 : decode cX12_isWished 108 = .ok (.isub, 1) := by decide +kernel
theorem dX12_isWished_109 : decode cX12_isWished 109 = .ok (.iload 4, 2) := by decide +kernel
theorem dX12_isWished_111 : decode cX12_isWished 111 = .ok (.bipush 38, 2) := by decide +kernel
theorem dX12_isWished_113 : decode cX12_isWished 113 = .ok (.if_icmp .ne 21, 3) := by decide +kernel
theorem dX12_isWished_116 : decode cX12_isWished 116 = .ok (.iload 5, 2) := by decide +kernel
theorem dX12_isWished_118 : decode cX12_isWished 118 = .ok (.ifCond .eq 12, 3) := by decide +kernel
theorem dX12_isWished_121 : decode cX12_isWished 121 = .ok (.iload 6, 2) := by decide +kernel
theorem dX12_isWished_123 : decode cX12_isWished 123 = .ok (.ifCond .eq 7, 3) := by decide +kernel
theorem dX12_isWished_126 : decode cX12_isWished 126 = .ok (.iconst 1, 1) := by decide +kernel
theorem dX12_isWished_127 : decode cX12_isWished 127 = .ok (.goto 44, 3) := by decide +kernel
theorem dX12_isWished_130 : decode cX12_isWished 130 = .ok (.iconst 0, 1) := by decide +kernel
theorem dX12_isWished_131 : decode cX12_isWished 131 = .ok (.goto 40, 3) := by decide +kernel
theorem dX12_isWished_134 : decode cX12_isWished 134 = .ok (.iload 4, 2) := by decide +kernel
theorem dX12_isWished_136 : decode cX12_isWished 136 = .ok (.bipush 124, 2) := by decide +kernel
theorem dX12_isWished_138 : decode cX12_isWished 138 = .ok (.if_icmp .ne 21, 3) := by decide +kernel
theorem dX12_isWished_141 : decode cX12_isWished 141 = .ok (.iload 5, 2) := by decide +kernel
theorem dX12_isWished_143 : decode cX12_isWished 143 = .ok (.ifCond .ne 8, 3) := by decide +kernel
theorem dX12_isWished_146 : decode cX12_isWished 146 = .ok (.iload 6, 2) := by decide +kernel
theorem dX12_isWished_148 : decode cX12_isWished 148 = .ok (.ifCond .eq 7, 3) := by decide +kernel
theorem dX12_isWished_151 : decode cX12_isWished 151 = .ok (.iconst 1, 1) := by decide +kernel
theorem dX12_isWished_152 : decode cX12_isWished 152 = .ok (.goto 19, 3) := by decide +kernel
theorem dX12_isWished_155 : decode cX12_isWished 155 = .ok (.iconst 0, 1) := by decide +kernel
theorem dX12_isWished_156 : decode cX12_isWished 156 = .ok (.goto 15, 3) := by decide +kernel
theorem dX12_isWished_159 : decode cX12_isWished 159 = .ok (.iload 5, 2) := by decide +kernel
theorem dX12_isWished_161 : decode cX12_isWished 161 = .ok (.iload 6, 2) := by decide +kernel
theorem dX12_isWished_163 : decode cX12_isWished 163 = .ok (.if_icmp .eq 7, 3) := by decide +kernel
theorem dX12_isWished_166 : decode cX12_isWished 166 = .ok (.iconst 1, 1) := by decide +kernel
theorem dX12_isWished_167 : decode cX12_isWished 167 = .ok (.goto 4, 3) := by decide +kernel
theorem dX12_isWished_170 : decode cX12_isWished 170 = .ok (.iconst 0, 1) := by decide +kernel
theorem dX12_isWished_171 : decode cX12_isWished 171 = .ok (.bastore, 1) := by decide +kernel
theorem dX12_isWished_172 : decode cX12_isWished 172 = .ok (.iinc 3 1, 3) := by decide +kernel
theorem dX12_isWished_175 : decode cX12_isWished 175 = .ok (.goto (-171), 3) := by decide +kernel
theorem dX12_isWished_178 : decode cX12_isWished 178 = .ok (.aload_n 0, 1) := by decide +kernel
theorem dX12_isWished_179 : decode cX12_isWished 179 = .ok (.getfield 43, 3) := by decide +kernel
theorem dX12_isWished_182 : decode cX12_isWished 182 = .ok (.iconst 0, 1) := by decide +kernel
theorem dX12_isWished_183 : decode cX12_isWished 183 = .ok (.baload, 1) := by decide +kernel
theorem dX12_isWished_184 : decode cX12_isWished 184 = .ok (.ireturn, 1) := by decide +kernel
set_option maxRecDepth 20000 in
theorem ggX12_wished_X12_in : GoodIn wsX12_wished wsX12_in := goodIn_r _ [5] rfl (by decide +kernel)
set_option maxRecDepth 20000 in
theorem gX12_wished_X12_in : GoodIn wsX12_wished (va_wsS RX12 65 yX12_in wsX12_in) := goodIn_app (goodIn_sub (List.forall_mem_cons.mpr ⟨List.mem_of_getElem? (i := 2) rfl, List.forall_mem_cons.mpr ⟨List.mem_of_getElem? (i := 3) rfl, List.forall_mem_cons.mpr ⟨List.mem_of_getElem? (i := 4) rfl, fun _ h => absurd h List.not_mem_nil⟩⟩⟩) (by decide +kernel)) ggX12_wished_X12_in
set_option maxRecDepth 20000 in
theorem ggX12_wished_X12_fault : GoodIn wsX12_wished wsX12_fault := goodIn_r _ [9, 10, 11, 12, 13, 4, 14, 15, 16, 2, 3, 5, 79, 80, 81, 82, 83, 84, 85, 86, 87, 88, 89, 90, 91, 92, 93, 94, 95, 96, 97, 98, 99] rfl (by decide +kernel)
set_option maxRecDepth 20000 in
theorem gX12_wished_X12_fault : GoodIn wsX12_wished (wsV RX12 182 RX12 yX12_fault wsX12_fault) := goodIn_app (goodIn_sub (List.forall_mem_cons.mpr ⟨List.mem_of_getElem? (i := 6) rfl, List.forall_mem_cons.mpr ⟨List.mem_of_getElem? (i := 7) rfl, List.forall_mem_cons.mpr ⟨List.mem_of_getElem? (i := 8) rfl, List.forall_mem_cons.mpr ⟨List.mem_of_getElem? (i := 4) rfl, fun _ h => absurd h List.not_mem_nil⟩⟩⟩⟩) (by decide +kernel)) ggX12_wished_X12_fault
set_option maxRecDepth 20000 in
theorem ggX12_wished_X12_layFlags : GoodIn wsX12_wished wsX12_layFlags := goodIn_r _ [20, 21, 22, 23, 24, 25, 26, 27, 28, 4, 29, 30, 31, 32, 33, 34, 35, 36, 37, 38, 39, 40, 41, 42, 43, 44, 45, 46, 47, 48, 49, 50, 51, 52, 53, 54, 55, 79, 80, 81, 82, 83, 84, 85, 86, 87, 88, 89, 90, 91, 92, 93, 94, 95, 96, 97, 98, 99] rfl (by decide +kernel)
set_option maxRecDepth 20000 in
theorem gX12_wished_X12_layFlags : GoodIn wsX12_wished (wsV RX12 186 RX12 yX12_layFlags wsX12_layFlags) := goodIn_app (goodIn_sub (List.forall_mem_cons.mpr ⟨List.mem_of_getElem? (i := 17) rfl, List.forall_mem_cons.mpr ⟨List.mem_of_getElem? (i := 18) rfl, List.forall_mem_cons.mpr ⟨List.mem_of_getElem? (i := 19) rfl, List.forall_mem_cons.mpr ⟨List.mem_of_getElem? (i := 4) rfl, fun _ h => absurd h List.not_mem_nil⟩⟩⟩⟩) (by decide +kernel)) ggX12_wished_X12_layFlags
set_option maxRecDepth 20000 in
theorem ggX12_wished_X12_isWished : GoodIn wsX12_wished wsX12_isWished := goodIn_r _ [59, 10, 11, 60, 12, 13, 4, 14, 15, 16, 2, 3, 5, 61, 62, 63, 64, 22, 65, 23, 25, 66, 47, 48, 49, 50, 24, 67, 68, 69, 70, 71, 72, 73, 74, 46, 75, 76, 77, 78, 40, 41, 42, 43, 44, 45, 79, 80, 81, 82, 83, 84, 85, 86, 87, 88, 89, 90, 91, 92, 93, 94, 95, 96, 97, 98, 99] rfl (by decide +kernel)
set_option maxRecDepth 20000 in
theorem gX12_wished_X12_isWished : GoodIn wsX12_wished (wsV RX12 189 RX12 yX12_isWished wsX12_isWished) := goodIn_app (goodIn_sub (List.forall_mem_cons.mpr ⟨List.mem_of_getElem? (i := 56) rfl, List.forall_mem_cons.mpr ⟨List.mem_of_getElem? (i := 57) rfl, List.forall_mem_cons.mpr ⟨List.mem_of_getElem? (i := 58) rfl, List.forall_mem_cons.mpr ⟨List.mem_of_getElem? (i := 4) rfl, fun _ h => absurd h List.not_mem_nil⟩⟩⟩⟩) (by decide +kernel)) ggX12_wished_X12_isWished
theorem dX12_wished_0 : decode cX12_wished 0 = .ok (.iload_n 1, 1) := by decide +kernel
theorem dX12_wished_1 : decode cX12_wished 1 = .ok (.i2l, 1) := by decide +kernel
theorem dX12_wished_2 : decode cX12_wished 2 = .ok (.lconst 1, 1) := by decide +kernel
theorem dX12_wished_3 : decode cX12_wished 3 = .ok (.ldc2_w 143, 3) := by decide +kernel
theorem dX12_wished_6 : decode cX12_wished 6 = .ok (.invokestatic 65, 3) := by decide +kernel
theorem dX12_wished_9 : decode cX12_wished 9 = .ok (.ifCond .eq 8, 3) := by decide +kernel
theorem dX12_wished_12 : decode cX12_wished 12 = .ok (.iload_n 2, 1) := by decide +kernel
theorem dX12_wished_13 : decode cX12_wished 13 = .ok (.iconst (-1), 1) := by decide +kernel
theorem dX12_wished_14 : decode cX12_wished 14 = .ok (.if_icmp .ge 5, 3) := by decide +kernel
theorem dX12_wished_17 : decode cX12_wished 17 = .ok (.iconst (-1), 1) := by decide +kernel
theorem dX12_wished_18 : decode cX12_wished 18 = .ok (.ireturn, 1) := by decide +kernel
theorem dX12_wished_19 : decode cX12_wished 19 = .ok (.aload_n 0, 1) := by decide +kernel
theorem dX12_wished_20 : decode cX12_wished 20 = .ok (.invokevirtual 182, 3) := by decide +kernel
theorem dX12_wished_23 : decode cX12_wished 23 = .ok (.bipush (-4), 2) := by decide +kernel
theorem dX12_wished_25 : decode cX12_wished 25 = .ok (.if_icmp .eq 6, 3) := by decide +kernel
theorem dX12_wished_28 : decode cX12_wished 28 = .ok (.bipush (-2), 2) := by decide +kernel
theorem dX12_wished_30 : decode cX12_wished 30 = .ok (.ireturn, 1) := by decide +kernel
theorem dX12_wished_31 : decode cX12_wished 31 = .ok (.aload_n 0, 1) := by decide +kernel
theorem dX12_wished_32 : decode cX12_wished 32 = .ok (.invokevirtual 186, 3) := by decide +kernel
theorem dX12_wished_35 : decode cX12_wished 35 = .ok (.iconst 0, 1) := by decide +kernel
theorem dX12_wished_36 : decode cX12_wished 36 = .ok (.istore_n 3, 1) := by decide +kernel
theorem dX12_wished_37 : decode cX12_wished 37 = .ok (.iconst 1, 1) := by decide +kernel
theorem dX12_wished_38 : decode cX12_wished 38 = .ok (.istore 4, 2) := by decide +kernel
theorem dX12_wished_40 : decode cX12_wished 40 = .ok (.iload 4, 2) := by decide +kernel
theorem dX12_wished_42 : decode cX12_wished 42 = .ok (.iload_n 1, 1) := by decide +kernel
theorem dX12_wished_43 : decode cX12_wished 43 = .ok (.if_icmp .gt 29, 3) := by decide +kernel
theorem dX12_wished_46 : decode cX12_wished 46 = .ok (.aload_n 0, 1) := by decide +kernel
theorem dX12_wished_47 : decode cX12_wished 47 = .ok (.iload 4, 2) := by decide +kernel
theorem dX12_wished_49 : decode cX12_wished 49 = .ok (.invokevirtual 189, 3) := by decide +kernel
theorem dX12_wished_52 : decode cX12_wished 52 = .ok (.ifCond .eq 14, 3) := by decide +kernel
theorem dX12_wished_55 : decode cX12_wished 55 = .ok (.iload_n 3, 1) := by decide +kernel
theorem dX12_wished_56 : decode cX12_wished 56 = .ok (.iload_n 2, 1) := by decide +kernel
theorem dX12_wished_57 : decode cX12_wished 57 = .ok (.if_icmp .ne 6, 3) := by decide +kernel
theorem dX12_wished_60 : decode cX12_wished 60 = .ok (.iload 4, 2) := by decide +kernel
theorem dX12_wished_62 : decode cX12_wished 62 = .ok (.ireturn, 1) := by decide +kernel
theorem dX12_wished_63 : decode cX12_wished 63 = .ok (.iinc 3 1, 3) := by decide +kernel
theorem dX12_wished_66 : decode cX12_wished 66 = .ok (.iinc 4 1, 3) := by decide +kernel
theorem dX12_wished_69 : decode cX12_wished 69 = .ok (.goto (-29), 3) := by decide +kernel
theorem dX12_wished_72 : decode cX12_wished 72 = .ok (.iload_n 2, 1) := by decide +kernel
theorem dX12_wished_73 : decode cX12_wished 73 = .ok (.ifCond .ge 7, 3) := by decide +kernel
theorem dX12_wished_76 : decode cX12_wished 76 = .ok (.iload_n 3, 1) := by decide +kernel
theorem dX12_wished_77 : decode cX12_wished 77 = .ok (.goto 5, 3) := by decide +kernel
theorem dX12_wished_80 : decode cX12_wished 80 = .ok (.bipush (-4), 2) := by decide +kernel
theorem dX12_wished_82 : decode cX12_wished 82 = .ok (.ireturn, 1) := by decide +kernel
set_option maxRecDepth 20000 in
theorem ggX12_holds_X12_in : GoodIn wsX12_holds wsX12_in := goodIn_r _ [5] rfl (by decide +kernel)
set_option maxRecDepth 20000 in
theorem gX12_holds_X12_in : GoodIn wsX12_holds (va_wsS RX12 65 yX12_in wsX12_in) := goodIn_app (goodIn_sub (List.forall_mem_cons.mpr ⟨List.mem_of_getElem? (i := 2) rfl, List.forall_mem_cons.mpr ⟨List.mem_of_getElem? (i := 3) rfl, List.forall_mem_cons.mpr ⟨List.mem_of_getElem? (i := 4) rfl, fun _ h => absurd h List.not_mem_nil⟩⟩⟩) (by decide +kernel)) ggX12_holds_X12_in
set_option maxRecDepth 20000 in
theorem ggX12_holds_X12_fault : GoodIn wsX12_holds wsX12_fault := goodIn_r _ [9, 10, 11, 12, 13, 4, 14, 15, 16, 2, 3, 5, 79, 80, 81, 82, 83, 84, 85, 86, 87, 88, 89, 90, 91, 92, 93, 94, 95, 96, 97, 98, 99] rfl (by decide +kernel)
set_option maxRecDepth 20000 in
theorem gX12_holds_X12_fault : GoodIn wsX12_holds (wsV RX12 182 RX12 yX12_fault wsX12_fault) := goodIn_app (goodIn_sub (List.forall_mem_cons.mpr ⟨List.mem_of_getElem? (i := 6) rfl, List.forall_mem_cons.mpr ⟨List.mem_of_getElem? (i := 7) rfl, List.forall_mem_cons.mpr ⟨List.mem_of_getElem? (i := 8) rfl, List.forall_mem_cons.mpr ⟨List.mem_of_getElem? (i := 4) rfl, fun _ h => absurd h List.not_mem_nil⟩⟩⟩⟩) (by decide +kernel)) ggX12_holds_X12_fault
set_option maxRecDepth 20000 in
theorem ggX12_holds_X12_layFlags : GoodIn wsX12_holds wsX12_layFlags := goodIn_r _ [20, 21, 22, 23, 24, 25, 26, 27, 28, 4, 29, 30, 31, 32, 33, 34, 35, 36, 37, 38, 39, 40, 41, 42, 43, 44, 45, 46, 47, 48, 49, 50, 51, 52, 53, 54, 55, 79, 80, 81, 82, 83, 84, 85, 86, 87, 88, 89, 90, 91, 92, 93, 94, 95, 96, 97, 98, 99] rfl (by decide +kernel)
set_option maxRecDepth 20000 in
theorem gX12_holds_X12_layFlags : GoodIn wsX12_holds (wsV RX12 186 RX12 yX12_layFlags wsX12_layFlags) := goodIn_app (goodIn_sub (List.forall_mem_cons.mpr ⟨List.mem_of_getElem? (i := 17) rfl, List.forall_mem_cons.mpr ⟨List.mem_of_getElem? (i := 18) rfl, List.forall_mem_cons.mpr ⟨List.mem_of_getElem? (i := 19) rfl, List.forall_mem_cons.mpr ⟨List.mem_of_getElem? (i := 4) rfl, fun _ h => absurd h List.not_mem_nil⟩⟩⟩⟩) (by decide +kernel)) ggX12_holds_X12_layFlags
set_option maxRecDepth 20000 in
theorem ggX12_holds_X12_isWished : GoodIn wsX12_holds wsX12_isWished := goodIn_r _ [59, 10, 11, 60, 12, 13, 4, 14, 15, 16, 2, 3, 5, 61, 62, 63, 64, 22, 65, 23, 25, 66, 47, 48, 49, 50, 24, 67, 68, 69, 70, 71, 72, 73, 74, 46, 75, 76, 77, 78, 40, 41, 42, 43, 44, 45, 79, 80, 81, 82, 83, 84, 85, 86, 87, 88, 89, 90, 91, 92, 93, 94, 95, 96, 97, 98, 99] rfl (by decide +kernel)
set_option maxRecDepth 20000 in
theorem gX12_holds_X12_isWished : GoodIn wsX12_holds (wsV RX12 189 RX12 yX12_isWished wsX12_isWished) := goodIn_app (goodIn_sub (List.forall_mem_cons.mpr ⟨List.mem_of_getElem? (i := 56) rfl, List.forall_mem_cons.mpr ⟨List.mem_of_getElem? (i := 57) rfl, List.forall_mem_cons.mpr ⟨List.mem_of_getElem? (i := 58) rfl, List.forall_mem_cons.mpr ⟨List.mem_of_getElem? (i := 4) rfl, fun _ h => absurd h List.not_mem_nil⟩⟩⟩⟩) (by decide +kernel)) ggX12_holds_X12_isWished
theorem dX12_holds_0 : decode cX12_holds 0 = .ok (.iload_n 1, 1) := by decide +kernel
theorem dX12_holds_1 : decode cX12_holds 1 = .ok (.i2l, 1) := by decide +kernel
theorem dX12_holds_2 : decode cX12_holds 2 = .ok (.lconst 1, 1) := by decide +kernel
theorem dX12_holds_3 : decode cX12_holds 3 = .ok (.ldc2_w 143, 3) := by decide +kernel
theorem dX12_holds_6 : decode cX12_holds 6 = .ok (.invokestatic 65, 3) := by decide +kernel
theorem dX12_holds_9 : decode cX12_holds 9 = .ok (.ifCond .ne 5, 3) := by decide +kernel
theorem dX12_holds_12 : decode cX12_holds 12 = .ok (.iconst (-1), 1) := by decide +kernel
theorem dX12_holds_13 : decode cX12_holds 13 = .ok (.ireturn, 1) := by decide +kernel
theorem dX12_holds_14 : decode cX12_holds 14 = .ok (.aload_n 0, 1) := by decide +kernel
theorem dX12_holds_15 : decode cX12_holds 15 = .ok (.invokevirtual 182, 3) := by decide +kernel
theorem dX12_holds_18 : decode cX12_holds 18 = .ok (.bipush (-4), 2) := by decide +kernel
theorem dX12_holds_20 : decode cX12_holds 20 = .ok (.if_icmp .eq 6, 3) := by decide +kernel
theorem dX12_holds_23 : decode cX12_holds 23 = .ok (.bipush (-2), 2) := by decide +kernel
theorem dX12_holds_25 : decode cX12_holds 25 = .ok (.ireturn, 1) := by decide +kernel
theorem dX12_holds_26 : decode cX12_holds 26 = .ok (.aload_n 0, 1) := by decide +kernel
theorem dX12_holds_27 : decode cX12_holds 27 = .ok (.invokevirtual 186, 3) := by decide +kernel
theorem dX12_holds_30 : decode cX12_holds 30 = .ok (.aload_n 0, 1) := by decide +kernel
theorem dX12_holds_31 : decode cX12_holds 31 = .ok (.iload_n 1, 1) := by decide +kernel
theorem dX12_holds_32 : decode cX12_holds 32 = .ok (.invokevirtual 189, 3) := by decide +kernel
theorem dX12_holds_35 : decode cX12_holds 35 = .ok (.ifCond .eq 7, 3) := by decide +kernel
theorem dX12_holds_38 : decode cX12_holds 38 = .ok (.iconst 1, 1) := by decide +kernel
theorem dX12_holds_39 : decode cX12_holds 39 = .ok (.goto 4, 3) := by decide +kernel
theorem dX12_holds_42 : decode cX12_holds 42 = .ok (.iconst 0, 1) := by decide +kernel
theorem dX12_holds_43 : decode cX12_holds 43 = .ok (.ireturn, 1) := by decide +kernel
set_option maxRecDepth 20000 in
theorem ggX12_count_X12_in : GoodIn wsX12_count wsX12_in := goodIn_r _ [6] rfl (by decide +kernel)
set_option maxRecDepth 20000 in
theorem gX12_count_X12_in : GoodIn wsX12_count (va_wsS RX12 65 yX12_in wsX12_in) := goodIn_app (goodIn_sub (List.forall_mem_cons.mpr ⟨List.mem_of_getElem? (i := 3) rfl, List.forall_mem_cons.mpr ⟨List.mem_of_getElem? (i := 4) rfl, List.forall_mem_cons.mpr ⟨List.mem_of_getElem? (i := 5) rfl, fun _ h => absurd h List.not_mem_nil⟩⟩⟩) (by decide +kernel)) ggX12_count_X12_in
set_option maxRecDepth 20000 in
theorem ggX12_count_X12_looks : GoodIn wsX12_count wsX12_looks := goodIn_r _ [9, 10, 11, 3, 4, 5, 6] rfl (by decide +kernel)
set_option maxRecDepth 20000 in
theorem gX12_count_X12_looks : GoodIn wsX12_count (va_wsS RX12 166 yX12_looks wsX12_looks) := goodIn_app (goodIn_sub (List.forall_mem_cons.mpr ⟨List.mem_of_getElem? (i := 7) rfl, List.forall_mem_cons.mpr ⟨List.mem_of_getElem? (i := 8) rfl, List.forall_mem_cons.mpr ⟨List.mem_of_getElem? (i := 5) rfl, fun _ h => absurd h List.not_mem_nil⟩⟩⟩) (by decide +kernel)) ggX12_count_X12_looks
theorem dX12_count_0 : decode cX12_count 0 = .ok (.iload_n 1, 1) := by decide +kernel
theorem dX12_count_1 : decode cX12_count 1 = .ok (.i2l, 1) := by decide +kernel
theorem dX12_count_2 : decode cX12_count 2 = .ok (.lconst 0, 1) := by decide +kernel
theorem dX12_count_3 : decode cX12_count 3 = .ok (.lconst 1, 1) := by decide +kernel
theorem dX12_count_4 : decode cX12_count 4 = .ok (.invokestatic 65, 3) := by decide +kernel
theorem dX12_count_7 : decode cX12_count 7 = .ok (.ifCond .ne 5, 3) := by decide +kernel
theorem dX12_count_10 : decode cX12_count 10 = .ok (.iconst (-1), 1) := by decide +kernel
theorem dX12_count_11 : decode cX12_count 11 = .ok (.ireturn, 1) := by decide +kernel
theorem dX12_count_12 : decode cX12_count 12 = .ok (.iconst 0, 1) := by decide +kernel
theorem dX12_count_13 : decode cX12_count 13 = .ok (.istore_n 2, 1) := by decide +kernel
theorem dX12_count_14 : decode cX12_count 14 = .ok (.iconst 0, 1) := by decide +kernel
theorem dX12_count_15 : decode cX12_count 15 = .ok (.istore_n 3, 1) := by decide +kernel
theorem dX12_count_16 : decode cX12_count 16 = .ok (.iload_n 3, 1) := by decide +kernel
theorem dX12_count_17 : decode cX12_count 17 = .ok (.aload_n 0, 1) := by decide +kernel
theorem dX12_count_18 : decode cX12_count 18 = .ok (.getfield 157, 3) := by decide +kernel
theorem dX12_count_21 : decode cX12_count 21 = .ok (.if_icmp .ge 29, 3) := by decide +kernel
theorem dX12_count_24 : decode cX12_count 24 = .ok (.iload_n 2, 1) := by decide +kernel
theorem dX12_count_25 : decode cX12_count 25 = .ok (.aload_n 0, 1) := by decide +kernel
theorem dX12_count_26 : decode cX12_count 26 = .ok (.getfield 7, 3) := by decide +kernel
theorem dX12_count_29 : decode cX12_count 29 = .ok (.iload_n 3, 1) := by decide +kernel
theorem dX12_count_30 : decode cX12_count 30 = .ok (.iaload, 1) := by decide +kernel
theorem dX12_count_31 : decode cX12_count 31 = .ok (.invokestatic 166, 3) := by decide +kernel
theorem dX12_count_34 : decode cX12_count 34 = .ok (.ifCond .eq 7, 3) := by decide +kernel
theorem dX12_count_37 : decode cX12_count 37 = .ok (.iconst 1, 1) := by decide +kernel
theorem dX12_count_38 : decode cX12_count 38 = .ok (.goto 4, 3) := by decide +kernel
theorem dX12_count_41 : decode cX12_count 41 = .ok (.iconst 0, 1) := by decide +kernel
theorem dX12_count_42 : decode cX12_count 42 = .ok (.iadd, 1) := by decide +kernel
theorem dX12_count_43 : decode cX12_count 43 = .ok (.istore_n 2, 1) := by decide +kernel
theorem dX12_count_44 : decode cX12_count 44 = .ok (.iinc 3 1, 3) := by decide +kernel
theorem dX12_count_47 : decode cX12_count 47 = .ok (.goto (-31), 3) := by decide +kernel
theorem dX12_count_50 : decode cX12_count 50 = .ok (.iload_n 1, 1) := by decide +kernel
theorem dX12_count_51 : decode cX12_count 51 = .ok (.ifCond .ne 10, 3) := by decide +kernel
theorem dX12_count_54 : decode cX12_count 54 = .ok (.aload_n 0, 1) := by decide +kernel
theorem dX12_count_55 : decode cX12_count 55 = .ok (.getfield 157, 3) := by decide +kernel
theorem dX12_count_58 : decode cX12_count 58 = .ok (.goto 4, 3) := by decide +kernel
theorem dX12_count_61 : decode cX12_count 61 = .ok (.iload_n 2, 1) := by decide +kernel
theorem dX12_count_62 : decode cX12_count 62 = .ok (.ireturn, 1) := by decide +kernel
