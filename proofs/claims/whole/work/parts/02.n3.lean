theorem dX9_keepFound_0 : decode cX9_keepFound 0 = .ok (.aload_n 0, 1) := by decide +kernel
theorem dX9_keepFound_1 : decode cX9_keepFound 1 = .ok (.getfield 28, 3) := by decide +kernel
theorem dX9_keepFound_4 : decode cX9_keepFound 4 = .ok (.sipush 640, 3) := by decide +kernel
theorem dX9_keepFound_7 : decode cX9_keepFound 7 = .ok (.if_icmp .ge 23, 3) := by decide +kernel
theorem dX9_keepFound_10 : decode cX9_keepFound 10 = .ok (.aload_n 0, 1) := by decide +kernel
theorem dX9_keepFound_11 : decode cX9_keepFound 11 = .ok (.getfield 25, 3) := by decide +kernel
theorem dX9_keepFound_14 : decode cX9_keepFound 14 = .ok (.aload_n 0, 1) := by decide +kernel
theorem dX9_keepFound_15 : decode cX9_keepFound 15 = .ok (.getfield 28, 3) := by decide +kernel
theorem dX9_keepFound_18 : decode cX9_keepFound 18 = .ok (.lload_n 1, 1) := by decide +kernel
theorem dX9_keepFound_19 : decode cX9_keepFound 19 = .ok (.lastore, 1) := by decide +kernel
theorem dX9_keepFound_20 : decode cX9_keepFound 20 = .ok (.aload_n 0, 1) := by decide +kernel
theorem dX9_keepFound_21 : decode cX9_keepFound 21 = .ok (.dup, 1) := by decide +kernel
theorem dX9_keepFound_22 : decode cX9_keepFound 22 = .ok (.getfield 28, 3) := by decide +kernel
theorem dX9_keepFound_25 : decode cX9_keepFound 25 = .ok (.iconst 1, 1) := by decide +kernel
theorem dX9_keepFound_26 : decode cX9_keepFound 26 = .ok (.iadd, 1) := by decide +kernel
theorem dX9_keepFound_27 : decode cX9_keepFound 27 = .ok (.putfield 28, 3) := by decide +kernel
theorem dX9_keepFound_30 : decode cX9_keepFound 30 = .ok (.return_, 1) := by decide +kernel
set_option maxRecDepth 20000 in
theorem ggX10_init_X2_init : GoodIn wsX10_init wsX2_init := goodIn_r _ [13, 14, 2, 3, 15, 16, 17, 18] rfl (by decide +kernel)
set_option maxRecDepth 20000 in
theorem gX10_init_X2_init_n11 : GoodIn wsX10_init (wsX2_init) := ggX10_init_X2_init
theorem dX10_init_0 : decode cX10_init 0 = .ok (.aload_n 0, 1) := by decide +kernel
theorem dX10_init_1 : decode cX10_init 1 = .ok (.invokespecial 3, 3) := by decide +kernel
theorem dX10_init_4 : decode cX10_init 4 = .ok (.aload_n 0, 1) := by decide +kernel
theorem dX10_init_5 : decode cX10_init 5 = .ok (.new 9, 3) := by decide +kernel
theorem dX10_init_8 : decode cX10_init 8 = .ok (.dup, 1) := by decide +kernel
theorem dX10_init_9 : decode cX10_init 9 = .ok (.invokespecial 11, 3) := by decide +kernel
theorem dX10_init_12 : decode cX10_init 12 = .ok (.putfield 12, 3) := by decide +kernel
theorem dX10_init_15 : decode cX10_init 15 = .ok (.aload_n 0, 1) := by decide +kernel
theorem dX10_init_16 : decode cX10_init 16 = .ok (.bipush 60, 2) := by decide +kernel
theorem dX10_init_18 : decode cX10_init 18 = .ok (.newarray .int, 2) := by decide +kernel
theorem dX10_init_20 : decode cX10_init 20 = .ok (.putfield 18, 3) := by decide +kernel
theorem dX10_init_23 : decode cX10_init 23 = .ok (.aload_n 0, 1) := by decide +kernel
theorem dX10_init_24 : decode cX10_init 24 = .ok (.iconst 0, 1) := by decide +kernel
theorem dX10_init_25 : decode cX10_init 25 = .ok (.putfield 22, 3) := by decide +kernel
theorem dX10_init_28 : decode cX10_init 28 = .ok (.aload_n 0, 1) := by decide +kernel
theorem dX10_init_29 : decode cX10_init 29 = .ok (.aload_n 1, 1) := by decide +kernel
theorem dX10_init_30 : decode cX10_init 30 = .ok (.putfield 26, 3) := by decide +kernel
theorem dX10_init_33 : decode cX10_init 33 = .ok (.return_, 1) := by decide +kernel
set_option maxRecDepth 20000 in
theorem ggX10_append_J0_indexOf_0f7a4 : GoodIn wsX10_append wsJ0_indexOf_0f7a4 := goodIn_r _ [8, 9, 10, 11, 7, 12, 13, 14, 15, 16, 17, 18, 19, 20, 21, 22, 23, 24, 25, 26, 27, 28, 29, 30, 31, 32, 33, 34, 35, 36, 37, 38, 39, 40, 41, 42, 43, 44, 45, 46, 47, 48, 49, 50, 51, 52, 53, 54, 55, 56, 57, 58, 59, 60, 61, 62, 63, 64, 65, 66, 67, 68, 69, 70, 71, 72, 73, 74, 75, 76, 77, 78, 79, 80, 81, 82, 83, 84, 85, 86, 87, 88, 89, 90, 91, 92] rfl (by decide +kernel)
set_option maxRecDepth 20000 in
theorem gX10_append_J0_indexOf_0f7a4 : GoodIn wsX10_append (wsV RX10 34 RJ0 yJ0_indexOf_0f7a4 wsJ0_indexOf_0f7a4) := goodIn_app (goodIn_sub (List.forall_mem_cons.mpr ⟨List.mem_of_getElem? (i := 4) rfl, List.forall_mem_cons.mpr ⟨List.mem_of_getElem? (i := 5) rfl, List.forall_mem_cons.mpr ⟨List.mem_of_getElem? (i := 6) rfl, List.forall_mem_cons.mpr ⟨List.mem_of_getElem? (i := 7) rfl, fun _ h => absurd h List.not_mem_nil⟩⟩⟩⟩) (by decide +kernel)) ggX10_append_J0_indexOf_0f7a4
theorem dX10_append_0 : decode cX10_append 0 = .ok (.aload_n 0, 1) := by decide +kernel
theorem dX10_append_1 : decode cX10_append 1 = .ok (.getfield 22, 3) := by decide +kernel
theorem dX10_append_4 : decode cX10_append 4 = .ok (.iload_n 1, 1) := by decide +kernel
theorem dX10_append_5 : decode cX10_append 5 = .ok (.iadd, 1) := by decide +kernel
theorem dX10_append_6 : decode cX10_append 6 = .ok (.bipush 60, 2) := by decide +kernel
theorem dX10_append_8 : decode cX10_append 8 = .ok (.if_icmp .le 6, 3) := by decide +kernel
theorem dX10_append_11 : decode cX10_append 11 = .ok (.bipush (-3), 2) := by decide +kernel
theorem dX10_append_13 : decode cX10_append 13 = .ok (.ireturn, 1) := by decide +kernel
theorem dX10_append_14 : decode cX10_append 14 = .ok (.iload_n 1, 1) := by decide +kernel
theorem dX10_append_15 : decode cX10_append 15 = .ok (.iconst 1, 1) := by decide +kernel
theorem dX10_append_16 : decode cX10_append 16 = .ok (.isub, 1) := by decide +kernel
theorem dX10_append_17 : decode cX10_append 17 = .ok (.istore 4, 2) := by decide +kernel
theorem dX10_append_19 : decode cX10_append 19 = .ok (.iload 4, 2) := by decide +kernel
theorem dX10_append_21 : decode cX10_append 21 = .ok (.ifCond .lt 59, 3) := by decide +kernel
theorem dX10_append_24 : decode cX10_append 24 = .ok (.aload_n 0, 1) := by decide +kernel
theorem dX10_append_25 : decode cX10_append 25 = .ok (.getfield 22, 3) := by decide +kernel
theorem dX10_append_28 : decode cX10_append 28 = .ok (.bipush 60, 2) := by decide +kernel
theorem dX10_append_30 : decode cX10_append 30 = .ok (.if_icmp .ge 50, 3) := by decide +kernel
theorem dX10_append_33 : decode cX10_append 33 = .ok (.lload_n 2, 1) := by decide +kernel
theorem dX10_append_34 : decode cX10_append 34 = .ok (.bipush 8, 2) := by decide +kernel
theorem dX10_append_36 : decode cX10_append 36 = .ok (.iload 4, 2) := by decide +kernel
theorem dX10_append_38 : decode cX10_append 38 = .ok (.imul, 1) := by decide +kernel
theorem dX10_append_39 : decode cX10_append 39 = .ok (.lushr, 1) := by decide +kernel
theorem dX10_append_40 : decode cX10_append 40 = .ok (.ldc2_w 30, 3) := by decide +kernel
theorem dX10_append_43 : decode cX10_append 43 = .ok (.land, 1) := by decide +kernel
theorem dX10_append_44 : decode cX10_append 44 = .ok (.l2i, 1) := by decide +kernel
theorem dX10_append_45 : decode cX10_append 45 = .ok (.istore 5, 2) := by decide +kernel
theorem dX10_append_47 : decode cX10_append 47 = .ok (.aload_n 0, 1) := by decide +kernel
theorem dX10_append_48 : decode cX10_append 48 = .ok (.getfield 18, 3) := by decide +kernel
theorem dX10_append_51 : decode cX10_append 51 = .ok (.aload_n 0, 1) := by decide +kernel
theorem dX10_append_52 : decode cX10_append 52 = .ok (.getfield 22, 3) := by decide +kernel
theorem dX10_append_55 : decode cX10_append 55 = .ok (.ldc 32, 2) := by decide +kernel
theorem dX10_append_57 : decode cX10_append 57 = .ok (.iload 5, 2) := by decide +kernel
theorem dX10_append_59 : decode cX10_append 59 = .ok (.i2c, 1) := by decide +kernel
theorem dX10_append_60 : decode cX10_append 60 = .ok (.invokevirtual 34, 3) := by decide +kernel
theorem dX10_append_63 : decode cX10_append 63 = .ok (.iastore, 1) := by decide +kernel
theorem dX10_append_64 : decode cX10_append 64 = .ok (.aload_n 0, 1) := by decide +kernel
theorem dX10_append_65 : decode cX10_append 65 = .ok (.dup, 1) := by decide +kernel
theorem dX10_append_66 : decode cX10_append 66 = .ok (.getfield 22, 3) := by decide +kernel
theorem dX10_append_69 : decode cX10_append 69 = .ok (.iconst 1, 1) := by decide +kernel
theorem dX10_append_70 : decode cX10_append 70 = .ok (.iadd, 1) := by decide +kernel
theorem dX10_append_71 : decode cX10_append 71 = .ok (.putfield 22, 3) := by decide +kernel
theorem dX10_append_74 : decode cX10_append 74 = .ok (.iinc 4 (-1), 3) := by decide +kernel
theorem dX10_append_77 : decode cX10_append 77 = .ok (.goto (-58), 3) := by decide +kernel
theorem dX10_append_80 : decode cX10_append 80 = .ok (.aload_n 0, 1) := by decide +kernel
theorem dX10_append_81 : decode cX10_append 81 = .ok (.getfield 22, 3) := by decide +kernel
theorem dX10_append_84 : decode cX10_append 84 = .ok (.ireturn, 1) := by decide +kernel
theorem dX10_clear_0 : decode cX10_clear 0 = .ok (.aload_n 0, 1) := by decide +kernel
theorem dX10_clear_1 : decode cX10_clear 1 = .ok (.getfield 22, 3) := by decide +kernel
theorem dX10_clear_4 : decode cX10_clear 4 = .ok (.istore_n 1, 1) := by decide +kernel
theorem dX10_clear_5 : decode cX10_clear 5 = .ok (.aload_n 0, 1) := by decide +kernel
theorem dX10_clear_6 : decode cX10_clear 6 = .ok (.iconst 0, 1) := by decide +kernel
theorem dX10_clear_7 : decode cX10_clear 7 = .ok (.putfield 22, 3) := by decide +kernel
theorem dX10_clear_10 : decode cX10_clear 10 = .ok (.iload_n 1, 1) := by decide +kernel
theorem dX10_clear_11 : decode cX10_clear 11 = .ok (.ireturn, 1) := by decide +kernel
set_option maxRecDepth 20000 in
theorem ggX10_howManyLook_X10_looks : GoodIn wsX10_howManyLook wsX10_looks := goodIn_r _ [6] rfl (by decide +kernel)
set_option maxRecDepth 20000 in
theorem gX10_howManyLook_X10_looks : GoodIn wsX10_howManyLook (va_wsS RX10 40 yX10_looks wsX10_looks) := goodIn_app (goodIn_sub (List.forall_mem_cons.mpr ⟨List.mem_of_getElem? (i := 3) rfl, List.forall_mem_cons.mpr ⟨List.mem_of_getElem? (i := 4) rfl, List.forall_mem_cons.mpr ⟨List.mem_of_getElem? (i := 5) rfl, fun _ h => absurd h List.not_mem_nil⟩⟩⟩) (by decide +kernel)) ggX10_howManyLook_X10_looks
theorem dX10_howManyLook_0 : decode cX10_howManyLook 0 = .ok (.iconst 0, 1) := by decide +kernel
theorem dX10_howManyLook_1 : decode cX10_howManyLook 1 = .ok (.istore_n 1, 1) := by decide +kernel
theorem dX10_howManyLook_2 : decode cX10_howManyLook 2 = .ok (.iconst 0, 1) := by decide +kernel
theorem dX10_howManyLook_3 : decode cX10_howManyLook 3 = .ok (.istore_n 2, 1) := by decide +kernel
theorem dX10_howManyLook_4 : decode cX10_howManyLook 4 = .ok (.iload_n 2, 1) := by decide +kernel
theorem dX10_howManyLook_5 : decode cX10_howManyLook 5 = .ok (.aload_n 0, 1) := by decide +kernel
theorem dX10_howManyLook_6 : decode cX10_howManyLook 6 = .ok (.getfield 22, 3) := by decide +kernel
theorem dX10_howManyLook_9 : decode cX10_howManyLook 9 = .ok (.if_icmp .ge 30, 3) := by decide +kernel
theorem dX10_howManyLook_12 : decode cX10_howManyLook 12 = .ok (.iload_n 2, 1) := by decide +kernel
theorem dX10_howManyLook_13 : decode cX10_howManyLook 13 = .ok (.bipush 60, 2) := by decide +kernel
theorem dX10_howManyLook_15 : decode cX10_howManyLook 15 = .ok (.if_icmp .ge 24, 3) := by decide +kernel
theorem dX10_howManyLook_18 : decode cX10_howManyLook 18 = .ok (.aload_n 0, 1) := by decide +kernel
theorem dX10_howManyLook_19 : decode cX10_howManyLook 19 = .ok (.getfield 18, 3) := by decide +kernel
theorem dX10_howManyLook_22 : decode cX10_howManyLook 22 = .ok (.iload_n 2, 1) := by decide +kernel
theorem dX10_howManyLook_23 : decode cX10_howManyLook 23 = .ok (.iaload, 1) := by decide +kernel
theorem dX10_howManyLook_24 : decode cX10_howManyLook 24 = .ok (.invokestatic 40, 3) := by decide +kernel
theorem dX10_howManyLook_27 : decode cX10_howManyLook 27 = .ok (.ifCond .eq 6, 3) := by decide +kernel
theorem dX10_howManyLook_30 : decode cX10_howManyLook 30 = .ok (.iinc 1 1, 3) := by decide +kernel
theorem dX10_howManyLook_33 : decode cX10_howManyLook 33 = .ok (.iinc 2 1, 3) := by decide +kernel
theorem dX10_howManyLook_36 : decode cX10_howManyLook 36 = .ok (.goto (-32), 3) := by decide +kernel
theorem dX10_howManyLook_39 : decode cX10_howManyLook 39 = .ok (.iload_n 1, 1) := by decide +kernel
theorem dX10_howManyLook_40 : decode cX10_howManyLook 40 = .ok (.ireturn, 1) := by decide +kernel
theorem dX10_looks_0 : decode cX10_looks 0 = .ok (.iload_n 0, 1) := by decide +kernel
theorem dX10_looks_1 : decode cX10_looks 1 = .ok (.iconst (-1), 1) := by decide +kernel
theorem dX10_looks_2 : decode cX10_looks 2 = .ok (.if_icmp .le 13, 3) := by decide +kernel
theorem dX10_looks_5 : decode cX10_looks 5 = .ok (.iload_n 0, 1) := by decide +kernel
theorem dX10_looks_6 : decode cX10_looks 6 = .ok (.bipush 19, 2) := by decide +kernel
theorem dX10_looks_8 : decode cX10_looks 8 = .ok (.if_icmp .ge 7, 3) := by decide +kernel
theorem dX10_looks_11 : decode cX10_looks 11 = .ok (.iconst 1, 1) := by decide +kernel
theorem dX10_looks_12 : decode cX10_looks 12 = .ok (.goto 4, 3) := by decide +kernel
theorem dX10_looks_15 : decode cX10_looks 15 = .ok (.iconst 0, 1) := by decide +kernel
theorem dX10_looks_16 : decode cX10_looks 16 = .ok (.ireturn, 1) := by decide +kernel
set_option maxRecDepth 20000 in
theorem ggX10_firstFault_X10_looks : GoodIn wsX10_firstFault wsX10_looks := goodIn_r _ [6] rfl (by decide +kernel)
set_option maxRecDepth 20000 in
theorem gX10_firstFault_X10_looks : GoodIn wsX10_firstFault (va_wsS RX10 40 yX10_looks wsX10_looks) := goodIn_app (goodIn_sub (List.forall_mem_cons.mpr ⟨List.mem_of_getElem? (i := 3) rfl, List.forall_mem_cons.mpr ⟨List.mem_of_getElem? (i := 4) rfl, List.forall_mem_cons.mpr ⟨List.mem_of_getElem? (i := 5) rfl, fun _ h => absurd h List.not_mem_nil⟩⟩⟩) (by decide +kernel)) ggX10_firstFault_X10_looks
theorem dX10_firstFault_0 : decode cX10_firstFault 0 = .ok (.iconst 0, 1) := by decide +kernel
theorem dX10_firstFault_1 : decode cX10_firstFault 1 = .ok (.istore_n 1, 1) := by decide +kernel
theorem dX10_firstFault_2 : decode cX10_firstFault 2 = .ok (.iconst 0, 1) := by decide +kernel
theorem dX10_firstFault_3 : decode cX10_firstFault 3 = .ok (.istore_n 2, 1) := by decide +kernel
theorem dX10_firstFault_4 : decode cX10_firstFault 4 = .ok (.iload_n 2, 1) := by decide +kernel
theorem dX10_firstFault_5 : decode cX10_firstFault 5 = .ok (.aload_n 0, 1) := by decide +kernel
theorem dX10_firstFault_6 : decode cX10_firstFault 6 = .ok (.getfield 22, 3) := by decide +kernel
theorem dX10_firstFault_9 : decode cX10_firstFault 9 = .ok (.if_icmp .ge 109, 3) := by decide +kernel
theorem dX10_firstFault_12 : decode cX10_firstFault 12 = .ok (.iload_n 2, 1) := by decide +kernel
theorem dX10_firstFault_13 : decode cX10_firstFault 13 = .ok (.bipush 60, 2) := by decide +kernel
theorem dX10_firstFault_15 : decode cX10_firstFault 15 = .ok (.if_icmp .ge 103, 3) := by decide +kernel
theorem dX10_firstFault_18 : decode cX10_firstFault 18 = .ok (.aload_n 0, 1) := by decide +kernel
theorem dX10_firstFault_19 : decode cX10_firstFault 19 = .ok (.getfield 18, 3) := by decide +kernel
theorem dX10_firstFault_22 : decode cX10_firstFault 22 = .ok (.iload_n 2, 1) := by decide +kernel
theorem dX10_firstFault_23 : decode cX10_firstFault 23 = .ok (.iaload, 1) := by decide +kernel
theorem dX10_firstFault_24 : decode cX10_firstFault 24 = .ok (.istore_n 3, 1) := by decide +kernel
theorem dX10_firstFault_25 : decode cX10_firstFault 25 = .ok (.iload_n 3, 1) := by decide +kernel
theorem dX10_firstFault_26 : decode cX10_firstFault 26 = .ok (.invokestatic 40, 3) := by decide +kernel
theorem dX10_firstFault_29 : decode cX10_firstFault 29 = .ok (.ifCond .eq 7, 3) := by decide +kernel
theorem dX10_firstFault_32 : decode cX10_firstFault 32 = .ok (.iconst 0, 1) := by decide +kernel
theorem dX10_firstFault_33 : decode cX10_firstFault 33 = .ok (.goto 14, 3) := by decide +kernel
theorem dX10_firstFault_36 : decode cX10_firstFault 36 = .ok (.iload_n 3, 1) := by decide +kernel
theorem dX10_firstFault_37 : decode cX10_firstFault 37 = .ok (.bipush 19, 2) := by decide +kernel
theorem dX10_firstFault_39 : decode cX10_firstFault 39 = .ok (.if_icmp .ne 7, 3) := by decide +kernel
theorem dX10_firstFault_42 : decode cX10_firstFault 42 = .ok (.iconst 1, 1) := by decide +kernel
theorem dX10_firstFault_43 : decode cX10_firstFault 43 = .ok (.goto 4, 3) := by decide +kernel
theorem dX10_firstFault_46 : decode cX10_firstFault 46 = .ok (.iconst 2, 1) := by decide +kernel
theorem dX10_firstFault_47 : decode cX10_firstFault 47 = .ok (.istore 4, 2) := by decide +kernel
theorem dX10_firstFault_49 : decode cX10_firstFault 49 = .ok (.iload_n 3, 1) := by decide +kernel
theorem dX10_firstFault_50 : decode cX10_firstFault 50 = .ok (.invokestatic 40, 3) := by decide +kernel
theorem dX10_firstFault_53 : decode cX10_firstFault 53 = .ok (.ifCond .eq 13, 3) := by decide +kernel
theorem dX10_firstFault_56 : decode cX10_firstFault 56 = .ok (.iload_n 1, 1) := by decide +kernel
theorem dX10_firstFault_57 : decode cX10_firstFault 57 = .ok (.bipush 8, 2) := by decide +kernel
theorem dX10_firstFault_59 : decode cX10_firstFault 59 = .ok (.if_icmp .lt 7, 3) := by decide +kernel
theorem dX10_firstFault_62 : decode cX10_firstFault 62 = .ok (.iconst 1, 1) := by decide +kernel
theorem dX10_firstFault_63 : decode cX10_firstFault 63 = .ok (.goto 4, 3) := by decide +kernel
theorem dX10_firstFault_66 : decode cX10_firstFault 66 = .ok (.iconst 0, 1) := by decide +kernel
theorem dX10_firstFault_67 : decode cX10_firstFault 67 = .ok (.istore 5, 2) := by decide +kernel
theorem dX10_firstFault_69 : decode cX10_firstFault 69 = .ok (.iload_n 3, 1) := by decide +kernel
theorem dX10_firstFault_70 : decode cX10_firstFault 70 = .ok (.iconst (-1), 1) := by decide +kernel
theorem dX10_firstFault_71 : decode cX10_firstFault 71 = .ok (.if_icmp .eq 14, 3) := by decide +kernel
theorem dX10_firstFault_74 : decode cX10_firstFault 74 = .ok (.iload_n 1, 1) := by decide +kernel
theorem dX10_firstFault_75 : decode cX10_firstFault 75 = .ok (.iload 4, 2) := by decide +kernel
theorem dX10_firstFault_77 : decode cX10_firstFault 77 = .ok (.if_icmp .lt 8, 3) := by decide +kernel
theorem dX10_firstFault_80 : decode cX10_firstFault 80 = .ok (.iload 5, 2) := by decide +kernel
theorem dX10_firstFault_82 : decode cX10_firstFault 82 = .ok (.ifCond .eq 5, 3) := by decide +kernel
theorem dX10_firstFault_85 : decode cX10_firstFault 85 = .ok (.iload_n 2, 1) := by decide +kernel
theorem dX10_firstFault_86 : decode cX10_firstFault 86 = .ok (.ireturn, 1) := by decide +kernel
theorem dX10_firstFault_87 : decode cX10_firstFault 87 = .ok (.iload_n 1, 1) := by decide +kernel
theorem dX10_firstFault_88 : decode cX10_firstFault 88 = .ok (.iload_n 3, 1) := by decide +kernel
theorem dX10_firstFault_89 : decode cX10_firstFault 89 = .ok (.invokestatic 40, 3) := by decide +kernel
theorem dX10_firstFault_92 : decode cX10_firstFault 92 = .ok (.ifCond .eq 7, 3) := by decide +kernel
theorem dX10_firstFault_95 : decode cX10_firstFault 95 = .ok (.iconst 1, 1) := by decide +kernel
theorem dX10_firstFault_96 : decode cX10_firstFault 96 = .ok (.goto 14, 3) := by decide +kernel
theorem dX10_firstFault_99 : decode cX10_firstFault 99 = .ok (.iload_n 3, 1) := by decide +kernel
theorem dX10_firstFault_100 : decode cX10_firstFault 100 = .ok (.bipush 19, 2) := by decide +kernel
theorem dX10_firstFault_102 : decode cX10_firstFault 102 = .ok (.if_icmp .ne 7, 3) := by decide +kernel
theorem dX10_firstFault_105 : decode cX10_firstFault 105 = .ok (.iconst 0, 1) := by decide +kernel
theorem dX10_firstFault_106 : decode cX10_firstFault 106 = .ok (.goto 4, 3) := by decide +kernel
theorem dX10_firstFault_109 : decode cX10_firstFault 109 = .ok (.iconst (-1), 1) := by decide +kernel
theorem dX10_firstFault_110 : decode cX10_firstFault 110 = .ok (.iadd, 1) := by decide +kernel
theorem dX10_firstFault_111 : decode cX10_firstFault 111 = .ok (.istore_n 1, 1) := by decide +kernel
theorem dX10_firstFault_112 : decode cX10_firstFault 112 = .ok (.iinc 2 1, 3) := by decide +kernel
theorem dX10_firstFault_115 : decode cX10_firstFault 115 = .ok (.goto (-111), 3) := by decide +kernel
theorem dX10_firstFault_118 : decode cX10_firstFault 118 = .ok (.iload_n 1, 1) := by decide +kernel
theorem dX10_firstFault_119 : decode cX10_firstFault 119 = .ok (.iconst 1, 1) := by decide +kernel
theorem dX10_firstFault_120 : decode cX10_firstFault 120 = .ok (.if_icmp .ne 8, 3) := by decide +kernel
theorem dX10_firstFault_123 : decode cX10_firstFault 123 = .ok (.bipush (-4), 2) := by decide +kernel
theorem dX10_firstFault_125 : decode cX10_firstFault 125 = .ok (.goto 7, 3) := by decide +kernel
theorem dX10_firstFault_128 : decode cX10_firstFault 128 = .ok (.aload_n 0, 1) := by decide +kernel
theorem dX10_firstFault_129 : decode cX10_firstFault 129 = .ok (.getfield 22, 3) := by decide +kernel
theorem dX10_firstFault_132 : decode cX10_firstFault 132 = .ok (.ireturn, 1) := by decide +kernel
set_option maxRecDepth 20000 in
theorem ggX10_numberAt_X2_begin : GoodIn wsX10_numberAt wsX2_begin := goodIn_r _ [6, 7, 8, 41, 42] rfl (by decide +kernel)
set_option maxRecDepth 20000 in
theorem gX10_numberAt_X2_begin : GoodIn wsX10_numberAt (wsV RX10 44 RX2 yX2_begin wsX2_begin) := goodIn_app (goodIn_sub (List.forall_mem_cons.mpr ⟨List.mem_of_getElem? (i := 2) rfl, List.forall_mem_cons.mpr ⟨List.mem_of_getElem? (i := 3) rfl, List.forall_mem_cons.mpr ⟨List.mem_of_getElem? (i := 4) rfl, List.forall_mem_cons.mpr ⟨List.mem_of_getElem? (i := 5) rfl, fun _ h => absurd h List.not_mem_nil⟩⟩⟩⟩) (by decide +kernel)) ggX10_numberAt_X2_begin
set_option maxRecDepth 20000 in
theorem ggX10_numberAt_X10_agrees : GoodIn wsX10_numberAt wsX10_agrees := goodIn_r _ [13, 14, 15, 16, 17, 18, 12, 19, 20, 21, 22, 23, 24, 25, 26, 27, 28, 37, 38, 39, 40, 43, 44, 45, 46] rfl (by decide +kernel)
set_option maxRecDepth 20000 in
theorem gX10_numberAt_X10_agrees : GoodIn wsX10_numberAt (wsV RX10 48 RX10 yX10_agrees wsX10_agrees) := goodIn_app (goodIn_sub (List.forall_mem_cons.mpr ⟨List.mem_of_getElem? (i := 9) rfl, List.forall_mem_cons.mpr ⟨List.mem_of_getElem? (i := 10) rfl, List.forall_mem_cons.mpr ⟨List.mem_of_getElem? (i := 11) rfl, List.forall_mem_cons.mpr ⟨List.mem_of_getElem? (i := 12) rfl, fun _ h => absurd h List.not_mem_nil⟩⟩⟩⟩) (by decide +kernel)) ggX10_numberAt_X10_agrees
set_option maxRecDepth 20000 in
theorem ggX10_numberAt_X2_isNext : GoodIn wsX10_numberAt wsX2_isNext := goodIn_r _ [32, 8, 7, 41, 42] rfl (by decide +kernel)
set_option maxRecDepth 20000 in
theorem gX10_numberAt_X2_isNext : GoodIn wsX10_numberAt (wsV RX10 51 RX2 yX2_isNext wsX2_isNext) := goodIn_app (goodIn_sub (List.forall_mem_cons.mpr ⟨List.mem_of_getElem? (i := 29) rfl, List.forall_mem_cons.mpr ⟨List.mem_of_getElem? (i := 30) rfl, List.forall_mem_cons.mpr ⟨List.mem_of_getElem? (i := 31) rfl, List.forall_mem_cons.mpr ⟨List.mem_of_getElem? (i := 5) rfl, fun _ h => absurd h List.not_mem_nil⟩⟩⟩⟩) (by decide +kernel)) ggX10_numberAt_X2_isNext
set_option maxRecDepth 20000 in
theorem ggX10_numberAt_X2_notFound : GoodIn wsX10_numberAt wsX2_notFound := goodIn_r _ [36, 7, 8, 41, 42] rfl (by decide +kernel)
set_option maxRecDepth 20000 in
theorem gX10_numberAt_X2_notFound : GoodIn wsX10_numberAt (wsV RX10 55 RX2 yX2_notFound wsX2_notFound) := goodIn_app (goodIn_sub (List.forall_mem_cons.mpr ⟨List.mem_of_getElem? (i := 33) rfl, List.forall_mem_cons.mpr ⟨List.mem_of_getElem? (i := 34) rfl, List.forall_mem_cons.mpr ⟨List.mem_of_getElem? (i := 35) rfl, List.forall_mem_cons.mpr ⟨List.mem_of_getElem? (i := 5) rfl, fun _ h => absurd h List.not_mem_nil⟩⟩⟩⟩) (by decide +kernel)) ggX10_numberAt_X2_notFound
theorem dX10_numberAt_0 : decode cX10_numberAt 0 = .ok (.aload_n 0, 1) := by decide +kernel
theorem dX10_numberAt_1 : decode cX10_numberAt 1 = .ok (.getfield 12, 3) := by decide +kernel
theorem dX10_numberAt_4 : decode cX10_numberAt 4 = .ok (.iload_n 2, 1) := by decide +kernel
theorem dX10_numberAt_5 : decode cX10_numberAt 5 = .ok (.invokevirtual 44, 3) := by decide +kernel
theorem dX10_numberAt_8 : decode cX10_numberAt 8 = .ok (.iconst 1, 1) := by decide +kernel
theorem dX10_numberAt_9 : decode cX10_numberAt 9 = .ok (.istore_n 3, 1) := by decide +kernel
theorem dX10_numberAt_10 : decode cX10_numberAt 10 = .ok (.iload_n 3, 1) := by decide +kernel
theorem dX10_numberAt_11 : decode cX10_numberAt 11 = .ok (.iload_n 1, 1) := by decide +kernel
theorem dX10_numberAt_12 : decode cX10_numberAt 12 = .ok (.if_icmp .gt 29, 3) := by decide +kernel
theorem dX10_numberAt_15 : decode cX10_numberAt 15 = .ok (.aload_n 0, 1) := by decide +kernel
theorem dX10_numberAt_16 : decode cX10_numberAt 16 = .ok (.iload_n 3, 1) := by decide +kernel
theorem dX10_numberAt_17 : decode cX10_numberAt 17 = .ok (.invokevirtual 48, 3) := by decide +kernel
theorem dX10_numberAt_20 : decode cX10_numberAt 20 = .ok (.ifCond .eq 15, 3) := by decide +kernel
theorem dX10_numberAt_23 : decode cX10_numberAt 23 = .ok (.aload_n 0, 1) := by decide +kernel
theorem dX10_numberAt_24 : decode cX10_numberAt 24 = .ok (.getfield 12, 3) := by decide +kernel
theorem dX10_numberAt_27 : decode cX10_numberAt 27 = .ok (.invokevirtual 51, 3) := by decide +kernel
theorem dX10_numberAt_30 : decode cX10_numberAt 30 = .ok (.ifCond .eq 5, 3) := by decide +kernel
theorem dX10_numberAt_33 : decode cX10_numberAt 33 = .ok (.iload_n 3, 1) := by decide +kernel
theorem dX10_numberAt_34 : decode cX10_numberAt 34 = .ok (.ireturn, 1) := by decide +kernel
theorem dX10_numberAt_35 : decode cX10_numberAt 35 = .ok (.iinc 3 1, 3) := by decide +kernel
theorem dX10_numberAt_38 : decode cX10_numberAt 38 = .ok (.goto (-28), 3) := by decide +kernel
theorem dX10_numberAt_41 : decode cX10_numberAt 41 = .ok (.aload_n 0, 1) := by decide +kernel
theorem dX10_numberAt_42 : decode cX10_numberAt 42 = .ok (.getfield 12, 3) := by decide +kernel
theorem dX10_numberAt_45 : decode cX10_numberAt 45 = .ok (.invokevirtual 55, 3) := by decide +kernel
theorem dX10_numberAt_48 : decode cX10_numberAt 48 = .ok (.ireturn, 1) := by decide +kernel
set_option maxRecDepth 20000 in
theorem ggX10_agrees_X10_looks : GoodIn wsX10_agrees wsX10_looks := goodIn_r _ [7] rfl (by decide +kernel)
set_option maxRecDepth 20000 in
theorem gX10_agrees_X10_looks : GoodIn wsX10_agrees (va_wsS RX10 40 yX10_looks wsX10_looks) := goodIn_app (goodIn_sub (List.forall_mem_cons.mpr ⟨List.mem_of_getElem? (i := 4) rfl, List.forall_mem_cons.mpr ⟨List.mem_of_getElem? (i := 5) rfl, List.forall_mem_cons.mpr ⟨List.mem_of_getElem? (i := 6) rfl, fun _ h => absurd h List.not_mem_nil⟩⟩⟩) (by decide +kernel)) ggX10_agrees_X10_looks
set_option maxRecDepth 20000 in
theorem ggX10_agrees_X8_has : GoodIn wsX10_agrees wsX8_has := goodIn_r _ [12, 13, 21, 22, 23, 24] rfl (by decide +kernel)
set_option maxRecDepth 20000 in
theorem gX10_agrees_X8_has : GoodIn wsX10_agrees (wsV RX10 59 RX8 yX8_has wsX8_has) := goodIn_app (goodIn_sub (List.forall_mem_cons.mpr ⟨List.mem_of_getElem? (i := 8) rfl, List.forall_mem_cons.mpr ⟨List.mem_of_getElem? (i := 9) rfl, List.forall_mem_cons.mpr ⟨List.mem_of_getElem? (i := 10) rfl, List.forall_mem_cons.mpr ⟨List.mem_of_getElem? (i := 11) rfl, fun _ h => absurd h List.not_mem_nil⟩⟩⟩⟩) (by decide +kernel)) ggX10_agrees_X8_has
set_option maxRecDepth 20000 in
theorem ggX10_agrees_X10_together : GoodIn wsX10_agrees wsX10_together := goodIn_r _ [16] rfl (by decide +kernel)
set_option maxRecDepth 20000 in
theorem gX10_agrees_X10_together : GoodIn wsX10_agrees (va_wsS RX10 65 yX10_together wsX10_together) := goodIn_app (goodIn_sub (List.forall_mem_cons.mpr ⟨List.mem_of_getElem? (i := 14) rfl, List.forall_mem_cons.mpr ⟨List.mem_of_getElem? (i := 15) rfl, List.forall_mem_cons.mpr ⟨List.mem_of_getElem? (i := 6) rfl, fun _ h => absurd h List.not_mem_nil⟩⟩⟩) (by decide +kernel)) ggX10_agrees_X10_together
theorem dX10_agrees_0 : decode cX10_agrees 0 = .ok (.iconst 0, 1) := by decide +kernel
theorem dX10_agrees_1 : decode cX10_agrees 1 = .ok (.istore_n 2, 1) := by decide +kernel
theorem dX10_agrees_2 : decode cX10_agrees 2 = .ok (.iconst 0, 1) := by decide +kernel
theorem dX10_agrees_3 : decode cX10_agrees 3 = .ok (.istore_n 3, 1) := by decide +kernel
theorem dX10_agrees_4 : decode cX10_agrees 4 = .ok (.iload_n 3, 1) := by decide +kernel
theorem dX10_agrees_5 : decode cX10_agrees 5 = .ok (.aload_n 0, 1) := by decide +kernel
theorem dX10_agrees_6 : decode cX10_agrees 6 = .ok (.getfield 22, 3) := by decide +kernel
theorem dX10_agrees_9 : decode cX10_agrees 9 = .ok (.if_icmp .ge 91, 3) := by decide +kernel
theorem dX10_agrees_12 : decode cX10_agrees 12 = .ok (.iload_n 3, 1) := by decide +kernel
theorem dX10_agrees_13 : decode cX10_agrees 13 = .ok (.bipush 60, 2) := by decide +kernel
theorem dX10_agrees_15 : decode cX10_agrees 15 = .ok (.if_icmp .ge 85, 3) := by decide +kernel
theorem dX10_agrees_18 : decode cX10_agrees 18 = .ok (.aload_n 0, 1) := by decide +kernel
theorem dX10_agrees_19 : decode cX10_agrees 19 = .ok (.getfield 18, 3) := by decide +kernel
theorem dX10_agrees_22 : decode cX10_agrees 22 = .ok (.iload_n 3, 1) := by decide +kernel
theorem dX10_agrees_23 : decode cX10_agrees 23 = .ok (.iaload, 1) := by decide +kernel
theorem dX10_agrees_24 : decode cX10_agrees 24 = .ok (.istore 4, 2) := by decide +kernel
theorem dX10_agrees_26 : decode cX10_agrees 26 = .ok (.iload 4, 2) := by decide +kernel
theorem dX10_agrees_28 : decode cX10_agrees 28 = .ok (.invokestatic 40, 3) := by decide +kernel
theorem dX10_agrees_31 : decode cX10_agrees 31 = .ok (.ifCond .eq 29, 3) := by decide +kernel
theorem dX10_agrees_34 : decode cX10_agrees 34 = .ok (.iload_n 2, 1) := by decide +kernel
theorem dX10_agrees_35 : decode cX10_agrees 35 = .ok (.iconst 1, 1) := by decide +kernel
theorem dX10_agrees_36 : decode cX10_agrees 36 = .ok (.ishl, 1) := by decide +kernel
theorem dX10_agrees_37 : decode cX10_agrees 37 = .ok (.aload_n 0, 1) := by decide +kernel
theorem dX10_agrees_38 : decode cX10_agrees 38 = .ok (.getfield 26, 3) := by decide +kernel
theorem dX10_agrees_41 : decode cX10_agrees 41 = .ok (.iload_n 1, 1) := by decide +kernel
theorem dX10_agrees_42 : decode cX10_agrees 42 = .ok (.iload 4, 2) := by decide +kernel
theorem dX10_agrees_44 : decode cX10_agrees 44 = .ok (.invokevirtual 59, 3) := by decide +kernel
theorem dX10_agrees_47 : decode cX10_agrees 47 = .ok (.ifCond .eq 7, 3) := by decide +kernel
theorem dX10_agrees_50 : decode cX10_agrees 50 = .ok (.iconst 1, 1) := by decide +kernel
theorem dX10_agrees_51 : decode cX10_agrees 51 = .ok (.goto 4, 3) := by decide +kernel
theorem dX10_agrees_54 : decode cX10_agrees 54 = .ok (.iconst 0, 1) := by decide +kernel
theorem dX10_agrees_55 : decode cX10_agrees 55 = .ok (.ior, 1) := by decide +kernel
theorem dX10_agrees_56 : decode cX10_agrees 56 = .ok (.istore_n 2, 1) := by decide +kernel
theorem dX10_agrees_57 : decode cX10_agrees 57 = .ok (.goto 37, 3) := by decide +kernel
theorem dX10_agrees_60 : decode cX10_agrees 60 = .ok (.iload 4, 2) := by decide +kernel
theorem dX10_agrees_62 : decode cX10_agrees 62 = .ok (.bipush 19, 2) := by decide +kernel
theorem dX10_agrees_64 : decode cX10_agrees 64 = .ok (.if_icmp .ne 10, 3) := by decide +kernel
theorem dX10_agrees_67 : decode cX10_agrees 67 = .ok (.iload_n 2, 1) := by decide +kernel
theorem dX10_agrees_68 : decode cX10_agrees 68 = .ok (.iconst 1, 1) := by decide +kernel
theorem dX10_agrees_69 : decode cX10_agrees 69 = .ok (.ixor, 1) := by decide +kernel
theorem dX10_agrees_70 : decode cX10_agrees 70 = .ok (.istore_n 2, 1) := by decide +kernel
theorem dX10_agrees_71 : decode cX10_agrees 71 = .ok (.goto 23, 3) := by decide +kernel
theorem dX10_agrees_74 : decode cX10_agrees 74 = .ok (.iload_n 2, 1) := by decide +kernel
theorem dX10_agrees_75 : decode cX10_agrees 75 = .ok (.iconst 2, 1) := by decide +kernel
theorem dX10_agrees_76 : decode cX10_agrees 76 = .ok (.ishr, 1) := by decide +kernel
theorem dX10_agrees_77 : decode cX10_agrees 77 = .ok (.iconst 1, 1) := by decide +kernel
theorem dX10_agrees_78 : decode cX10_agrees 78 = .ok (.ishl, 1) := by decide +kernel
theorem dX10_agrees_79 : decode cX10_agrees 79 = .ok (.iload 4, 2) := by decide +kernel
theorem dX10_agrees_81 : decode cX10_agrees 81 = .ok (.iload_n 2, 1) := by decide +kernel
theorem dX10_agrees_82 : decode cX10_agrees 82 = .ok (.iconst 1, 1) := by decide +kernel
theorem dX10_agrees_83 : decode cX10_agrees 83 = .ok (.ishr, 1) := by decide +kernel
theorem dX10_agrees_84 : decode cX10_agrees 84 = .ok (.iconst 1, 1) := by decide +kernel
theorem dX10_agrees_85 : decode cX10_agrees 85 = .ok (.iand, 1) := by decide +kernel
theorem dX10_agrees_86 : decode cX10_agrees 86 = .ok (.iload_n 2, 1) := by decide +kernel
theorem dX10_agrees_87 : decode cX10_agrees 87 = .ok (.iconst 1, 1) := by decide +kernel
theorem dX10_agrees_88 : decode cX10_agrees 88 = .ok (.iand, 1) := by decide +kernel
theorem dX10_agrees_89 : decode cX10_agrees 89 = .ok (.invokestatic 65, 3) := by decide +kernel
theorem dX10_agrees_92 : decode cX10_agrees 92 = .ok (.ior, 1) := by decide +kernel
theorem dX10_agrees_93 : decode cX10_agrees 93 = .ok (.istore_n 2, 1) := by decide +kernel
theorem dX10_agrees_94 : decode cX10_agrees 94 = .ok (.iinc 3 1, 3) := by decide +kernel
theorem dX10_agrees_97 : decode cX10_agrees 97 = .ok (.goto (-93), 3) := by decide +kernel
theorem dX10_agrees_100 : decode cX10_agrees 100 = .ok (.iload_n 2, 1) := by decide +kernel
theorem dX10_agrees_101 : decode cX10_agrees 101 = .ok (.iconst 1, 1) := by decide +kernel
theorem dX10_agrees_102 : decode cX10_agrees 102 = .ok (.iand, 1) := by decide +kernel
theorem dX10_agrees_103 : decode cX10_agrees 103 = .ok (.iconst 1, 1) := by decide +kernel
theorem dX10_agrees_104 : decode cX10_agrees 104 = .ok (.if_icmp .ne 7, 3) := by decide +kernel
theorem dX10_agrees_107 : decode cX10_agrees 107 = .ok (.iconst 1, 1) := by decide +kernel
theorem dX10_agrees_108 : decode cX10_agrees 108 = .ok (.goto 4, 3) := by decide +kernel
theorem dX10_agrees_111 : decode cX10_agrees 111 = .ok (.iconst 0, 1) := by decide +kernel
theorem dX10_agrees_112 : decode cX10_agrees 112 = .ok (.ireturn, 1) := by decide +kernel
theorem dX10_together_0 : decode cX10_together 0 = .ok (.iload_n 0, 1) := by decide +kernel
theorem dX10_together_1 : decode cX10_together 1 = .ok (.bipush 20, 2) := by decide +kernel
theorem dX10_together_3 : decode cX10_together 3 = .ok (.if_icmp .ne 7, 3) := by decide +kernel
theorem dX10_together_6 : decode cX10_together 6 = .ok (.iload_n 1, 1) := by decide +kernel
theorem dX10_together_7 : decode cX10_together 7 = .ok (.iload_n 2, 1) := by decide +kernel
theorem dX10_together_8 : decode cX10_together 8 = .ok (.iand, 1) := by decide +kernel
theorem dX10_together_9 : decode cX10_together 9 = .ok (.ireturn, 1) := by decide +kernel
theorem dX10_together_10 : decode cX10_together 10 = .ok (.iload_n 0, 1) := by decide +kernel
theorem dX10_together_11 : decode cX10_together 11 = .ok (.bipush 21, 2) := by decide +kernel
theorem dX10_together_13 : decode cX10_together 13 = .ok (.if_icmp .ne 9, 3) := by decide +kernel
theorem dX10_together_16 : decode cX10_together 16 = .ok (.iload_n 1, 1) := by decide +kernel
theorem dX10_together_17 : decode cX10_together 17 = .ok (.iload_n 2, 1) := by decide +kernel
theorem dX10_together_18 : decode cX10_together 18 = .ok (.ior, 1) := by decide +kernel
theorem dX10_together_19 : decode cX10_together 19 = .ok (.goto 6, 3) := by decide +kernel
theorem dX10_together_22 : decode cX10_together 22 = .ok (.iload_n 1, 1) := by decide +kernel
theorem dX10_together_23 : decode cX10_together 23 = .ok (.iload_n 2, 1) := by decide +kernel
theorem dX10_together_24 : decode cX10_together 24 = .ok (.ixor, 1) := by decide +kernel
theorem dX10_together_25 : decode cX10_together 25 = .ok (.ireturn, 1) := by decide +kernel
set_option maxRecDepth 20000 in
theorem ggX11_init_X4_init : GoodIn wsX11_init wsX4_init := goodIn_r _ [44, 45, 2, 3, 46, 47, 137] rfl (by decide +kernel)
set_option maxRecDepth 20000 in
theorem gX11_init_X4_init_n9 : GoodIn wsX11_init (wsX4_init) := ggX11_init_X4_init
set_option maxRecDepth 20000 in
theorem ggX11_init_X3_init : GoodIn wsX11_init wsX3_init := goodIn_r _ [50, 51, 2, 3, 46, 52, 53, 138, 139] rfl (by decide +kernel)
set_option maxRecDepth 20000 in
theorem gX11_init_X3_init : GoodIn wsX11_init (wsX3_init) := ggX11_init_X3_init
set_option maxRecDepth 20000 in
theorem ggX11_init_X6_init : GoodIn wsX11_init wsX6_init := goodIn_r _ [56, 57, 2, 3, 58, 59, 46, 60, 61, 62, 63, 64, 65, 66, 149, 150, 151, 152, 153, 154, 155, 156] rfl (by decide +kernel)
set_option maxRecDepth 20000 in
theorem gX11_init_X6_init : GoodIn wsX11_init (wsX6_init) := ggX11_init_X6_init
set_option maxRecDepth 20000 in
theorem ggX11_init_X0_init : GoodIn wsX11_init wsX0_init := goodIn_r _ [69, 70, 2, 3, 58, 71, 72, 73, 74, 75, 76, 77, 78, 157, 158, 159, 160, 161, 162, 163, 164] rfl (by decide +kernel)
set_option maxRecDepth 20000 in
theorem gX11_init_X0_init : GoodIn wsX11_init (wsX0_init) := ggX11_init_X0_init
set_option maxRecDepth 20000 in
theorem ggX11_init_X7_init : GoodIn wsX11_init wsX7_init := goodIn_r _ [81, 82, 2, 3, 46, 83, 84, 85, 165, 166, 167] rfl (by decide +kernel)
set_option maxRecDepth 20000 in
theorem gX11_init_X7_init : GoodIn wsX11_init (wsX7_init) := ggX11_init_X7_init
set_option maxRecDepth 20000 in
theorem ggX11_init_X5_init : GoodIn wsX11_init wsX5_init := goodIn_r _ [88, 89, 2, 3, 90, 91, 92, 93, 94, 95, 96, 97, 98, 99, 100, 190, 191, 168, 169, 170] rfl (by decide +kernel)
set_option maxRecDepth 20000 in
theorem gX11_init_X5_init : GoodIn wsX11_init (wsX5_init) := ggX11_init_X5_init
set_option maxRecDepth 20000 in
theorem ggX11_init_X9_init : GoodIn wsX11_init wsX9_init := goodIn_r _ [103, 104, 2, 3, 58, 105, 106, 107, 108, 109, 110, 111, 112, 113, 171, 172, 173, 174, 175, 176, 177, 178, 179] rfl (by decide +kernel)
set_option maxRecDepth 20000 in
theorem gX11_init_X9_init : GoodIn wsX11_init (wsX9_init) := ggX11_init_X9_init
set_option maxRecDepth 20000 in
theorem ggX11_init_X1_init : GoodIn wsX11_init wsX1_init := goodIn_r _ [116, 117, 2, 3, 118, 119, 180, 181] rfl (by decide +kernel)
set_option maxRecDepth 20000 in
theorem gX11_init_X1_init : GoodIn wsX11_init (wsX1_init) := ggX11_init_X1_init
set_option maxRecDepth 20000 in
theorem ggX11_init_X8_init : GoodIn wsX11_init wsX8_init := goodIn_r _ [122, 123, 2, 3, 46, 124, 125, 126, 127, 182, 183, 184, 185] rfl (by decide +kernel)
set_option maxRecDepth 20000 in
theorem gX11_init_X8_init : GoodIn wsX11_init (wsX8_init) := ggX11_init_X8_init
set_option maxRecDepth 20000 in
theorem ggX11_init_X10_init : GoodIn wsX11_init wsX10_init := goodIn_r _ [130, 131, 2, 3, 132, 91, 92, 133, 46, 134, 135, 136, 96, 97, 98, 99, 100, 190, 191, 186, 187, 188, 189] rfl (by decide +kernel)
set_option maxRecDepth 20000 in
theorem gX11_init_X10_init : GoodIn wsX11_init (wsX10_init) := ggX11_init_X10_init
theorem dX11_init_0 : decode cX11_init 0 = .ok (.aload_n 0, 1) := by decide +kernel
theorem dX11_init_1 : decode cX11_init 1 = .ok (.invokespecial 1, 3) := by decide +kernel
theorem dX11_init_4 : decode cX11_init 4 = .ok (.new 7, 3) := by decide +kernel
theorem dX11_init_7 : decode cX11_init 7 = .ok (.dup, 1) := by decide +kernel
theorem dX11_init_8 : decode cX11_init 8 = .ok (.invokespecial 9, 3) := by decide +kernel
theorem dX11_init_11 : decode cX11_init 11 = .ok (.astore_n 1, 1) := by decide +kernel
theorem dX11_init_12 : decode cX11_init 12 = .ok (.aload_n 0, 1) := by decide +kernel
theorem dX11_init_13 : decode cX11_init 13 = .ok (.new 10, 3) := by decide +kernel
theorem dX11_init_16 : decode cX11_init 16 = .ok (.dup, 1) := by decide +kernel
theorem dX11_init_17 : decode cX11_init 17 = .ok (.aload_n 1, 1) := by decide +kernel
theorem dX11_init_18 : decode cX11_init 18 = .ok (.invokespecial 12, 3) := by decide +kernel
theorem dX11_init_21 : decode cX11_init 21 = .ok (.putfield 15, 3) := by decide +kernel
theorem dX11_init_24 : decode cX11_init 24 = .ok (.aload_n 0, 1) := by decide +kernel
theorem dX11_init_25 : decode cX11_init 25 = .ok (.new 21, 3) := by decide +kernel
theorem dX11_init_28 : decode cX11_init 28 = .ok (.dup, 1) := by decide +kernel
theorem dX11_init_29 : decode cX11_init 29 = .ok (.aload_n 0, 1) := by decide +kernel
theorem dX11_init_30 : decode cX11_init 30 = .ok (.getfield 15, 3) := by decide +kernel
theorem dX11_init_33 : decode cX11_init 33 = .ok (.invokespecial 23, 3) := by decide +kernel
theorem dX11_init_36 : decode cX11_init 36 = .ok (.putfield 26, 3) := by decide +kernel
theorem dX11_init_39 : decode cX11_init 39 = .ok (.aload_n 0, 1) := by decide +kernel
theorem dX11_init_40 : decode cX11_init 40 = .ok (.new 30, 3) := by decide +kernel
theorem dX11_init_43 : decode cX11_init 43 = .ok (.dup, 1) := by decide +kernel
theorem dX11_init_44 : decode cX11_init 44 = .ok (.aload_n 0, 1) := by decide +kernel
theorem dX11_init_45 : decode cX11_init 45 = .ok (.getfield 26, 3) := by decide +kernel
theorem dX11_init_48 : decode cX11_init 48 = .ok (.invokespecial 32, 3) := by decide +kernel
theorem dX11_init_51 : decode cX11_init 51 = .ok (.putfield 35, 3) := by decide +kernel
theorem dX11_init_54 : decode cX11_init 54 = .ok (.aload_n 0, 1) := by decide +kernel
theorem dX11_init_55 : decode cX11_init 55 = .ok (.new 39, 3) := by decide +kernel
theorem dX11_init_58 : decode cX11_init 58 = .ok (.dup, 1) := by decide +kernel
theorem dX11_init_59 : decode cX11_init 59 = .ok (.aload_n 1, 1) := by decide +kernel
theorem dX11_init_60 : decode cX11_init 60 = .ok (.invokespecial 41, 3) := by decide +kernel
theorem dX11_init_63 : decode cX11_init 63 = .ok (.putfield 42, 3) := by decide +kernel
theorem dX11_init_66 : decode cX11_init 66 = .ok (.aload_n 0, 1) := by decide +kernel
theorem dX11_init_67 : decode cX11_init 67 = .ok (.new 46, 3) := by decide +kernel
theorem dX11_init_70 : decode cX11_init 70 = .ok (.dup, 1) := by decide +kernel
theorem dX11_init_71 : decode cX11_init 71 = .ok (.aload_n 0, 1) := by decide +kernel
theorem dX11_init_72 : decode cX11_init 72 = .ok (.getfield 42, 3) := by decide +kernel
theorem dX11_init_75 : decode cX11_init 75 = .ok (.aload_n 1, 1) := by decide +kernel
theorem dX11_init_76 : decode cX11_init 76 = .ok (.invokespecial 48, 3) := by decide +kernel
theorem dX11_init_79 : decode cX11_init 79 = .ok (.putfield 51, 3) := by decide +kernel
theorem dX11_init_82 : decode cX11_init 82 = .ok (.aload_n 0, 1) := by decide +kernel
theorem dX11_init_83 : decode cX11_init 83 = .ok (.new 55, 3) := by decide +kernel
theorem dX11_init_86 : decode cX11_init 86 = .ok (.dup, 1) := by decide +kernel
theorem dX11_init_87 : decode cX11_init 87 = .ok (.aload_n 0, 1) := by decide +kernel
theorem dX11_init_88 : decode cX11_init 88 = .ok (.getfield 26, 3) := by decide +kernel
theorem dX11_init_91 : decode cX11_init 91 = .ok (.aload_n 0, 1) := by decide +kernel
theorem dX11_init_92 : decode cX11_init 92 = .ok (.getfield 15, 3) := by decide +kernel
theorem dX11_init_95 : decode cX11_init 95 = .ok (.invokespecial 57, 3) := by decide +kernel
theorem dX11_init_98 : decode cX11_init 98 = .ok (.putfield 60, 3) := by decide +kernel
theorem dX11_init_101 : decode cX11_init 101 = .ok (.aload_n 0, 1) := by decide +kernel
theorem dX11_init_102 : decode cX11_init 102 = .ok (.new 64, 3) := by decide +kernel
theorem dX11_init_105 : decode cX11_init 105 = .ok (.dup, 1) := by decide +kernel
theorem dX11_init_106 : decode cX11_init 106 = .ok (.aload_n 0, 1) := by decide +kernel
theorem dX11_init_107 : decode cX11_init 107 = .ok (.getfield 26, 3) := by decide +kernel
theorem dX11_init_110 : decode cX11_init 110 = .ok (.aload_n 1, 1) := by decide +kernel
theorem dX11_init_111 : decode cX11_init 111 = .ok (.invokespecial 66, 3) := by decide +kernel
theorem dX11_init_114 : decode cX11_init 114 = .ok (.putfield 69, 3) := by decide +kernel
theorem dX11_init_117 : decode cX11_init 117 = .ok (.aload_n 0, 1) := by decide +kernel
theorem dX11_init_118 : decode cX11_init 118 = .ok (.new 73, 3) := by decide +kernel
theorem dX11_init_121 : decode cX11_init 121 = .ok (.dup, 1) := by decide +kernel
theorem dX11_init_122 : decode cX11_init 122 = .ok (.aload_n 0, 1) := by decide +kernel
theorem dX11_init_123 : decode cX11_init 123 = .ok (.getfield 26, 3) := by decide +kernel
theorem dX11_init_126 : decode cX11_init 126 = .ok (.aload_n 0, 1) := by decide +kernel
theorem dX11_init_127 : decode cX11_init 127 = .ok (.getfield 42, 3) := by decide +kernel
theorem dX11_init_130 : decode cX11_init 130 = .ok (.aload_n 0, 1) := by decide +kernel
theorem dX11_init_131 : decode cX11_init 131 = .ok (.getfield 69, 3) := by decide +kernel
theorem dX11_init_134 : decode cX11_init 134 = .ok (.invokespecial 75, 3) := by decide +kernel
theorem dX11_init_137 : decode cX11_init 137 = .ok (.putfield 78, 3) := by decide +kernel
theorem dX11_init_140 : decode cX11_init 140 = .ok (.aload_n 0, 1) := by decide +kernel
theorem dX11_init_141 : decode cX11_init 141 = .ok (.new 82, 3) := by decide +kernel
theorem dX11_init_144 : decode cX11_init 144 = .ok (.dup, 1) := by decide +kernel
theorem dX11_init_145 : decode cX11_init 145 = .ok (.aload_n 0, 1) := by decide +kernel
theorem dX11_init_146 : decode cX11_init 146 = .ok (.getfield 78, 3) := by decide +kernel
theorem dX11_init_149 : decode cX11_init 149 = .ok (.invokespecial 84, 3) := by decide +kernel
theorem dX11_init_152 : decode cX11_init 152 = .ok (.putfield 87, 3) := by decide +kernel
theorem dX11_init_155 : decode cX11_init 155 = .ok (.return_, 1) := by decide +kernel
set_option maxRecDepth 20000 in
theorem ggX11_sum_X11_within : GoodIn wsX11_sum wsX11_within := goodIn_r _ [7] rfl (by decide +kernel)
set_option maxRecDepth 20000 in
theorem gX11_sum_X11_within : GoodIn wsX11_sum (va_wsS RX11 91 yX11_within wsX11_within) := goodIn_app (goodIn_sub (List.forall_mem_cons.mpr ⟨List.mem_of_getElem? (i := 4) rfl, List.forall_mem_cons.mpr ⟨List.mem_of_getElem? (i := 5) rfl, List.forall_mem_cons.mpr ⟨List.mem_of_getElem? (i := 6) rfl, fun _ h => absurd h List.not_mem_nil⟩⟩⟩) (by decide +kernel)) ggX11_sum_X11_within
set_option maxRecDepth 20000 in
theorem ggX11_sum_X11_isNumber : GoodIn wsX11_sum wsX11_isNumber := goodIn_r _ [10, 11] rfl (by decide +kernel)
set_option maxRecDepth 20000 in
theorem gX11_sum_X11_isNumber : GoodIn wsX11_sum (va_wsS RX11 95 yX11_isNumber wsX11_isNumber) := goodIn_app (goodIn_sub (List.forall_mem_cons.mpr ⟨List.mem_of_getElem? (i := 8) rfl, List.forall_mem_cons.mpr ⟨List.mem_of_getElem? (i := 9) rfl, List.forall_mem_cons.mpr ⟨List.mem_of_getElem? (i := 6) rfl, fun _ h => absurd h List.not_mem_nil⟩⟩⟩) (by decide +kernel)) ggX11_sum_X11_isNumber
set_option maxRecDepth 20000 in
theorem ggX11_sum_X3_prepare : GoodIn wsX11_sum wsX3_prepare := goodIn_r _ [16, 17, 18, 19, 20, 21, 22, 23, 24, 25, 26, 27, 28, 29, 30, 31, 32, 33, 34, 35, 36, 37, 15, 38, 75, 76, 77] rfl (by decide +kernel)
set_option maxRecDepth 20000 in
theorem gX11_sum_X3_prepare : GoodIn wsX11_sum (wsV RX11 101 RX3 yX3_prepare wsX3_prepare) := goodIn_app (goodIn_sub (List.forall_mem_cons.mpr ⟨List.mem_of_getElem? (i := 12) rfl, List.forall_mem_cons.mpr ⟨List.mem_of_getElem? (i := 13) rfl, List.forall_mem_cons.mpr ⟨List.mem_of_getElem? (i := 14) rfl, List.forall_mem_cons.mpr ⟨List.mem_of_getElem? (i := 15) rfl, fun _ h => absurd h List.not_mem_nil⟩⟩⟩⟩) (by decide +kernel)) ggX11_sum_X3_prepare
set_option maxRecDepth 20000 in
theorem ggX11_sum_X6_summed : GoodIn wsX11_sum wsX6_summed := goodIn_r _ [43, 44, 45, 46, 42, 47, 48, 49, 50, 51, 52, 53, 54, 55, 56, 57, 58, 59, 60, 61, 62, 63, 64, 65, 78, 79, 80, 81, 82, 83, 84, 85, 75, 76] rfl (by decide +kernel)
set_option maxRecDepth 20000 in
theorem gX11_sum_X6_summed : GoodIn wsX11_sum (wsV RX11 104 RX6 yX6_summed wsX6_summed) := goodIn_app (goodIn_sub (List.forall_mem_cons.mpr ⟨List.mem_of_getElem? (i := 39) rfl, List.forall_mem_cons.mpr ⟨List.mem_of_getElem? (i := 40) rfl, List.forall_mem_cons.mpr ⟨List.mem_of_getElem? (i := 41) rfl, List.forall_mem_cons.mpr ⟨List.mem_of_getElem? (i := 42) rfl, fun _ h => absurd h List.not_mem_nil⟩⟩⟩⟩) (by decide +kernel)) ggX11_sum_X6_summed
theorem dX11_sum_0 : decode cX11_sum 0 = .ok (.iload_n 1, 1) := by decide +kernel
theorem dX11_sum_1 : decode cX11_sum 1 = .ok (.iconst 0, 1) := by decide +kernel
theorem dX11_sum_2 : decode cX11_sum 2 = .ok (.iconst 3, 1) := by decide +kernel
theorem dX11_sum_3 : decode cX11_sum 3 = .ok (.invokestatic 91, 3) := by decide +kernel
theorem dX11_sum_6 : decode cX11_sum 6 = .ok (.ifCond .eq 10, 3) := by decide +kernel
theorem dX11_sum_9 : decode cX11_sum 9 = .ok (.lload_n 2, 1) := by decide +kernel
theorem dX11_sum_10 : decode cX11_sum 10 = .ok (.invokestatic 95, 3) := by decide +kernel
theorem dX11_sum_13 : decode cX11_sum 13 = .ok (.ifCond .ne 7, 3) := by decide +kernel
theorem dX11_sum_16 : decode cX11_sum 16 = .ok (.ldc2_w 99, 3) := by decide +kernel
theorem dX11_sum_19 : decode cX11_sum 19 = .ok (.lreturn, 1) := by decide +kernel
theorem dX11_sum_20 : decode cX11_sum 20 = .ok (.aload_n 0, 1) := by decide +kernel
theorem dX11_sum_21 : decode cX11_sum 21 = .ok (.getfield 15, 3) := by decide +kernel
theorem dX11_sum_24 : decode cX11_sum 24 = .ok (.invokevirtual 101, 3) := by decide +kernel
theorem dX11_sum_27 : decode cX11_sum 27 = .ok (.aload_n 0, 1) := by decide +kernel
theorem dX11_sum_28 : decode cX11_sum 28 = .ok (.getfield 26, 3) := by decide +kernel
theorem dX11_sum_31 : decode cX11_sum 31 = .ok (.iload_n 1, 1) := by decide +kernel
theorem dX11_sum_32 : decode cX11_sum 32 = .ok (.lload_n 2, 1) := by decide +kernel
theorem dX11_sum_33 : decode cX11_sum 33 = .ok (.invokevirtual 104, 3) := by decide +kernel
theorem dX11_sum_36 : decode cX11_sum 36 = .ok (.lreturn, 1) := by decide +kernel
set_option maxRecDepth 20000 in
theorem ggX11_part_X11_isNumber : GoodIn wsX11_part wsX11_isNumber := goodIn_r _ [7, 8] rfl (by decide +kernel)
set_option maxRecDepth 20000 in
theorem gX11_part_X11_isNumber : GoodIn wsX11_part (va_wsS RX11 95 yX11_isNumber wsX11_isNumber) := goodIn_app (goodIn_sub (List.forall_mem_cons.mpr ⟨List.mem_of_getElem? (i := 4) rfl, List.forall_mem_cons.mpr ⟨List.mem_of_getElem? (i := 5) rfl, List.forall_mem_cons.mpr ⟨List.mem_of_getElem? (i := 6) rfl, fun _ h => absurd h List.not_mem_nil⟩⟩⟩) (by decide +kernel)) ggX11_part_X11_isNumber
set_option maxRecDepth 20000 in
theorem ggX11_part_X3_prepare : GoodIn wsX11_part wsX3_prepare := goodIn_r _ [13, 14, 15, 16, 17, 18, 19, 20, 21, 22, 23, 24, 25, 26, 27, 28, 29, 30, 31, 32, 33, 34, 12, 35, 82, 83, 84] rfl (by decide +kernel)
set_option maxRecDepth 20000 in
theorem gX11_part_X3_prepare : GoodIn wsX11_part (wsV RX11 101 RX3 yX3_prepare wsX3_prepare) := goodIn_app (goodIn_sub (List.forall_mem_cons.mpr ⟨List.mem_of_getElem? (i := 9) rfl, List.forall_mem_cons.mpr ⟨List.mem_of_getElem? (i := 10) rfl, List.forall_mem_cons.mpr ⟨List.mem_of_getElem? (i := 11) rfl, List.forall_mem_cons.mpr ⟨List.mem_of_getElem? (i := 12) rfl, fun _ h => absurd h List.not_mem_nil⟩⟩⟩⟩) (by decide +kernel)) ggX11_part_X3_prepare
set_option maxRecDepth 20000 in
theorem ggX11_part_X6_splitUp : GoodIn wsX11_part wsX6_splitUp := goodIn_r _ [40, 41, 42, 43, 44, 45, 46, 47, 39, 48, 49, 50, 85, 86, 87, 88, 89, 90, 91, 92, 82, 83] rfl (by decide +kernel)
set_option maxRecDepth 20000 in
theorem gX11_part_X6_splitUp : GoodIn wsX11_part (wsV RX11 108 RX6 yX6_splitUp wsX6_splitUp) := goodIn_app (goodIn_sub (List.forall_mem_cons.mpr ⟨List.mem_of_getElem? (i := 36) rfl, List.forall_mem_cons.mpr ⟨List.mem_of_getElem? (i := 37) rfl, List.forall_mem_cons.mpr ⟨List.mem_of_getElem? (i := 38) rfl, List.forall_mem_cons.mpr ⟨List.mem_of_getElem? (i := 39) rfl, fun _ h => absurd h List.not_mem_nil⟩⟩⟩⟩) (by decide +kernel)) ggX11_part_X6_splitUp
set_option maxRecDepth 20000 in
theorem ggX11_part_X6_howManyParts : GoodIn wsX11_part wsX6_howManyParts := goodIn_r _ [54, 42, 50, 85, 86, 87, 88, 89, 90, 91, 92] rfl (by decide +kernel)
set_option maxRecDepth 20000 in
theorem gX11_part_X6_howManyParts : GoodIn wsX11_part (wsV RX11 112 RX6 yX6_howManyParts wsX6_howManyParts) := goodIn_app (goodIn_sub (List.forall_mem_cons.mpr ⟨List.mem_of_getElem? (i := 51) rfl, List.forall_mem_cons.mpr ⟨List.mem_of_getElem? (i := 52) rfl, List.forall_mem_cons.mpr ⟨List.mem_of_getElem? (i := 53) rfl, List.forall_mem_cons.mpr ⟨List.mem_of_getElem? (i := 39) rfl, fun _ h => absurd h List.not_mem_nil⟩⟩⟩⟩) (by decide +kernel)) ggX11_part_X6_howManyParts
set_option maxRecDepth 20000 in
theorem ggX11_part_X6_partAt : GoodIn wsX11_part wsX6_partAt := goodIn_r _ [58, 59, 60, 61, 62, 63, 64, 39, 65, 66, 41, 42, 50, 49, 67, 68, 69, 70, 71, 6, 72, 85, 86, 87, 88, 89, 90, 91, 92] rfl (by decide +kernel)
set_option maxRecDepth 20000 in
theorem gX11_part_X6_partAt : GoodIn wsX11_part (wsV RX11 116 RX6 yX6_partAt wsX6_partAt) := goodIn_app (goodIn_sub (List.forall_mem_cons.mpr ⟨List.mem_of_getElem? (i := 55) rfl, List.forall_mem_cons.mpr ⟨List.mem_of_getElem? (i := 56) rfl, List.forall_mem_cons.mpr ⟨List.mem_of_getElem? (i := 57) rfl, List.forall_mem_cons.mpr ⟨List.mem_of_getElem? (i := 39) rfl, fun _ h => absurd h List.not_mem_nil⟩⟩⟩⟩) (by decide +kernel)) ggX11_part_X6_partAt
theorem dX11_part_0 : decode cX11_part 0 = .ok (.lload_n 1, 1) := by decide +kernel
theorem dX11_part_1 : decode cX11_part 1 = .ok (.invokestatic 95, 3) := by decide +kernel
theorem dX11_part_4 : decode cX11_part 4 = .ok (.ifCond .eq 8, 3) := by decide +kernel
theorem dX11_part_7 : decode cX11_part 7 = .ok (.iload_n 3, 1) := by decide +kernel
theorem dX11_part_8 : decode cX11_part 8 = .ok (.iconst (-1), 1) := by decide +kernel
theorem dX11_part_9 : decode cX11_part 9 = .ok (.if_icmp .ge 7, 3) := by decide +kernel
theorem dX11_part_12 : decode cX11_part 12 = .ok (.ldc2_w 99, 3) := by decide +kernel
theorem dX11_part_15 : decode cX11_part 15 = .ok (.lreturn, 1) := by decide +kernel
theorem dX11_part_16 : decode cX11_part 16 = .ok (.aload_n 0, 1) := by decide +kernel
theorem dX11_part_17 : decode cX11_part 17 = .ok (.getfield 15, 3) := by decide +kernel
theorem dX11_part_20 : decode cX11_part 20 = .ok (.invokevirtual 101, 3) := by decide +kernel
theorem dX11_part_23 : decode cX11_part 23 = .ok (.aload_n 0, 1) := by decide +kernel
theorem dX11_part_24 : decode cX11_part 24 = .ok (.getfield 26, 3) := by decide +kernel
theorem dX11_part_27 : decode cX11_part 27 = .ok (.lload_n 1, 1) := by decide +kernel
theorem dX11_part_28 : decode cX11_part 28 = .ok (.invokevirtual 108, 3) := by decide +kernel
theorem dX11_part_31 : decode cX11_part 31 = .ok (.iload_n 3, 1) := by decide +kernel
theorem dX11_part_32 : decode cX11_part 32 = .ok (.iconst (-1), 1) := by decide +kernel
theorem dX11_part_33 : decode cX11_part 33 = .ok (.if_icmp .ne 14, 3) := by decide +kernel
theorem dX11_part_36 : decode cX11_part 36 = .ok (.aload_n 0, 1) := by decide +kernel
theorem dX11_part_37 : decode cX11_part 37 = .ok (.getfield 26, 3) := by decide +kernel
theorem dX11_part_40 : decode cX11_part 40 = .ok (.invokevirtual 112, 3) := by decide +kernel
theorem dX11_part_43 : decode cX11_part 43 = .ok (.i2l, 1) := by decide +kernel
theorem dX11_part_44 : decode cX11_part 44 = .ok (.goto 11, 3) := by decide +kernel
theorem dX11_part_47 : decode cX11_part 47 = .ok (.aload_n 0, 1) := by decide +kernel
theorem dX11_part_48 : decode cX11_part 48 = .ok (.getfield 26, 3) := by decide +kernel
theorem dX11_part_51 : decode cX11_part 51 = .ok (.iload_n 3, 1) := by decide +kernel
theorem dX11_part_52 : decode cX11_part 52 = .ok (.invokevirtual 116, 3) := by decide +kernel
theorem dX11_part_55 : decode cX11_part 55 = .ok (.lreturn, 1) := by decide +kernel
set_option maxRecDepth 20000 in
theorem ggX11_prime_X11_isNumber : GoodIn wsX11_prime wsX11_isNumber := goodIn_r _ [7, 8] rfl (by decide +kernel)
set_option maxRecDepth 20000 in
theorem gX11_prime_X11_isNumber : GoodIn wsX11_prime (va_wsS RX11 95 yX11_isNumber wsX11_isNumber) := goodIn_app (goodIn_sub (List.forall_mem_cons.mpr ⟨List.mem_of_getElem? (i := 4) rfl, List.forall_mem_cons.mpr ⟨List.mem_of_getElem? (i := 5) rfl, List.forall_mem_cons.mpr ⟨List.mem_of_getElem? (i := 6) rfl, fun _ h => absurd h List.not_mem_nil⟩⟩⟩) (by decide +kernel)) ggX11_prime_X11_isNumber
set_option maxRecDepth 20000 in
theorem ggX11_prime_X3_prepare : GoodIn wsX11_prime wsX3_prepare := goodIn_r _ [13, 14, 15, 16, 17, 18, 19, 20, 21, 22, 23, 24, 25, 26, 27, 28, 29, 30, 31, 32, 33, 34, 12, 35, 69, 70, 71] rfl (by decide +kernel)
set_option maxRecDepth 20000 in
theorem gX11_prime_X3_prepare : GoodIn wsX11_prime (wsV RX11 101 RX3 yX3_prepare wsX3_prepare) := goodIn_app (goodIn_sub (List.forall_mem_cons.mpr ⟨List.mem_of_getElem? (i := 9) rfl, List.forall_mem_cons.mpr ⟨List.mem_of_getElem? (i := 10) rfl, List.forall_mem_cons.mpr ⟨List.mem_of_getElem? (i := 11) rfl, List.forall_mem_cons.mpr ⟨List.mem_of_getElem? (i := 12) rfl, fun _ h => absurd h List.not_mem_nil⟩⟩⟩⟩) (by decide +kernel)) ggX11_prime_X3_prepare
set_option maxRecDepth 20000 in
theorem ggX11_prime_X6_splitUp : GoodIn wsX11_prime wsX6_splitUp := goodIn_r _ [40, 41, 42, 43, 44, 45, 46, 47, 39, 48, 49, 50, 72, 73, 74, 75, 76, 77, 78, 79, 69, 70] rfl (by decide +kernel)
set_option maxRecDepth 20000 in
theorem gX11_prime_X6_splitUp : GoodIn wsX11_prime (wsV RX11 108 RX6 yX6_splitUp wsX6_splitUp) := goodIn_app (goodIn_sub (List.forall_mem_cons.mpr ⟨List.mem_of_getElem? (i := 36) rfl, List.forall_mem_cons.mpr ⟨List.mem_of_getElem? (i := 37) rfl, List.forall_mem_cons.mpr ⟨List.mem_of_getElem? (i := 38) rfl, List.forall_mem_cons.mpr ⟨List.mem_of_getElem? (i := 39) rfl, fun _ h => absurd h List.not_mem_nil⟩⟩⟩⟩) (by decide +kernel)) ggX11_prime_X6_splitUp
set_option maxRecDepth 20000 in
theorem ggX11_prime_X6_howManyPrimes : GoodIn wsX11_prime wsX6_howManyPrimes := goodIn_r _ [54, 42, 50, 72, 73, 74, 75, 76, 77, 78, 79] rfl (by decide +kernel)
set_option maxRecDepth 20000 in
theorem gX11_prime_X6_howManyPrimes : GoodIn wsX11_prime (wsV RX11 120 RX6 yX6_howManyPrimes wsX6_howManyPrimes) := goodIn_app (goodIn_sub (List.forall_mem_cons.mpr ⟨List.mem_of_getElem? (i := 51) rfl, List.forall_mem_cons.mpr ⟨List.mem_of_getElem? (i := 52) rfl, List.forall_mem_cons.mpr ⟨List.mem_of_getElem? (i := 53) rfl, List.forall_mem_cons.mpr ⟨List.mem_of_getElem? (i := 39) rfl, fun _ h => absurd h List.not_mem_nil⟩⟩⟩⟩) (by decide +kernel)) ggX11_prime_X6_howManyPrimes
set_option maxRecDepth 20000 in
theorem ggX11_prime_X6_primeAt : GoodIn wsX11_prime wsX6_primeAt := goodIn_r _ [58, 42, 50, 49, 59, 72, 73, 74, 75, 76, 77, 78, 79] rfl (by decide +kernel)
set_option maxRecDepth 20000 in
theorem gX11_prime_X6_primeAt : GoodIn wsX11_prime (wsV RX11 123 RX6 yX6_primeAt wsX6_primeAt) := goodIn_app (goodIn_sub (List.forall_mem_cons.mpr ⟨List.mem_of_getElem? (i := 55) rfl, List.forall_mem_cons.mpr ⟨List.mem_of_getElem? (i := 56) rfl, List.forall_mem_cons.mpr ⟨List.mem_of_getElem? (i := 57) rfl, List.forall_mem_cons.mpr ⟨List.mem_of_getElem? (i := 39) rfl, fun _ h => absurd h List.not_mem_nil⟩⟩⟩⟩) (by decide +kernel)) ggX11_prime_X6_primeAt
theorem dX11_prime_0 : decode cX11_prime 0 = .ok (.lload_n 1, 1) := by decide +kernel
theorem dX11_prime_1 : decode cX11_prime 1 = .ok (.invokestatic 95, 3) := by decide +kernel
theorem dX11_prime_4 : decode cX11_prime 4 = .ok (.ifCond .eq 8, 3) := by decide +kernel
theorem dX11_prime_7 : decode cX11_prime 7 = .ok (.iload_n 3, 1) := by decide +kernel
theorem dX11_prime_8 : decode cX11_prime 8 = .ok (.iconst (-1), 1) := by decide +kernel
theorem dX11_prime_9 : decode cX11_prime 9 = .ok (.if_icmp .ge 7, 3) := by decide +kernel
theorem dX11_prime_12 : decode cX11_prime 12 = .ok (.ldc2_w 99, 3) := by decide +kernel
theorem dX11_prime_15 : decode cX11_prime 15 = .ok (.lreturn, 1) := by decide +kernel
theorem dX11_prime_16 : decode cX11_prime 16 = .ok (.aload_n 0, 1) := by decide +kernel
theorem dX11_prime_17 : decode cX11_prime 17 = .ok (.getfield 15, 3) := by decide +kernel
theorem dX11_prime_20 : decode cX11_prime 20 = .ok (.invokevirtual 101, 3) := by decide +kernel
theorem dX11_prime_23 : decode cX11_prime 23 = .ok (.aload_n 0, 1) := by decide +kernel
theorem dX11_prime_24 : decode cX11_prime 24 = .ok (.getfield 26, 3) := by decide +kernel
theorem dX11_prime_27 : decode cX11_prime 27 = .ok (.lload_n 1, 1) := by decide +kernel
theorem dX11_prime_28 : decode cX11_prime 28 = .ok (.invokevirtual 108, 3) := by decide +kernel
theorem dX11_prime_31 : decode cX11_prime 31 = .ok (.iload_n 3, 1) := by decide +kernel
theorem dX11_prime_32 : decode cX11_prime 32 = .ok (.iconst (-1), 1) := by decide +kernel
theorem dX11_prime_33 : decode cX11_prime 33 = .ok (.if_icmp .ne 14, 3) := by decide +kernel
theorem dX11_prime_36 : decode cX11_prime 36 = .ok (.aload_n 0, 1) := by decide +kernel
theorem dX11_prime_37 : decode cX11_prime 37 = .ok (.getfield 26, 3) := by decide +kernel
theorem dX11_prime_40 : decode cX11_prime 40 = .ok (.invokevirtual 120, 3) := by decide +kernel
theorem dX11_prime_43 : decode cX11_prime 43 = .ok (.i2l, 1) := by decide +kernel
theorem dX11_prime_44 : decode cX11_prime 44 = .ok (.goto 11, 3) := by decide +kernel
theorem dX11_prime_47 : decode cX11_prime 47 = .ok (.aload_n 0, 1) := by decide +kernel
theorem dX11_prime_48 : decode cX11_prime 48 = .ok (.getfield 26, 3) := by decide +kernel
theorem dX11_prime_51 : decode cX11_prime 51 = .ok (.iload_n 3, 1) := by decide +kernel
theorem dX11_prime_52 : decode cX11_prime 52 = .ok (.invokevirtual 123, 3) := by decide +kernel
theorem dX11_prime_55 : decode cX11_prime 55 = .ok (.lreturn, 1) := by decide +kernel
set_option maxRecDepth 20000 in
theorem ggX11_chain_X11_within : GoodIn wsX11_chain wsX11_within := goodIn_r _ [7] rfl (by decide +kernel)
set_option maxRecDepth 20000 in
theorem gX11_chain_X11_within : GoodIn wsX11_chain (va_wsS RX11 91 yX11_within wsX11_within) := goodIn_app (goodIn_sub (List.forall_mem_cons.mpr ⟨List.mem_of_getElem? (i := 4) rfl, List.forall_mem_cons.mpr ⟨List.mem_of_getElem? (i := 5) rfl, List.forall_mem_cons.mpr ⟨List.mem_of_getElem? (i := 6) rfl, fun _ h => absurd h List.not_mem_nil⟩⟩⟩) (by decide +kernel)) ggX11_chain_X11_within
set_option maxRecDepth 20000 in
theorem ggX11_chain_X11_isNumber : GoodIn wsX11_chain wsX11_isNumber := goodIn_r _ [10, 11] rfl (by decide +kernel)
set_option maxRecDepth 20000 in
theorem gX11_chain_X11_isNumber : GoodIn wsX11_chain (va_wsS RX11 95 yX11_isNumber wsX11_isNumber) := goodIn_app (goodIn_sub (List.forall_mem_cons.mpr ⟨List.mem_of_getElem? (i := 8) rfl, List.forall_mem_cons.mpr ⟨List.mem_of_getElem? (i := 9) rfl, List.forall_mem_cons.mpr ⟨List.mem_of_getElem? (i := 6) rfl, fun _ h => absurd h List.not_mem_nil⟩⟩⟩) (by decide +kernel)) ggX11_chain_X11_isNumber
set_option maxRecDepth 20000 in
theorem ggX11_chain_X3_prepare : GoodIn wsX11_chain wsX3_prepare := goodIn_r _ [16, 17, 18, 19, 20, 21, 22, 23, 24, 25, 26, 27, 28, 29, 30, 31, 32, 33, 34, 35, 36, 37, 15, 38, 109, 110, 111] rfl (by decide +kernel)
set_option maxRecDepth 20000 in
theorem gX11_chain_X3_prepare : GoodIn wsX11_chain (wsV RX11 101 RX3 yX3_prepare wsX3_prepare) := goodIn_app (goodIn_sub (List.forall_mem_cons.mpr ⟨List.mem_of_getElem? (i := 12) rfl, List.forall_mem_cons.mpr ⟨List.mem_of_getElem? (i := 13) rfl, List.forall_mem_cons.mpr ⟨List.mem_of_getElem? (i := 14) rfl, List.forall_mem_cons.mpr ⟨List.mem_of_getElem? (i := 15) rfl, fun _ h => absurd h List.not_mem_nil⟩⟩⟩⟩) (by decide +kernel)) ggX11_chain_X3_prepare
set_option maxRecDepth 20000 in
theorem ggX11_chain_X0_follow : GoodIn wsX11_chain wsX0_follow := goodIn_r _ [43, 44, 45, 46, 47, 48, 49, 50, 51, 52, 53, 54, 55, 56, 57, 58, 59, 60, 61, 62, 63, 64, 65, 66, 67, 68, 69, 70, 71, 72, 73, 74, 75, 76, 77, 78, 79, 80, 81, 42, 82, 83, 84, 85, 86, 87, 88, 89, 90, 91, 101, 102, 103, 104, 105, 106, 107, 108, 112, 113, 114, 115, 116, 117, 118, 119, 109, 110] rfl (by decide +kernel)
set_option maxRecDepth 20000 in
theorem gX11_chain_X0_follow : GoodIn wsX11_chain (wsV RX11 126 RX0 yX0_follow wsX0_follow) := goodIn_app (goodIn_sub (List.forall_mem_cons.mpr ⟨List.mem_of_getElem? (i := 39) rfl, List.forall_mem_cons.mpr ⟨List.mem_of_getElem? (i := 40) rfl, List.forall_mem_cons.mpr ⟨List.mem_of_getElem? (i := 41) rfl, List.forall_mem_cons.mpr ⟨List.mem_of_getElem? (i := 42) rfl, fun _ h => absurd h List.not_mem_nil⟩⟩⟩⟩) (by decide +kernel)) ggX11_chain_X0_follow
theorem dX11_chain_0 : decode cX11_chain 0 = .ok (.iload_n 1, 1) := by decide +kernel
theorem dX11_chain_1 : decode cX11_chain 1 = .ok (.iconst 1, 1) := by decide +kernel
theorem dX11_chain_2 : decode cX11_chain 2 = .ok (.iconst 3, 1) := by decide +kernel
theorem dX11_chain_3 : decode cX11_chain 3 = .ok (.invokestatic 91, 3) := by decide +kernel
theorem dX11_chain_6 : decode cX11_chain 6 = .ok (.ifCond .eq 20, 3) := by decide +kernel
theorem dX11_chain_9 : decode cX11_chain 9 = .ok (.lload_n 2, 1) := by decide +kernel
theorem dX11_chain_10 : decode cX11_chain 10 = .ok (.invokestatic 95, 3) := by decide +kernel
theorem dX11_chain_13 : decode cX11_chain 13 = .ok (.ifCond .eq 13, 3) := by decide +kernel
theorem dX11_chain_16 : decode cX11_chain 16 = .ok (.iload 4, 2) := by decide +kernel
theorem dX11_chain_18 : decode cX11_chain 18 = .ok (.iconst 0, 1) := by decide +kernel
theorem dX11_chain_19 : decode cX11_chain 19 = .ok (.iconst 3, 1) := by decide +kernel
theorem dX11_chain_20 : decode cX11_chain 20 = .ok (.invokestatic 91, 3) := by decide +kernel
theorem dX11_chain_23 : decode cX11_chain 23 = .ok (.ifCond .ne 7, 3) := by decide +kernel
theorem dX11_chain_26 : decode cX11_chain 26 = .ok (.ldc2_w 99, 3) := by decide +kernel
theorem dX11_chain_29 : decode cX11_chain 29 = .ok (.lreturn, 1) := by decide +kernel
theorem dX11_chain_30 : decode cX11_chain 30 = .ok (.aload_n 0, 1) := by decide +kernel
theorem dX11_chain_31 : decode cX11_chain 31 = .ok (.getfield 15, 3) := by decide +kernel
theorem dX11_chain_34 : decode cX11_chain 34 = .ok (.invokevirtual 101, 3) := by decide +kernel
theorem dX11_chain_37 : decode cX11_chain 37 = .ok (.aload_n 0, 1) := by decide +kernel
theorem dX11_chain_38 : decode cX11_chain 38 = .ok (.getfield 35, 3) := by decide +kernel
theorem dX11_chain_41 : decode cX11_chain 41 = .ok (.iload_n 1, 1) := by decide +kernel
theorem dX11_chain_42 : decode cX11_chain 42 = .ok (.lload_n 2, 1) := by decide +kernel
theorem dX11_chain_43 : decode cX11_chain 43 = .ok (.invokevirtual 126, 3) := by decide +kernel
theorem dX11_chain_46 : decode cX11_chain 46 = .ok (.iload 4, 2) := by decide +kernel
theorem dX11_chain_48 : decode cX11_chain 48 = .ok (.tableswitch 55 0 2 #[28, 37, 46], 28) := by decide +kernel
theorem dX11_chain_76 : decode cX11_chain 76 = .ok (.aload_n 0, 1) := by decide +kernel
theorem dX11_chain_77 : decode cX11_chain 77 = .ok (.getfield 35, 3) := by decide +kernel
theorem dX11_chain_80 : decode cX11_chain 80 = .ok (.getfield 130, 3) := by decide +kernel
theorem dX11_chain_83 : decode cX11_chain 83 = .ok (.i2l, 1) := by decide +kernel
theorem dX11_chain_84 : decode cX11_chain 84 = .ok (.lreturn, 1) := by decide +kernel
theorem dX11_chain_85 : decode cX11_chain 85 = .ok (.aload_n 0, 1) := by decide +kernel
theorem dX11_chain_86 : decode cX11_chain 86 = .ok (.getfield 35, 3) := by decide +kernel
theorem dX11_chain_89 : decode cX11_chain 89 = .ok (.getfield 134, 3) := by decide +kernel
theorem dX11_chain_92 : decode cX11_chain 92 = .ok (.i2l, 1) := by decide +kernel
theorem dX11_chain_93 : decode cX11_chain 93 = .ok (.lreturn, 1) := by decide +kernel
theorem dX11_chain_94 : decode cX11_chain 94 = .ok (.aload_n 0, 1) := by decide +kernel
theorem dX11_chain_95 : decode cX11_chain 95 = .ok (.getfield 35, 3) := by decide +kernel
theorem dX11_chain_98 : decode cX11_chain 98 = .ok (.getfield 137, 3) := by decide +kernel
theorem dX11_chain_101 : decode cX11_chain 101 = .ok (.i2l, 1) := by decide +kernel
theorem dX11_chain_102 : decode cX11_chain 102 = .ok (.lreturn, 1) := by decide +kernel
theorem dX11_chain_103 : decode cX11_chain 103 = .ok (.aload_n 0, 1) := by decide +kernel
theorem dX11_chain_104 : decode cX11_chain 104 = .ok (.getfield 35, 3) := by decide +kernel
theorem dX11_chain_107 : decode cX11_chain 107 = .ok (.getfield 140, 3) := by decide +kernel
theorem dX11_chain_110 : decode cX11_chain 110 = .ok (.lreturn, 1) := by decide +kernel
set_option maxRecDepth 20000 in
theorem ggX11_step_X11_within : GoodIn wsX11_step wsX11_within := goodIn_r _ [7] rfl (by decide +kernel)
set_option maxRecDepth 20000 in
theorem gX11_step_X11_within : GoodIn wsX11_step (va_wsS RX11 91 yX11_within wsX11_within) := goodIn_app (goodIn_sub (List.forall_mem_cons.mpr ⟨List.mem_of_getElem? (i := 4) rfl, List.forall_mem_cons.mpr ⟨List.mem_of_getElem? (i := 5) rfl, List.forall_mem_cons.mpr ⟨List.mem_of_getElem? (i := 6) rfl, fun _ h => absurd h List.not_mem_nil⟩⟩⟩) (by decide +kernel)) ggX11_step_X11_within
set_option maxRecDepth 20000 in
theorem ggX11_step_X11_isNumber : GoodIn wsX11_step wsX11_isNumber := goodIn_r _ [10, 11] rfl (by decide +kernel)
set_option maxRecDepth 20000 in
theorem gX11_step_X11_isNumber : GoodIn wsX11_step (va_wsS RX11 95 yX11_isNumber wsX11_isNumber) := goodIn_app (goodIn_sub (List.forall_mem_cons.mpr ⟨List.mem_of_getElem? (i := 8) rfl, List.forall_mem_cons.mpr ⟨List.mem_of_getElem? (i := 9) rfl, List.forall_mem_cons.mpr ⟨List.mem_of_getElem? (i := 6) rfl, fun _ h => absurd h List.not_mem_nil⟩⟩⟩) (by decide +kernel)) ggX11_step_X11_isNumber
set_option maxRecDepth 20000 in
theorem ggX11_step_X3_prepare : GoodIn wsX11_step wsX3_prepare := goodIn_r _ [16, 17, 18, 19, 20, 21, 22, 23, 24, 25, 26, 27, 28, 29, 30, 31, 32, 33, 34, 35, 36, 37, 15, 38, 106, 107, 108] rfl (by decide +kernel)
set_option maxRecDepth 20000 in
theorem gX11_step_X3_prepare : GoodIn wsX11_step (wsV RX11 101 RX3 yX3_prepare wsX3_prepare) := goodIn_app (goodIn_sub (List.forall_mem_cons.mpr ⟨List.mem_of_getElem? (i := 12) rfl, List.forall_mem_cons.mpr ⟨List.mem_of_getElem? (i := 13) rfl, List.forall_mem_cons.mpr ⟨List.mem_of_getElem? (i := 14) rfl, List.forall_mem_cons.mpr ⟨List.mem_of_getElem? (i := 15) rfl, fun _ h => absurd h List.not_mem_nil⟩⟩⟩⟩) (by decide +kernel)) ggX11_step_X3_prepare
set_option maxRecDepth 20000 in
theorem ggX11_step_X0_follow : GoodIn wsX11_step wsX0_follow := goodIn_r _ [43, 44, 45, 46, 47, 48, 49, 50, 51, 52, 53, 54, 55, 56, 57, 58, 59, 60, 61, 62, 63, 64, 65, 66, 67, 68, 69, 70, 71, 72, 73, 74, 75, 76, 77, 78, 79, 80, 81, 42, 82, 83, 84, 85, 86, 87, 88, 89, 90, 91, 109, 110, 111, 112, 113, 114, 115, 116, 117, 118, 119, 120, 121, 122, 123, 124, 106, 107] rfl (by decide +kernel)
set_option maxRecDepth 20000 in
theorem gX11_step_X0_follow : GoodIn wsX11_step (wsV RX11 126 RX0 yX0_follow wsX0_follow) := goodIn_app (goodIn_sub (List.forall_mem_cons.mpr ⟨List.mem_of_getElem? (i := 39) rfl, List.forall_mem_cons.mpr ⟨List.mem_of_getElem? (i := 40) rfl, List.forall_mem_cons.mpr ⟨List.mem_of_getElem? (i := 41) rfl, List.forall_mem_cons.mpr ⟨List.mem_of_getElem? (i := 42) rfl, fun _ h => absurd h List.not_mem_nil⟩⟩⟩⟩) (by decide +kernel)) ggX11_step_X0_follow
set_option maxRecDepth 20000 in
theorem ggX11_step_X0_numberAt : GoodIn wsX11_step wsX0_numberAt := goodIn_r _ [95, 50, 51, 48, 45, 46, 96, 109, 110, 111, 112, 113, 114, 115, 116] rfl (by decide +kernel)
set_option maxRecDepth 20000 in
theorem gX11_step_X0_numberAt : GoodIn wsX11_step (wsV RX11 144 RX0 yX0_numberAt wsX0_numberAt) := goodIn_app (goodIn_sub (List.forall_mem_cons.mpr ⟨List.mem_of_getElem? (i := 92) rfl, List.forall_mem_cons.mpr ⟨List.mem_of_getElem? (i := 93) rfl, List.forall_mem_cons.mpr ⟨List.mem_of_getElem? (i := 94) rfl, List.forall_mem_cons.mpr ⟨List.mem_of_getElem? (i := 42) rfl, fun _ h => absurd h List.not_mem_nil⟩⟩⟩⟩) (by decide +kernel)) ggX11_step_X0_numberAt
theorem dX11_step_0 : decode cX11_step 0 = .ok (.iload_n 1, 1) := by decide +kernel
theorem dX11_step_1 : decode cX11_step 1 = .ok (.iconst 1, 1) := by decide +kernel
theorem dX11_step_2 : decode cX11_step 2 = .ok (.iconst 3, 1) := by decide +kernel
theorem dX11_step_3 : decode cX11_step 3 = .ok (.invokestatic 91, 3) := by decide +kernel
theorem dX11_step_6 : decode cX11_step 6 = .ok (.ifCond .eq 15, 3) := by decide +kernel
theorem dX11_step_9 : decode cX11_step 9 = .ok (.lload_n 2, 1) := by decide +kernel
theorem dX11_step_10 : decode cX11_step 10 = .ok (.invokestatic 95, 3) := by decide +kernel
theorem dX11_step_13 : decode cX11_step 13 = .ok (.ifCond .eq 8, 3) := by decide +kernel
theorem dX11_step_16 : decode cX11_step 16 = .ok (.iload 4, 2) := by decide +kernel
theorem dX11_step_18 : decode cX11_step 18 = .ok (.ifCond .ge 7, 3) := by decide +kernel
theorem dX11_step_21 : decode cX11_step 21 = .ok (.ldc2_w 99, 3) := by decide +kernel
theorem dX11_step_24 : decode cX11_step 24 = .ok (.lreturn, 1) := by decide +kernel
theorem dX11_step_25 : decode cX11_step 25 = .ok (.aload_n 0, 1) := by decide +kernel
theorem dX11_step_26 : decode cX11_step 26 = .ok (.getfield 15, 3) := by decide +kernel
theorem dX11_step_29 : decode cX11_step 29 = .ok (.invokevirtual 101, 3) := by decide +kernel
theorem dX11_step_32 : decode cX11_step 32 = .ok (.aload_n 0, 1) := by decide +kernel
theorem dX11_step_33 : decode cX11_step 33 = .ok (.getfield 35, 3) := by decide +kernel
theorem dX11_step_36 : decode cX11_step 36 = .ok (.iload_n 1, 1) := by decide +kernel
theorem dX11_step_37 : decode cX11_step 37 = .ok (.lload_n 2, 1) := by decide +kernel
theorem dX11_step_38 : decode cX11_step 38 = .ok (.invokevirtual 126, 3) := by decide +kernel
theorem dX11_step_41 : decode cX11_step 41 = .ok (.aload_n 0, 1) := by decide +kernel
theorem dX11_step_42 : decode cX11_step 42 = .ok (.getfield 35, 3) := by decide +kernel
theorem dX11_step_45 : decode cX11_step 45 = .ok (.iload 4, 2) := by decide +kernel
theorem dX11_step_47 : decode cX11_step 47 = .ok (.invokevirtual 144, 3) := by decide +kernel
theorem dX11_step_50 : decode cX11_step 50 = .ok (.lreturn, 1) := by decide +kernel
set_option maxRecDepth 20000 in
theorem ggX11_rings_X11_within : GoodIn wsX11_rings wsX11_within := goodIn_r _ [6] rfl (by decide +kernel)
set_option maxRecDepth 20000 in
theorem gX11_rings_X11_within : GoodIn wsX11_rings (va_wsS RX11 91 yX11_within wsX11_within) := goodIn_app (goodIn_sub (List.forall_mem_cons.mpr ⟨List.mem_of_getElem? (i := 3) rfl, List.forall_mem_cons.mpr ⟨List.mem_of_getElem? (i := 4) rfl, List.forall_mem_cons.mpr ⟨List.mem_of_getElem? (i := 5) rfl, fun _ h => absurd h List.not_mem_nil⟩⟩⟩) (by decide +kernel)) ggX11_rings_X11_within
set_option maxRecDepth 20000 in
theorem ggX11_rings_X11_isBound : GoodIn wsX11_rings wsX11_isBound := goodIn_r _ [9, 10, 3, 4, 5, 6] rfl (by decide +kernel)
set_option maxRecDepth 20000 in
theorem gX11_rings_X11_isBound : GoodIn wsX11_rings (va_wsS RX11 147 yX11_isBound wsX11_isBound) := goodIn_app (goodIn_sub (List.forall_mem_cons.mpr ⟨List.mem_of_getElem? (i := 7) rfl, List.forall_mem_cons.mpr ⟨List.mem_of_getElem? (i := 8) rfl, List.forall_mem_cons.mpr ⟨List.mem_of_getElem? (i := 5) rfl, fun _ h => absurd h List.not_mem_nil⟩⟩⟩) (by decide +kernel)) ggX11_rings_X11_isBound
set_option maxRecDepth 20000 in
theorem ggX11_rings_X7_prepare : GoodIn wsX11_rings wsX7_prepare := goodIn_r _ [15, 16, 17, 18, 19, 20, 21, 22, 14, 23, 24, 25, 26, 27, 28, 29, 30, 31, 32, 33, 34, 35, 36, 37, 38, 39, 40, 41, 42, 43, 83, 84, 85, 86] rfl (by decide +kernel)
set_option maxRecDepth 20000 in
theorem gX11_rings_X7_prepare : GoodIn wsX11_rings (wsV RX11 151 RX7 yX7_prepare wsX7_prepare) := goodIn_app (goodIn_sub (List.forall_mem_cons.mpr ⟨List.mem_of_getElem? (i := 11) rfl, List.forall_mem_cons.mpr ⟨List.mem_of_getElem? (i := 12) rfl, List.forall_mem_cons.mpr ⟨List.mem_of_getElem? (i := 13) rfl, List.forall_mem_cons.mpr ⟨List.mem_of_getElem? (i := 14) rfl, fun _ h => absurd h List.not_mem_nil⟩⟩⟩⟩) (by decide +kernel)) ggX11_rings_X7_prepare
set_option maxRecDepth 20000 in
theorem ggX11_rings_X5_ringAt : GoodIn wsX11_rings wsX5_ringAt := goodIn_r _ [48, 49, 50, 51, 52, 53, 54, 55, 56, 57, 58, 59, 47, 60, 61, 62, 63, 64, 14, 65, 16, 19, 66, 67, 68, 69, 70, 71, 72, 73, 87, 88, 89, 90, 91, 83, 84, 85] rfl (by decide +kernel)
set_option maxRecDepth 20000 in
theorem gX11_rings_X5_ringAt : GoodIn wsX11_rings (wsV RX11 152 RX5 yX5_ringAt wsX5_ringAt) := goodIn_app (goodIn_sub (List.forall_mem_cons.mpr ⟨List.mem_of_getElem? (i := 44) rfl, List.forall_mem_cons.mpr ⟨List.mem_of_getElem? (i := 45) rfl, List.forall_mem_cons.mpr ⟨List.mem_of_getElem? (i := 46) rfl, List.forall_mem_cons.mpr ⟨List.mem_of_getElem? (i := 47) rfl, fun _ h => absurd h List.not_mem_nil⟩⟩⟩⟩) (by decide +kernel)) ggX11_rings_X5_ringAt
theorem dX11_rings_0 : decode cX11_rings 0 = .ok (.iload_n 1, 1) := by decide +kernel
theorem dX11_rings_1 : decode cX11_rings 1 = .ok (.iconst 1, 1) := by decide +kernel
theorem dX11_rings_2 : decode cX11_rings 2 = .ok (.iconst 3, 1) := by decide +kernel
theorem dX11_rings_3 : decode cX11_rings 3 = .ok (.invokestatic 91, 3) := by decide +kernel
theorem dX11_rings_6 : decode cX11_rings 6 = .ok (.ifCond .eq 26, 3) := by decide +kernel
theorem dX11_rings_9 : decode cX11_rings 9 = .ok (.iload_n 2, 1) := by decide +kernel
theorem dX11_rings_10 : decode cX11_rings 10 = .ok (.iconst 1, 1) := by decide +kernel
theorem dX11_rings_11 : decode cX11_rings 11 = .ok (.bipush 9, 2) := by decide +kernel
theorem dX11_rings_13 : decode cX11_rings 13 = .ok (.invokestatic 91, 3) := by decide +kernel
theorem dX11_rings_16 : decode cX11_rings 16 = .ok (.ifCond .eq 16, 3) := by decide +kernel
theorem dX11_rings_19 : decode cX11_rings 19 = .ok (.iload_n 3, 1) := by decide +kernel
theorem dX11_rings_20 : decode cX11_rings 20 = .ok (.invokestatic 147, 3) := by decide +kernel
theorem dX11_rings_23 : decode cX11_rings 23 = .ok (.ifCond .eq 9, 3) := by decide +kernel
theorem dX11_rings_26 : decode cX11_rings 26 = .ok (.iload 4, 2) := by decide +kernel
theorem dX11_rings_28 : decode cX11_rings 28 = .ok (.iconst (-1), 1) := by decide +kernel
theorem dX11_rings_29 : decode cX11_rings 29 = .ok (.if_icmp .ge 5, 3) := by decide +kernel
theorem dX11_rings_32 : decode cX11_rings 32 = .ok (.iconst (-1), 1) := by decide +kernel
theorem dX11_rings_33 : decode cX11_rings 33 = .ok (.ireturn, 1) := by decide +kernel
theorem dX11_rings_34 : decode cX11_rings 34 = .ok (.aload_n 0, 1) := by decide +kernel
theorem dX11_rings_35 : decode cX11_rings 35 = .ok (.getfield 42, 3) := by decide +kernel
theorem dX11_rings_38 : decode cX11_rings 38 = .ok (.invokevirtual 151, 3) := by decide +kernel
theorem dX11_rings_41 : decode cX11_rings 41 = .ok (.aload_n 0, 1) := by decide +kernel
theorem dX11_rings_42 : decode cX11_rings 42 = .ok (.getfield 51, 3) := by decide +kernel
theorem dX11_rings_45 : decode cX11_rings 45 = .ok (.iload_n 1, 1) := by decide +kernel
theorem dX11_rings_46 : decode cX11_rings 46 = .ok (.iload_n 2, 1) := by decide +kernel
theorem dX11_rings_47 : decode cX11_rings 47 = .ok (.iload_n 3, 1) := by decide +kernel
theorem dX11_rings_48 : decode cX11_rings 48 = .ok (.iload 4, 2) := by decide +kernel
theorem dX11_rings_50 : decode cX11_rings 50 = .ok (.invokevirtual 152, 3) := by decide +kernel
theorem dX11_rings_53 : decode cX11_rings 53 = .ok (.ireturn, 1) := by decide +kernel
set_option maxRecDepth 20000 in
theorem ggX11_having_X11_within : GoodIn wsX11_having wsX11_within := goodIn_r _ [7] rfl (by decide +kernel)
set_option maxRecDepth 20000 in
theorem gX11_having_X11_within : GoodIn wsX11_having (va_wsS RX11 91 yX11_within wsX11_within) := goodIn_app (goodIn_sub (List.forall_mem_cons.mpr ⟨List.mem_of_getElem? (i := 4) rfl, List.forall_mem_cons.mpr ⟨List.mem_of_getElem? (i := 5) rfl, List.forall_mem_cons.mpr ⟨List.mem_of_getElem? (i := 6) rfl, fun _ h => absurd h List.not_mem_nil⟩⟩⟩) (by decide +kernel)) ggX11_having_X11_within
set_option maxRecDepth 20000 in
theorem ggX11_having_X11_isBound : GoodIn wsX11_having wsX11_isBound := goodIn_r _ [10, 11, 4, 5, 6, 7] rfl (by decide +kernel)
set_option maxRecDepth 20000 in
theorem gX11_having_X11_isBound : GoodIn wsX11_having (va_wsS RX11 147 yX11_isBound wsX11_isBound) := goodIn_app (goodIn_sub (List.forall_mem_cons.mpr ⟨List.mem_of_getElem? (i := 8) rfl, List.forall_mem_cons.mpr ⟨List.mem_of_getElem? (i := 9) rfl, List.forall_mem_cons.mpr ⟨List.mem_of_getElem? (i := 6) rfl, fun _ h => absurd h List.not_mem_nil⟩⟩⟩) (by decide +kernel)) ggX11_having_X11_isBound
set_option maxRecDepth 20000 in
theorem ggX11_having_X7_prepare : GoodIn wsX11_having wsX7_prepare := goodIn_r _ [16, 17, 18, 19, 20, 21, 22, 23, 15, 24, 25, 26, 27, 28, 29, 30, 31, 32, 33, 34, 35, 36, 37, 38, 39, 40, 41, 42, 43, 44, 80, 81, 82, 83] rfl (by decide +kernel)
set_option maxRecDepth 20000 in
theorem gX11_having_X7_prepare : GoodIn wsX11_having (wsV RX11 151 RX7 yX7_prepare wsX7_prepare) := goodIn_app (goodIn_sub (List.forall_mem_cons.mpr ⟨List.mem_of_getElem? (i := 12) rfl, List.forall_mem_cons.mpr ⟨List.mem_of_getElem? (i := 13) rfl, List.forall_mem_cons.mpr ⟨List.mem_of_getElem? (i := 14) rfl, List.forall_mem_cons.mpr ⟨List.mem_of_getElem? (i := 15) rfl, fun _ h => absurd h List.not_mem_nil⟩⟩⟩⟩) (by decide +kernel)) ggX11_having_X7_prepare
set_option maxRecDepth 20000 in
theorem ggX11_having_X5_havingAt : GoodIn wsX11_having wsX5_havingAt := goodIn_r _ [49, 50, 51, 52, 53, 54, 55, 56, 57, 58, 59, 60, 61, 15, 62, 17, 20, 63, 64, 65, 66, 67, 68, 69, 70, 84, 85, 86, 87, 88, 80, 81, 82] rfl (by decide +kernel)
set_option maxRecDepth 20000 in
theorem gX11_having_X5_havingAt : GoodIn wsX11_having (wsV RX11 157 RX5 yX5_havingAt wsX5_havingAt) := goodIn_app (goodIn_sub (List.forall_mem_cons.mpr ⟨List.mem_of_getElem? (i := 45) rfl, List.forall_mem_cons.mpr ⟨List.mem_of_getElem? (i := 46) rfl, List.forall_mem_cons.mpr ⟨List.mem_of_getElem? (i := 47) rfl, List.forall_mem_cons.mpr ⟨List.mem_of_getElem? (i := 48) rfl, fun _ h => absurd h List.not_mem_nil⟩⟩⟩⟩) (by decide +kernel)) ggX11_having_X5_havingAt
theorem dX11_having_0 : decode cX11_having 0 = .ok (.iload_n 1, 1) := by decide +kernel
theorem dX11_having_1 : decode cX11_having 1 = .ok (.iconst 0, 1) := by decide +kernel
theorem dX11_having_2 : decode cX11_having 2 = .ok (.iconst 3, 1) := by decide +kernel
theorem dX11_having_3 : decode cX11_having 3 = .ok (.invokestatic 91, 3) := by decide +kernel
theorem dX11_having_6 : decode cX11_having 6 = .ok (.ifCond .eq 26, 3) := by decide +kernel
theorem dX11_having_9 : decode cX11_having 9 = .ok (.iload_n 2, 1) := by decide +kernel
theorem dX11_having_10 : decode cX11_having 10 = .ok (.iconst 0, 1) := by decide +kernel
theorem dX11_having_11 : decode cX11_having 11 = .ok (.ldc 156, 2) := by decide +kernel
theorem dX11_having_13 : decode cX11_having 13 = .ok (.invokestatic 91, 3) := by decide +kernel
theorem dX11_having_16 : decode cX11_having 16 = .ok (.ifCond .eq 16, 3) := by decide +kernel
theorem dX11_having_19 : decode cX11_having 19 = .ok (.iload_n 3, 1) := by decide +kernel
theorem dX11_having_20 : decode cX11_having 20 = .ok (.invokestatic 147, 3) := by decide +kernel
theorem dX11_having_23 : decode cX11_having 23 = .ok (.ifCond .eq 9, 3) := by decide +kernel
theorem dX11_having_26 : decode cX11_having 26 = .ok (.iload 4, 2) := by decide +kernel
theorem dX11_having_28 : decode cX11_having 28 = .ok (.iconst (-1), 1) := by decide +kernel
theorem dX11_having_29 : decode cX11_having 29 = .ok (.if_icmp .ge 5, 3) := by decide +kernel
theorem dX11_having_32 : decode cX11_having 32 = .ok (.iconst (-1), 1) := by decide +kernel
theorem dX11_having_33 : decode cX11_having 33 = .ok (.ireturn, 1) := by decide +kernel
theorem dX11_having_34 : decode cX11_having 34 = .ok (.aload_n 0, 1) := by decide +kernel
theorem dX11_having_35 : decode cX11_having 35 = .ok (.getfield 42, 3) := by decide +kernel
theorem dX11_having_38 : decode cX11_having 38 = .ok (.invokevirtual 151, 3) := by decide +kernel
theorem dX11_having_41 : decode cX11_having 41 = .ok (.aload_n 0, 1) := by decide +kernel
theorem dX11_having_42 : decode cX11_having 42 = .ok (.getfield 51, 3) := by decide +kernel
theorem dX11_having_45 : decode cX11_having 45 = .ok (.iload_n 1, 1) := by decide +kernel
theorem dX11_having_46 : decode cX11_having 46 = .ok (.iload_n 2, 1) := by decide +kernel
theorem dX11_having_47 : decode cX11_having 47 = .ok (.iload_n 3, 1) := by decide +kernel
theorem dX11_having_48 : decode cX11_having 48 = .ok (.iload 4, 2) := by decide +kernel
theorem dX11_having_50 : decode cX11_having 50 = .ok (.invokevirtual 157, 3) := by decide +kernel
theorem dX11_having_53 : decode cX11_having 53 = .ok (.ireturn, 1) := by decide +kernel
set_option maxRecDepth 20000 in
theorem ggX11_wholly_X11_within : GoodIn wsX11_wholly wsX11_within := goodIn_r _ [7] rfl (by decide +kernel)
set_option maxRecDepth 20000 in
theorem gX11_wholly_X11_within : GoodIn wsX11_wholly (va_wsS RX11 91 yX11_within wsX11_within) := goodIn_app (goodIn_sub (List.forall_mem_cons.mpr ⟨List.mem_of_getElem? (i := 4) rfl, List.forall_mem_cons.mpr ⟨List.mem_of_getElem? (i := 5) rfl, List.forall_mem_cons.mpr ⟨List.mem_of_getElem? (i := 6) rfl, fun _ h => absurd h List.not_mem_nil⟩⟩⟩) (by decide +kernel)) ggX11_wholly_X11_within
set_option maxRecDepth 20000 in
theorem ggX11_wholly_X3_prepare : GoodIn wsX11_wholly wsX3_prepare := goodIn_r _ [12, 13, 14, 15, 16, 17, 18, 19, 20, 21, 22, 23, 24, 25, 26, 27, 28, 29, 30, 31, 32, 33, 11, 34, 128, 129, 130] rfl (by decide +kernel)
set_option maxRecDepth 20000 in
theorem gX11_wholly_X3_prepare : GoodIn wsX11_wholly (wsV RX11 101 RX3 yX3_prepare wsX3_prepare) := goodIn_app (goodIn_sub (List.forall_mem_cons.mpr ⟨List.mem_of_getElem? (i := 8) rfl, List.forall_mem_cons.mpr ⟨List.mem_of_getElem? (i := 9) rfl, List.forall_mem_cons.mpr ⟨List.mem_of_getElem? (i := 10) rfl, List.forall_mem_cons.mpr ⟨List.mem_of_getElem? (i := 11) rfl, fun _ h => absurd h List.not_mem_nil⟩⟩⟩⟩) (by decide +kernel)) ggX11_wholly_X3_prepare
set_option maxRecDepth 20000 in
theorem ggX11_wholly_X9_seek : GoodIn wsX11_wholly wsX9_seek := goodIn_r _ [39, 40, 41, 42, 43, 44, 45, 46, 38, 47, 48, 49, 50, 51, 52, 53, 54, 55, 56, 57, 58, 59, 60, 61, 62, 63, 64, 65, 66, 67, 68, 69, 70, 71, 72, 73, 74, 75, 76, 77, 78, 79, 80, 81, 82, 83, 84, 6, 85, 86, 87, 88, 89, 90, 91, 92, 93, 94, 95, 96, 97, 98, 99, 100, 101, 102, 103, 104, 105, 106, 107, 108, 109, 110, 131, 132, 133, 134, 135, 136, 137, 138, 139, 140, 141, 142, 143, 144, 145, 146, 147, 128, 129] rfl (by decide +kernel)
set_option maxRecDepth 20000 in
theorem gX11_wholly_X9_seek : GoodIn wsX11_wholly (wsV RX11 161 RX9 yX9_seek wsX9_seek) := goodIn_app (goodIn_sub (List.forall_mem_cons.mpr ⟨List.mem_of_getElem? (i := 35) rfl, List.forall_mem_cons.mpr ⟨List.mem_of_getElem? (i := 36) rfl, List.forall_mem_cons.mpr ⟨List.mem_of_getElem? (i := 37) rfl, List.forall_mem_cons.mpr ⟨List.mem_of_getElem? (i := 38) rfl, fun _ h => absurd h List.not_mem_nil⟩⟩⟩⟩) (by decide +kernel)) ggX11_wholly_X9_seek
set_option maxRecDepth 20000 in
theorem ggX11_wholly_X9_howMany : GoodIn wsX11_wholly wsX9_howMany := goodIn_r _ [114, 42, 131, 132, 133, 134, 135, 136, 137, 138, 139] rfl (by decide +kernel)
set_option maxRecDepth 20000 in
theorem gX11_wholly_X9_howMany : GoodIn wsX11_wholly (wsV RX11 164 RX9 yX9_howMany wsX9_howMany) := goodIn_app (goodIn_sub (List.forall_mem_cons.mpr ⟨List.mem_of_getElem? (i := 111) rfl, List.forall_mem_cons.mpr ⟨List.mem_of_getElem? (i := 112) rfl, List.forall_mem_cons.mpr ⟨List.mem_of_getElem? (i := 113) rfl, List.forall_mem_cons.mpr ⟨List.mem_of_getElem? (i := 38) rfl, fun _ h => absurd h List.not_mem_nil⟩⟩⟩⟩) (by decide +kernel)) ggX11_wholly_X9_howMany
set_option maxRecDepth 20000 in
theorem ggX11_wholly_X9_numberAt : GoodIn wsX11_wholly wsX9_numberAt := goodIn_r _ [118, 42, 43, 131, 132, 133, 134, 135, 136, 137, 138, 139] rfl (by decide +kernel)
set_option maxRecDepth 20000 in
theorem gX11_wholly_X9_numberAt : GoodIn wsX11_wholly (wsV RX11 167 RX9 yX9_numberAt wsX9_numberAt) := goodIn_app (goodIn_sub (List.forall_mem_cons.mpr ⟨List.mem_of_getElem? (i := 115) rfl, List.forall_mem_cons.mpr ⟨List.mem_of_getElem? (i := 116) rfl, List.forall_mem_cons.mpr ⟨List.mem_of_getElem? (i := 117) rfl, List.forall_mem_cons.mpr ⟨List.mem_of_getElem? (i := 38) rfl, fun _ h => absurd h List.not_mem_nil⟩⟩⟩⟩) (by decide +kernel)) ggX11_wholly_X9_numberAt
theorem dX11_wholly_0 : decode cX11_wholly 0 = .ok (.iload_n 1, 1) := by decide +kernel
theorem dX11_wholly_1 : decode cX11_wholly 1 = .ok (.iconst 1, 1) := by decide +kernel
theorem dX11_wholly_2 : decode cX11_wholly 2 = .ok (.ldc 160, 2) := by decide +kernel
theorem dX11_wholly_4 : decode cX11_wholly 4 = .ok (.invokestatic 91, 3) := by decide +kernel
theorem dX11_wholly_7 : decode cX11_wholly 7 = .ok (.ifCond .eq 8, 3) := by decide +kernel
theorem dX11_wholly_10 : decode cX11_wholly 10 = .ok (.iload_n 2, 1) := by decide +kernel
theorem dX11_wholly_11 : decode cX11_wholly 11 = .ok (.iconst (-1), 1) := by decide +kernel
theorem dX11_wholly_12 : decode cX11_wholly 12 = .ok (.if_icmp .ge 5, 3) := by decide +kernel
theorem dX11_wholly_15 : decode cX11_wholly 15 = .ok (.iconst (-1), 1) := by decide +kernel
theorem dX11_wholly_16 : decode cX11_wholly 16 = .ok (.ireturn, 1) := by decide +kernel
theorem dX11_wholly_17 : decode cX11_wholly 17 = .ok (.aload_n 0, 1) := by decide +kernel
theorem dX11_wholly_18 : decode cX11_wholly 18 = .ok (.getfield 15, 3) := by decide +kernel
theorem dX11_wholly_21 : decode cX11_wholly 21 = .ok (.invokevirtual 101, 3) := by decide +kernel
theorem dX11_wholly_24 : decode cX11_wholly 24 = .ok (.aload_n 0, 1) := by decide +kernel
theorem dX11_wholly_25 : decode cX11_wholly 25 = .ok (.getfield 60, 3) := by decide +kernel
theorem dX11_wholly_28 : decode cX11_wholly 28 = .ok (.iload_n 1, 1) := by decide +kernel
theorem dX11_wholly_29 : decode cX11_wholly 29 = .ok (.i2l, 1) := by decide +kernel
theorem dX11_wholly_30 : decode cX11_wholly 30 = .ok (.invokevirtual 161, 3) := by decide +kernel
theorem dX11_wholly_33 : decode cX11_wholly 33 = .ok (.iload_n 2, 1) := by decide +kernel
theorem dX11_wholly_34 : decode cX11_wholly 34 = .ok (.iconst (-1), 1) := by decide +kernel
theorem dX11_wholly_35 : decode cX11_wholly 35 = .ok (.if_icmp .ne 13, 3) := by decide +kernel
theorem dX11_wholly_38 : decode cX11_wholly 38 = .ok (.aload_n 0, 1) := by decide +kernel
theorem dX11_wholly_39 : decode cX11_wholly 39 = .ok (.getfield 60, 3) := by decide +kernel
theorem dX11_wholly_42 : decode cX11_wholly 42 = .ok (.invokevirtual 164, 3) := by decide +kernel
theorem dX11_wholly_45 : decode cX11_wholly 45 = .ok (.goto 11, 3) := by decide +kernel
theorem dX11_wholly_48 : decode cX11_wholly 48 = .ok (.aload_n 0, 1) := by decide +kernel
theorem dX11_wholly_49 : decode cX11_wholly 49 = .ok (.getfield 60, 3) := by decide +kernel
theorem dX11_wholly_52 : decode cX11_wholly 52 = .ok (.iload_n 2, 1) := by decide +kernel
theorem dX11_wholly_53 : decode cX11_wholly 53 = .ok (.invokevirtual 167, 3) := by decide +kernel
theorem dX11_wholly_56 : decode cX11_wholly 56 = .ok (.ireturn, 1) := by decide +kernel
set_option maxRecDepth 20000 in
theorem ggX11_bare_X11_within : GoodIn wsX11_bare wsX11_within := goodIn_r _ [6] rfl (by decide +kernel)
set_option maxRecDepth 20000 in
theorem gX11_bare_X11_within : GoodIn wsX11_bare (va_wsS RX11 91 yX11_within wsX11_within) := goodIn_app (goodIn_sub (List.forall_mem_cons.mpr ⟨List.mem_of_getElem? (i := 3) rfl, List.forall_mem_cons.mpr ⟨List.mem_of_getElem? (i := 4) rfl, List.forall_mem_cons.mpr ⟨List.mem_of_getElem? (i := 5) rfl, fun _ h => absurd h List.not_mem_nil⟩⟩⟩) (by decide +kernel)) ggX11_bare_X11_within
set_option maxRecDepth 20000 in
theorem ggX11_bare_X7_prepare : GoodIn wsX11_bare wsX7_prepare := goodIn_r _ [11, 12, 13, 14, 15, 16, 17, 18, 10, 19, 20, 21, 22, 23, 24, 25, 26, 27, 28, 29, 30, 31, 32, 33, 34, 35, 36, 37, 38, 39, 75, 76, 77, 78] rfl (by decide +kernel)
set_option maxRecDepth 20000 in
theorem gX11_bare_X7_prepare : GoodIn wsX11_bare (wsV RX11 151 RX7 yX7_prepare wsX7_prepare) := goodIn_app (goodIn_sub (List.forall_mem_cons.mpr ⟨List.mem_of_getElem? (i := 7) rfl, List.forall_mem_cons.mpr ⟨List.mem_of_getElem? (i := 8) rfl, List.forall_mem_cons.mpr ⟨List.mem_of_getElem? (i := 9) rfl, List.forall_mem_cons.mpr ⟨List.mem_of_getElem? (i := 10) rfl, fun _ h => absurd h List.not_mem_nil⟩⟩⟩⟩) (by decide +kernel)) ggX11_bare_X7_prepare
set_option maxRecDepth 20000 in
theorem ggX11_bare_X5_havingAt : GoodIn wsX11_bare wsX5_havingAt := goodIn_r _ [44, 45, 46, 47, 48, 49, 50, 51, 52, 53, 54, 55, 56, 10, 57, 12, 15, 58, 59, 60, 61, 62, 63, 64, 65, 79, 80, 81, 82, 83, 75, 76, 77] rfl (by decide +kernel)
set_option maxRecDepth 20000 in
theorem gX11_bare_X5_havingAt : GoodIn wsX11_bare (wsV RX11 157 RX5 yX5_havingAt wsX5_havingAt) := goodIn_app (goodIn_sub (List.forall_mem_cons.mpr ⟨List.mem_of_getElem? (i := 40) rfl, List.forall_mem_cons.mpr ⟨List.mem_of_getElem? (i := 41) rfl, List.forall_mem_cons.mpr ⟨List.mem_of_getElem? (i := 42) rfl, List.forall_mem_cons.mpr ⟨List.mem_of_getElem? (i := 43) rfl, fun _ h => absurd h List.not_mem_nil⟩⟩⟩⟩) (by decide +kernel)) ggX11_bare_X5_havingAt
theorem dX11_bare_0 : decode cX11_bare 0 = .ok (.iload_n 1, 1) := by decide +kernel
theorem dX11_bare_1 : decode cX11_bare 1 = .ok (.iconst 2, 1) := by decide +kernel
theorem dX11_bare_2 : decode cX11_bare 2 = .ok (.sipush 200, 3) := by decide +kernel
theorem dX11_bare_5 : decode cX11_bare 5 = .ok (.invokestatic 91, 3) := by decide +kernel
theorem dX11_bare_8 : decode cX11_bare 8 = .ok (.ifCond .ne 5, 3) := by decide +kernel
theorem dX11_bare_11 : decode cX11_bare 11 = .ok (.iconst (-1), 1) := by decide +kernel
theorem dX11_bare_12 : decode cX11_bare 12 = .ok (.ireturn, 1) := by decide +kernel
theorem dX11_bare_13 : decode cX11_bare 13 = .ok (.iload_n 1, 1) := by decide +kernel
theorem dX11_bare_14 : decode cX11_bare 14 = .ok (.iconst 1, 1) := by decide +kernel
theorem dX11_bare_15 : decode cX11_bare 15 = .ok (.isub, 1) := by decide +kernel
theorem dX11_bare_16 : decode cX11_bare 16 = .ok (.iload_n 1, 1) := by decide +kernel
theorem dX11_bare_17 : decode cX11_bare 17 = .ok (.iconst 1, 1) := by decide +kernel
theorem dX11_bare_18 : decode cX11_bare 18 = .ok (.isub, 1) := by decide +kernel
theorem dX11_bare_19 : decode cX11_bare 19 = .ok (.imul, 1) := by decide +kernel
theorem dX11_bare_20 : decode cX11_bare 20 = .ok (.istore_n 2, 1) := by decide +kernel
theorem dX11_bare_21 : decode cX11_bare 21 = .ok (.aload_n 0, 1) := by decide +kernel
theorem dX11_bare_22 : decode cX11_bare 22 = .ok (.getfield 42, 3) := by decide +kernel
theorem dX11_bare_25 : decode cX11_bare 25 = .ok (.invokevirtual 151, 3) := by decide +kernel
theorem dX11_bare_28 : decode cX11_bare 28 = .ok (.aload_n 0, 1) := by decide +kernel
theorem dX11_bare_29 : decode cX11_bare 29 = .ok (.getfield 51, 3) := by decide +kernel
theorem dX11_bare_32 : decode cX11_bare 32 = .ok (.iconst 1, 1) := by decide +kernel
theorem dX11_bare_33 : decode cX11_bare 33 = .ok (.iload_n 1, 1) := by decide +kernel
theorem dX11_bare_34 : decode cX11_bare 34 = .ok (.iload_n 2, 1) := by decide +kernel
theorem dX11_bare_35 : decode cX11_bare 35 = .ok (.iconst 0, 1) := by decide +kernel
theorem dX11_bare_36 : decode cX11_bare 36 = .ok (.invokevirtual 157, 3) := by decide +kernel
theorem dX11_bare_39 : decode cX11_bare 39 = .ok (.bipush (-4), 2) := by decide +kernel
theorem dX11_bare_41 : decode cX11_bare 41 = .ok (.if_icmp .ne 7, 3) := by decide +kernel
theorem dX11_bare_44 : decode cX11_bare 44 = .ok (.iconst 1, 1) := by decide +kernel
theorem dX11_bare_45 : decode cX11_bare 45 = .ok (.goto 4, 3) := by decide +kernel
theorem dX11_bare_48 : decode cX11_bare 48 = .ok (.iconst 0, 1) := by decide +kernel
theorem dX11_bare_49 : decode cX11_bare 49 = .ok (.ireturn, 1) := by decide +kernel
set_option maxRecDepth 20000 in
theorem ggX11_share_X11_isNumber : GoodIn wsX11_share wsX11_isNumber := goodIn_r _ [7, 8] rfl (by decide +kernel)
set_option maxRecDepth 20000 in
theorem gX11_share_X11_isNumber : GoodIn wsX11_share (va_wsS RX11 95 yX11_isNumber wsX11_isNumber) := goodIn_app (goodIn_sub (List.forall_mem_cons.mpr ⟨List.mem_of_getElem? (i := 4) rfl, List.forall_mem_cons.mpr ⟨List.mem_of_getElem? (i := 5) rfl, List.forall_mem_cons.mpr ⟨List.mem_of_getElem? (i := 6) rfl, fun _ h => absurd h List.not_mem_nil⟩⟩⟩) (by decide +kernel)) ggX11_share_X11_isNumber
set_option maxRecDepth 20000 in
theorem ggX11_share_X11_within : GoodIn wsX11_share wsX11_within := goodIn_r _ [11] rfl (by decide +kernel)
set_option maxRecDepth 20000 in
theorem gX11_share_X11_within : GoodIn wsX11_share (va_wsS RX11 91 yX11_within wsX11_within) := goodIn_app (goodIn_sub (List.forall_mem_cons.mpr ⟨List.mem_of_getElem? (i := 9) rfl, List.forall_mem_cons.mpr ⟨List.mem_of_getElem? (i := 10) rfl, List.forall_mem_cons.mpr ⟨List.mem_of_getElem? (i := 6) rfl, fun _ h => absurd h List.not_mem_nil⟩⟩⟩) (by decide +kernel)) ggX11_share_X11_within
set_option maxRecDepth 20000 in
theorem ggX11_share_X3_prepare : GoodIn wsX11_share wsX3_prepare := goodIn_r _ [16, 17, 18, 19, 20, 21, 22, 23, 24, 25, 26, 27, 28, 29, 30, 31, 32, 33, 34, 35, 36, 37, 15, 38, 78, 79, 80] rfl (by decide +kernel)
set_option maxRecDepth 20000 in
theorem gX11_share_X3_prepare : GoodIn wsX11_share (wsV RX11 101 RX3 yX3_prepare wsX3_prepare) := goodIn_app (goodIn_sub (List.forall_mem_cons.mpr ⟨List.mem_of_getElem? (i := 12) rfl, List.forall_mem_cons.mpr ⟨List.mem_of_getElem? (i := 13) rfl, List.forall_mem_cons.mpr ⟨List.mem_of_getElem? (i := 14) rfl, List.forall_mem_cons.mpr ⟨List.mem_of_getElem? (i := 15) rfl, fun _ h => absurd h List.not_mem_nil⟩⟩⟩⟩) (by decide +kernel)) ggX11_share_X3_prepare
set_option maxRecDepth 20000 in
theorem ggX11_share_X6_summed : GoodIn wsX11_share wsX6_summed := goodIn_r _ [43, 44, 45, 46, 42, 47, 48, 49, 50, 51, 52, 53, 54, 55, 56, 57, 58, 59, 60, 61, 62, 63, 64, 65, 81, 82, 83, 84, 85, 86, 87, 88, 78, 79] rfl (by decide +kernel)
set_option maxRecDepth 20000 in
theorem gX11_share_X6_summed : GoodIn wsX11_share (wsV RX11 104 RX6 yX6_summed wsX6_summed) := goodIn_app (goodIn_sub (List.forall_mem_cons.mpr ⟨List.mem_of_getElem? (i := 39) rfl, List.forall_mem_cons.mpr ⟨List.mem_of_getElem? (i := 40) rfl, List.forall_mem_cons.mpr ⟨List.mem_of_getElem? (i := 41) rfl, List.forall_mem_cons.mpr ⟨List.mem_of_getElem? (i := 42) rfl, fun _ h => absurd h List.not_mem_nil⟩⟩⟩⟩) (by decide +kernel)) ggX11_share_X6_summed
set_option maxRecDepth 20000 in
theorem ggX11_share_X11_commonPart : GoodIn wsX11_share wsX11_commonPart := goodIn_r _ [68] rfl (by decide +kernel)
set_option maxRecDepth 20000 in
theorem gX11_share_X11_commonPart : GoodIn wsX11_share (va_wsS RX11 170 yX11_commonPart wsX11_commonPart) := goodIn_app (goodIn_sub (List.forall_mem_cons.mpr ⟨List.mem_of_getElem? (i := 66) rfl, List.forall_mem_cons.mpr ⟨List.mem_of_getElem? (i := 67) rfl, List.forall_mem_cons.mpr ⟨List.mem_of_getElem? (i := 6) rfl, fun _ h => absurd h List.not_mem_nil⟩⟩⟩) (by decide +kernel)) ggX11_share_X11_commonPart
theorem dX11_share_0 : decode cX11_share 0 = .ok (.lload_n 1, 1) := by decide +kernel
theorem dX11_share_1 : decode cX11_share 1 = .ok (.invokestatic 95, 3) := by decide +kernel
theorem dX11_share_4 : decode cX11_share 4 = .ok (.ifCond .eq 12, 3) := by decide +kernel
theorem dX11_share_7 : decode cX11_share 7 = .ok (.iload_n 3, 1) := by decide +kernel
theorem dX11_share_8 : decode cX11_share 8 = .ok (.iconst 0, 1) := by decide +kernel
theorem dX11_share_9 : decode cX11_share 9 = .ok (.iconst 1, 1) := by decide +kernel
theorem dX11_share_10 : decode cX11_share 10 = .ok (.invokestatic 91, 3) := by decide +kernel
theorem dX11_share_13 : decode cX11_share 13 = .ok (.ifCond .ne 7, 3) := by decide +kernel
theorem dX11_share_16 : decode cX11_share 16 = .ok (.ldc2_w 99, 3) := by decide +kernel
theorem dX11_share_19 : decode cX11_share 19 = .ok (.lreturn, 1) := by decide +kernel
theorem dX11_share_20 : decode cX11_share 20 = .ok (.aload_n 0, 1) := by decide +kernel
theorem dX11_share_21 : decode cX11_share 21 = .ok (.getfield 15, 3) := by decide +kernel
theorem dX11_share_24 : decode cX11_share 24 = .ok (.invokevirtual 101, 3) := by decide +kernel
theorem dX11_share_27 : decode cX11_share 27 = .ok (.aload_n 0, 1) := by decide +kernel
theorem dX11_share_28 : decode cX11_share 28 = .ok (.getfield 26, 3) := by decide +kernel
theorem dX11_share_31 : decode cX11_share 31 = .ok (.iconst 0, 1) := by decide +kernel
theorem dX11_share_32 : decode cX11_share 32 = .ok (.lload_n 1, 1) := by decide +kernel
theorem dX11_share_33 : decode cX11_share 33 = .ok (.invokevirtual 104, 3) := by decide +kernel
theorem dX11_share_36 : decode cX11_share 36 = .ok (.lstore 4, 2) := by decide +kernel
theorem dX11_share_38 : decode cX11_share 38 = .ok (.lload 4, 2) := by decide +kernel
theorem dX11_share_40 : decode cX11_share 40 = .ok (.lload_n 1, 1) := by decide +kernel
theorem dX11_share_41 : decode cX11_share 41 = .ok (.invokestatic 170, 3) := by decide +kernel
theorem dX11_share_44 : decode cX11_share 44 = .ok (.lstore 6, 2) := by decide +kernel
theorem dX11_share_46 : decode cX11_share 46 = .ok (.lload 6, 2) := by decide +kernel
theorem dX11_share_48 : decode cX11_share 48 = .ok (.lconst 1, 1) := by decide +kernel
theorem dX11_share_49 : decode cX11_share 49 = .ok (.lcmp, 1) := by decide +kernel
theorem dX11_share_50 : decode cX11_share 50 = .ok (.ifCond .ge 7, 3) := by decide +kernel
theorem dX11_share_53 : decode cX11_share 53 = .ok (.ldc2_w 99, 3) := by decide +kernel
theorem dX11_share_56 : decode cX11_share 56 = .ok (.lreturn, 1) := by decide +kernel
theorem dX11_share_57 : decode cX11_share 57 = .ok (.iload_n 3, 1) := by decide +kernel
theorem dX11_share_58 : decode cX11_share 58 = .ok (.ifCond .ne 11, 3) := by decide +kernel
theorem dX11_share_61 : decode cX11_share 61 = .ok (.lload 4, 2) := by decide +kernel
theorem dX11_share_63 : decode cX11_share 63 = .ok (.lload 6, 2) := by decide +kernel
theorem dX11_share_65 : decode cX11_share 65 = .ok (.ldiv, 1) := by decide +kernel
theorem dX11_share_66 : decode cX11_share 66 = .ok (.goto 7, 3) := by decide +kernel
theorem dX11_share_69 : decode cX11_share 69 = .ok (.lload_n 1, 1) := by decide +kernel
theorem dX11_share_70 : decode cX11_share 70 = .ok (.lload 6, 2) := by decide +kernel
theorem dX11_share_72 : decode cX11_share 72 = .ok (.ldiv, 1) := by decide +kernel
theorem dX11_share_73 : decode cX11_share 73 = .ok (.lreturn, 1) := by decide +kernel
set_option maxRecDepth 20000 in
theorem ggX11_friends_X11_isBound : GoodIn wsX11_friends wsX11_isBound := goodIn_r _ [6, 7, 8, 9, 5, 10] rfl (by decide +kernel)
set_option maxRecDepth 20000 in
theorem gX11_friends_X11_isBound : GoodIn wsX11_friends (va_wsS RX11 147 yX11_isBound wsX11_isBound) := goodIn_app (goodIn_sub (List.forall_mem_cons.mpr ⟨List.mem_of_getElem? (i := 3) rfl, List.forall_mem_cons.mpr ⟨List.mem_of_getElem? (i := 4) rfl, List.forall_mem_cons.mpr ⟨List.mem_of_getElem? (i := 5) rfl, fun _ h => absurd h List.not_mem_nil⟩⟩⟩) (by decide +kernel)) ggX11_friends_X11_isBound
set_option maxRecDepth 20000 in
theorem ggX11_friends_X7_prepare : GoodIn wsX11_friends wsX7_prepare := goodIn_r _ [15, 16, 17, 18, 19, 20, 21, 22, 14, 23, 24, 25, 26, 27, 28, 29, 30, 31, 32, 33, 34, 35, 36, 37, 38, 39, 40, 41, 42, 43, 79, 80, 81, 82] rfl (by decide +kernel)
set_option maxRecDepth 20000 in
theorem gX11_friends_X7_prepare : GoodIn wsX11_friends (wsV RX11 151 RX7 yX7_prepare wsX7_prepare) := goodIn_app (goodIn_sub (List.forall_mem_cons.mpr ⟨List.mem_of_getElem? (i := 11) rfl, List.forall_mem_cons.mpr ⟨List.mem_of_getElem? (i := 12) rfl, List.forall_mem_cons.mpr ⟨List.mem_of_getElem? (i := 13) rfl, List.forall_mem_cons.mpr ⟨List.mem_of_getElem? (i := 14) rfl, fun _ h => absurd h List.not_mem_nil⟩⟩⟩⟩) (by decide +kernel)) ggX11_friends_X7_prepare
set_option maxRecDepth 20000 in
theorem ggX11_friends_X5_friendAt : GoodIn wsX11_friends wsX5_friendAt := goodIn_r _ [48, 49, 50, 51, 52, 53, 14, 54, 16, 19, 55, 56, 57, 58, 59, 60, 61, 62, 63, 64, 65, 66, 67, 68, 69, 83, 84, 85, 79, 80, 81, 86, 87] rfl (by decide +kernel)
set_option maxRecDepth 20000 in
theorem gX11_friends_X5_friendAt : GoodIn wsX11_friends (wsV RX11 174 RX5 yX5_friendAt wsX5_friendAt) := goodIn_app (goodIn_sub (List.forall_mem_cons.mpr ⟨List.mem_of_getElem? (i := 44) rfl, List.forall_mem_cons.mpr ⟨List.mem_of_getElem? (i := 45) rfl, List.forall_mem_cons.mpr ⟨List.mem_of_getElem? (i := 46) rfl, List.forall_mem_cons.mpr ⟨List.mem_of_getElem? (i := 47) rfl, fun _ h => absurd h List.not_mem_nil⟩⟩⟩⟩) (by decide +kernel)) ggX11_friends_X5_friendAt
theorem dX11_friends_0 : decode cX11_friends 0 = .ok (.iload_n 1, 1) := by decide +kernel
theorem dX11_friends_1 : decode cX11_friends 1 = .ok (.invokestatic 147, 3) := by decide +kernel
theorem dX11_friends_4 : decode cX11_friends 4 = .ok (.ifCond .eq 15, 3) := by decide +kernel
theorem dX11_friends_7 : decode cX11_friends 7 = .ok (.iload_n 2, 1) := by decide +kernel
theorem dX11_friends_8 : decode cX11_friends 8 = .ok (.invokestatic 147, 3) := by decide +kernel
theorem dX11_friends_11 : decode cX11_friends 11 = .ok (.ifCond .eq 8, 3) := by decide +kernel
theorem dX11_friends_14 : decode cX11_friends 14 = .ok (.iload_n 3, 1) := by decide +kernel
theorem dX11_friends_15 : decode cX11_friends 15 = .ok (.iconst (-1), 1) := by decide +kernel
theorem dX11_friends_16 : decode cX11_friends 16 = .ok (.if_icmp .ge 5, 3) := by decide +kernel
theorem dX11_friends_19 : decode cX11_friends 19 = .ok (.iconst (-1), 1) := by decide +kernel
theorem dX11_friends_20 : decode cX11_friends 20 = .ok (.ireturn, 1) := by decide +kernel
theorem dX11_friends_21 : decode cX11_friends 21 = .ok (.aload_n 0, 1) := by decide +kernel
theorem dX11_friends_22 : decode cX11_friends 22 = .ok (.getfield 42, 3) := by decide +kernel
theorem dX11_friends_25 : decode cX11_friends 25 = .ok (.invokevirtual 151, 3) := by decide +kernel
theorem dX11_friends_28 : decode cX11_friends 28 = .ok (.aload_n 0, 1) := by decide +kernel
theorem dX11_friends_29 : decode cX11_friends 29 = .ok (.getfield 51, 3) := by decide +kernel
theorem dX11_friends_32 : decode cX11_friends 32 = .ok (.iload_n 1, 1) := by decide +kernel
theorem dX11_friends_33 : decode cX11_friends 33 = .ok (.iload_n 2, 1) := by decide +kernel
theorem dX11_friends_34 : decode cX11_friends 34 = .ok (.iload_n 3, 1) := by decide +kernel
theorem dX11_friends_35 : decode cX11_friends 35 = .ok (.invokevirtual 174, 3) := by decide +kernel
theorem dX11_friends_38 : decode cX11_friends 38 = .ok (.ireturn, 1) := by decide +kernel
set_option maxRecDepth 20000 in
theorem ggX11_reached_X11_within : GoodIn wsX11_reached wsX11_within := goodIn_r _ [6] rfl (by decide +kernel)
set_option maxRecDepth 20000 in
theorem gX11_reached_X11_within : GoodIn wsX11_reached (va_wsS RX11 91 yX11_within wsX11_within) := goodIn_app (goodIn_sub (List.forall_mem_cons.mpr ⟨List.mem_of_getElem? (i := 3) rfl, List.forall_mem_cons.mpr ⟨List.mem_of_getElem? (i := 4) rfl, List.forall_mem_cons.mpr ⟨List.mem_of_getElem? (i := 5) rfl, fun _ h => absurd h List.not_mem_nil⟩⟩⟩) (by decide +kernel)) ggX11_reached_X11_within
set_option maxRecDepth 20000 in
theorem ggX11_reached_X11_isBound : GoodIn wsX11_reached wsX11_isBound := goodIn_r _ [9, 10, 3, 4, 5, 6] rfl (by decide +kernel)
set_option maxRecDepth 20000 in
theorem gX11_reached_X11_isBound : GoodIn wsX11_reached (va_wsS RX11 147 yX11_isBound wsX11_isBound) := goodIn_app (goodIn_sub (List.forall_mem_cons.mpr ⟨List.mem_of_getElem? (i := 7) rfl, List.forall_mem_cons.mpr ⟨List.mem_of_getElem? (i := 8) rfl, List.forall_mem_cons.mpr ⟨List.mem_of_getElem? (i := 5) rfl, fun _ h => absurd h List.not_mem_nil⟩⟩⟩) (by decide +kernel)) ggX11_reached_X11_isBound
set_option maxRecDepth 20000 in
theorem ggX11_reached_X7_prepare : GoodIn wsX11_reached wsX7_prepare := goodIn_r _ [15, 16, 17, 18, 19, 20, 21, 22, 14, 23, 24, 25, 26, 27, 28, 29, 30, 31, 32, 33, 34, 35, 36, 37, 38, 39, 40, 41, 42, 43, 63, 64, 65, 66] rfl (by decide +kernel)
set_option maxRecDepth 20000 in
theorem gX11_reached_X7_prepare : GoodIn wsX11_reached (wsV RX11 151 RX7 yX7_prepare wsX7_prepare) := goodIn_app (goodIn_sub (List.forall_mem_cons.mpr ⟨List.mem_of_getElem? (i := 11) rfl, List.forall_mem_cons.mpr ⟨List.mem_of_getElem? (i := 12) rfl, List.forall_mem_cons.mpr ⟨List.mem_of_getElem? (i := 13) rfl, List.forall_mem_cons.mpr ⟨List.mem_of_getElem? (i := 14) rfl, fun _ h => absurd h List.not_mem_nil⟩⟩⟩⟩) (by decide +kernel)) ggX11_reached_X7_prepare
set_option maxRecDepth 20000 in
theorem ggX11_reached_X5_firstReaching : GoodIn wsX11_reached wsX5_firstReaching := goodIn_r _ [48, 49, 50, 51, 52, 14, 53, 16, 19, 67, 68, 69, 63, 64, 65] rfl (by decide +kernel)
set_option maxRecDepth 20000 in
theorem gX11_reached_X5_firstReaching : GoodIn wsX11_reached (wsV RX11 178 RX5 yX5_firstReaching wsX5_firstReaching) := goodIn_app (goodIn_sub (List.forall_mem_cons.mpr ⟨List.mem_of_getElem? (i := 44) rfl, List.forall_mem_cons.mpr ⟨List.mem_of_getElem? (i := 45) rfl, List.forall_mem_cons.mpr ⟨List.mem_of_getElem? (i := 46) rfl, List.forall_mem_cons.mpr ⟨List.mem_of_getElem? (i := 47) rfl, fun _ h => absurd h List.not_mem_nil⟩⟩⟩⟩) (by decide +kernel)) ggX11_reached_X5_firstReaching
theorem dX11_reached_0 : decode cX11_reached 0 = .ok (.iload_n 1, 1) := by decide +kernel
theorem dX11_reached_1 : decode cX11_reached 1 = .ok (.iconst 1, 1) := by decide +kernel
theorem dX11_reached_2 : decode cX11_reached 2 = .ok (.sipush 1000, 3) := by decide +kernel
theorem dX11_reached_5 : decode cX11_reached 5 = .ok (.invokestatic 91, 3) := by decide +kernel
theorem dX11_reached_8 : decode cX11_reached 8 = .ok (.ifCond .eq 21, 3) := by decide +kernel
theorem dX11_reached_11 : decode cX11_reached 11 = .ok (.iload_n 2, 1) := by decide +kernel
theorem dX11_reached_12 : decode cX11_reached 12 = .ok (.iconst 1, 1) := by decide +kernel
theorem dX11_reached_13 : decode cX11_reached 13 = .ok (.sipush 1000, 3) := by decide +kernel
theorem dX11_reached_16 : decode cX11_reached 16 = .ok (.invokestatic 91, 3) := by decide +kernel
theorem dX11_reached_19 : decode cX11_reached 19 = .ok (.ifCond .eq 10, 3) := by decide +kernel
theorem dX11_reached_22 : decode cX11_reached 22 = .ok (.iload_n 3, 1) := by decide +kernel
theorem dX11_reached_23 : decode cX11_reached 23 = .ok (.invokestatic 147, 3) := by decide +kernel
theorem dX11_reached_26 : decode cX11_reached 26 = .ok (.ifCond .ne 5, 3) := by decide +kernel
theorem dX11_reached_29 : decode cX11_reached 29 = .ok (.iconst (-1), 1) := by decide +kernel
theorem dX11_reached_30 : decode cX11_reached 30 = .ok (.ireturn, 1) := by decide +kernel
theorem dX11_reached_31 : decode cX11_reached 31 = .ok (.aload_n 0, 1) := by decide +kernel
theorem dX11_reached_32 : decode cX11_reached 32 = .ok (.getfield 42, 3) := by decide +kernel
theorem dX11_reached_35 : decode cX11_reached 35 = .ok (.invokevirtual 151, 3) := by decide +kernel
theorem dX11_reached_38 : decode cX11_reached 38 = .ok (.aload_n 0, 1) := by decide +kernel
theorem dX11_reached_39 : decode cX11_reached 39 = .ok (.getfield 51, 3) := by decide +kernel
theorem dX11_reached_42 : decode cX11_reached 42 = .ok (.iload_n 1, 1) := by decide +kernel
theorem dX11_reached_43 : decode cX11_reached 43 = .ok (.iload_n 2, 1) := by decide +kernel
theorem dX11_reached_44 : decode cX11_reached 44 = .ok (.iload_n 3, 1) := by decide +kernel
theorem dX11_reached_45 : decode cX11_reached 45 = .ok (.invokevirtual 178, 3) := by decide +kernel
theorem dX11_reached_48 : decode cX11_reached 48 = .ok (.ireturn, 1) := by decide +kernel
set_option maxRecDepth 20000 in
theorem ggX11_records_X11_within : GoodIn wsX11_records wsX11_within := goodIn_r _ [6] rfl (by decide +kernel)
set_option maxRecDepth 20000 in
theorem gX11_records_X11_within : GoodIn wsX11_records (va_wsS RX11 91 yX11_within wsX11_within) := goodIn_app (goodIn_sub (List.forall_mem_cons.mpr ⟨List.mem_of_getElem? (i := 3) rfl, List.forall_mem_cons.mpr ⟨List.mem_of_getElem? (i := 4) rfl, List.forall_mem_cons.mpr ⟨List.mem_of_getElem? (i := 5) rfl, fun _ h => absurd h List.not_mem_nil⟩⟩⟩) (by decide +kernel)) ggX11_records_X11_within
set_option maxRecDepth 20000 in
theorem ggX11_records_X11_isBound : GoodIn wsX11_records wsX11_isBound := goodIn_r _ [9, 10, 3, 4, 5, 6] rfl (by decide +kernel)
set_option maxRecDepth 20000 in
theorem gX11_records_X11_isBound : GoodIn wsX11_records (va_wsS RX11 147 yX11_isBound wsX11_isBound) := goodIn_app (goodIn_sub (List.forall_mem_cons.mpr ⟨List.mem_of_getElem? (i := 7) rfl, List.forall_mem_cons.mpr ⟨List.mem_of_getElem? (i := 8) rfl, List.forall_mem_cons.mpr ⟨List.mem_of_getElem? (i := 5) rfl, fun _ h => absurd h List.not_mem_nil⟩⟩⟩) (by decide +kernel)) ggX11_records_X11_isBound
set_option maxRecDepth 20000 in
theorem ggX11_records_X7_prepare : GoodIn wsX11_records wsX7_prepare := goodIn_r _ [15, 16, 17, 18, 19, 20, 21, 22, 14, 23, 24, 25, 26, 27, 28, 29, 30, 31, 32, 33, 34, 35, 36, 37, 38, 39, 40, 41, 42, 43, 79, 80, 81, 82] rfl (by decide +kernel)
set_option maxRecDepth 20000 in
theorem gX11_records_X7_prepare : GoodIn wsX11_records (wsV RX11 151 RX7 yX7_prepare wsX7_prepare) := goodIn_app (goodIn_sub (List.forall_mem_cons.mpr ⟨List.mem_of_getElem? (i := 11) rfl, List.forall_mem_cons.mpr ⟨List.mem_of_getElem? (i := 12) rfl, List.forall_mem_cons.mpr ⟨List.mem_of_getElem? (i := 13) rfl, List.forall_mem_cons.mpr ⟨List.mem_of_getElem? (i := 14) rfl, fun _ h => absurd h List.not_mem_nil⟩⟩⟩⟩) (by decide +kernel)) ggX11_records_X7_prepare
set_option maxRecDepth 20000 in
theorem ggX11_records_X5_recordAt : GoodIn wsX11_records wsX5_recordAt := goodIn_r _ [48, 49, 50, 51, 52, 53, 54, 55, 56, 57, 58, 59, 60, 14, 61, 16, 19, 62, 63, 64, 65, 66, 67, 68, 69, 83, 84, 85, 86, 87, 79, 80, 81] rfl (by decide +kernel)
set_option maxRecDepth 20000 in
theorem gX11_records_X5_recordAt : GoodIn wsX11_records (wsV RX11 181 RX5 yX5_recordAt wsX5_recordAt) := goodIn_app (goodIn_sub (List.forall_mem_cons.mpr ⟨List.mem_of_getElem? (i := 44) rfl, List.forall_mem_cons.mpr ⟨List.mem_of_getElem? (i := 45) rfl, List.forall_mem_cons.mpr ⟨List.mem_of_getElem? (i := 46) rfl, List.forall_mem_cons.mpr ⟨List.mem_of_getElem? (i := 47) rfl, fun _ h => absurd h List.not_mem_nil⟩⟩⟩⟩) (by decide +kernel)) ggX11_records_X5_recordAt
theorem dX11_records_0 : decode cX11_records 0 = .ok (.iload_n 1, 1) := by decide +kernel
theorem dX11_records_1 : decode cX11_records 1 = .ok (.iconst 0, 1) := by decide +kernel
theorem dX11_records_2 : decode cX11_records 2 = .ok (.iconst 1, 1) := by decide +kernel
theorem dX11_records_3 : decode cX11_records 3 = .ok (.invokestatic 91, 3) := by decide +kernel
theorem dX11_records_6 : decode cX11_records 6 = .ok (.ifCond .eq 15, 3) := by decide +kernel
theorem dX11_records_9 : decode cX11_records 9 = .ok (.iload_n 2, 1) := by decide +kernel
theorem dX11_records_10 : decode cX11_records 10 = .ok (.invokestatic 147, 3) := by decide +kernel
theorem dX11_records_13 : decode cX11_records 13 = .ok (.ifCond .eq 8, 3) := by decide +kernel
theorem dX11_records_16 : decode cX11_records 16 = .ok (.iload_n 3, 1) := by decide +kernel
theorem dX11_records_17 : decode cX11_records 17 = .ok (.iconst (-1), 1) := by decide +kernel
theorem dX11_records_18 : decode cX11_records 18 = .ok (.if_icmp .ge 5, 3) := by decide +kernel
theorem dX11_records_21 : decode cX11_records 21 = .ok (.iconst (-1), 1) := by decide +kernel
theorem dX11_records_22 : decode cX11_records 22 = .ok (.ireturn, 1) := by decide +kernel
theorem dX11_records_23 : decode cX11_records 23 = .ok (.aload_n 0, 1) := by decide +kernel
theorem dX11_records_24 : decode cX11_records 24 = .ok (.getfield 42, 3) := by decide +kernel
theorem dX11_records_27 : decode cX11_records 27 = .ok (.invokevirtual 151, 3) := by decide +kernel
theorem dX11_records_30 : decode cX11_records 30 = .ok (.aload_n 0, 1) := by decide +kernel
theorem dX11_records_31 : decode cX11_records 31 = .ok (.getfield 51, 3) := by decide +kernel
theorem dX11_records_34 : decode cX11_records 34 = .ok (.iload_n 1, 1) := by decide +kernel
theorem dX11_records_35 : decode cX11_records 35 = .ok (.iload_n 2, 1) := by decide +kernel
theorem dX11_records_36 : decode cX11_records 36 = .ok (.iload_n 3, 1) := by decide +kernel
theorem dX11_records_37 : decode cX11_records 37 = .ok (.invokevirtual 181, 3) := by decide +kernel
theorem dX11_records_40 : decode cX11_records 40 = .ok (.ireturn, 1) := by decide +kernel
set_option maxRecDepth 20000 in
theorem ggX11_sort_X11_isBound : GoodIn wsX11_sort wsX11_isBound := goodIn_r _ [6, 7, 8, 9, 5, 10] rfl (by decide +kernel)
set_option maxRecDepth 20000 in
theorem gX11_sort_X11_isBound : GoodIn wsX11_sort (va_wsS RX11 147 yX11_isBound wsX11_isBound) := goodIn_app (goodIn_sub (List.forall_mem_cons.mpr ⟨List.mem_of_getElem? (i := 3) rfl, List.forall_mem_cons.mpr ⟨List.mem_of_getElem? (i := 4) rfl, List.forall_mem_cons.mpr ⟨List.mem_of_getElem? (i := 5) rfl, fun _ h => absurd h List.not_mem_nil⟩⟩⟩) (by decide +kernel)) ggX11_sort_X11_isBound
set_option maxRecDepth 20000 in
theorem ggX11_sort_X3_prepare : GoodIn wsX11_sort wsX3_prepare := goodIn_r _ [15, 16, 17, 18, 19, 20, 21, 22, 23, 24, 25, 26, 27, 28, 29, 30, 31, 32, 33, 34, 35, 36, 14, 37, 93, 94, 95] rfl (by decide +kernel)
set_option maxRecDepth 20000 in
theorem gX11_sort_X3_prepare : GoodIn wsX11_sort (wsV RX11 101 RX3 yX3_prepare wsX3_prepare) := goodIn_app (goodIn_sub (List.forall_mem_cons.mpr ⟨List.mem_of_getElem? (i := 11) rfl, List.forall_mem_cons.mpr ⟨List.mem_of_getElem? (i := 12) rfl, List.forall_mem_cons.mpr ⟨List.mem_of_getElem? (i := 13) rfl, List.forall_mem_cons.mpr ⟨List.mem_of_getElem? (i := 14) rfl, fun _ h => absurd h List.not_mem_nil⟩⟩⟩⟩) (by decide +kernel)) ggX11_sort_X3_prepare
set_option maxRecDepth 20000 in
theorem ggX11_sort_X7_prepare : GoodIn wsX11_sort wsX7_prepare := goodIn_r _ [42, 43, 44, 17, 45, 46, 47, 48, 41, 49, 50, 51, 21, 22, 23, 24, 25, 26, 27, 28, 29, 30, 31, 32, 33, 34, 52, 53, 54, 55, 96, 97, 98, 95] rfl (by decide +kernel)
set_option maxRecDepth 20000 in
theorem gX11_sort_X7_prepare : GoodIn wsX11_sort (wsV RX11 151 RX7 yX7_prepare wsX7_prepare) := goodIn_app (goodIn_sub (List.forall_mem_cons.mpr ⟨List.mem_of_getElem? (i := 38) rfl, List.forall_mem_cons.mpr ⟨List.mem_of_getElem? (i := 39) rfl, List.forall_mem_cons.mpr ⟨List.mem_of_getElem? (i := 40) rfl, List.forall_mem_cons.mpr ⟨List.mem_of_getElem? (i := 41) rfl, fun _ h => absurd h List.not_mem_nil⟩⟩⟩⟩) (by decide +kernel)) ggX11_sort_X7_prepare
set_option maxRecDepth 20000 in
theorem ggX11_sort_X7_summed : GoodIn wsX11_sort wsX7_summed := goodIn_r _ [59, 43, 45, 96, 97, 98] rfl (by decide +kernel)
set_option maxRecDepth 20000 in
theorem gX11_sort_X7_summed : GoodIn wsX11_sort (wsV RX11 184 RX7 yX7_summed wsX7_summed) := goodIn_app (goodIn_sub (List.forall_mem_cons.mpr ⟨List.mem_of_getElem? (i := 56) rfl, List.forall_mem_cons.mpr ⟨List.mem_of_getElem? (i := 57) rfl, List.forall_mem_cons.mpr ⟨List.mem_of_getElem? (i := 58) rfl, List.forall_mem_cons.mpr ⟨List.mem_of_getElem? (i := 41) rfl, fun _ h => absurd h List.not_mem_nil⟩⟩⟩⟩) (by decide +kernel)) ggX11_sort_X7_summed
set_option maxRecDepth 20000 in
theorem ggX11_sort_X11_hasRichPart : GoodIn wsX11_sort wsX11_hasRichPart := goodIn_r _ [63, 64, 2, 65, 66, 67, 68, 69, 70, 71, 72, 73, 74, 75, 76, 77, 78, 79, 80, 81, 82, 83, 56, 57, 58, 41, 59, 43, 45, 84, 85, 86, 87, 88, 89, 90, 91, 92, 99, 100, 101, 102, 103, 104, 105, 106, 93, 94, 96, 97, 98] rfl (by decide +kernel)
set_option maxRecDepth 20000 in
theorem gX11_sort_X11_hasRichPart : GoodIn wsX11_sort (wsV RX11 187 RX11 yX11_hasRichPart wsX11_hasRichPart) := goodIn_app (goodIn_sub (List.forall_mem_cons.mpr ⟨List.mem_of_getElem? (i := 60) rfl, List.forall_mem_cons.mpr ⟨List.mem_of_getElem? (i := 61) rfl, List.forall_mem_cons.mpr ⟨List.mem_of_getElem? (i := 62) rfl, List.forall_mem_cons.mpr ⟨List.mem_of_getElem? (i := 5) rfl, fun _ h => absurd h List.not_mem_nil⟩⟩⟩⟩) (by decide +kernel)) ggX11_sort_X11_hasRichPart
theorem dX11_sort_0 : decode cX11_sort 0 = .ok (.iload_n 1, 1) := by decide +kernel
theorem dX11_sort_1 : decode cX11_sort 1 = .ok (.invokestatic 147, 3) := by decide +kernel
theorem dX11_sort_4 : decode cX11_sort 4 = .ok (.ifCond .ne 5, 3) := by decide +kernel
theorem dX11_sort_7 : decode cX11_sort 7 = .ok (.iconst (-1), 1) := by decide +kernel
theorem dX11_sort_8 : decode cX11_sort 8 = .ok (.ireturn, 1) := by decide +kernel
theorem dX11_sort_9 : decode cX11_sort 9 = .ok (.aload_n 0, 1) := by decide +kernel
theorem dX11_sort_10 : decode cX11_sort 10 = .ok (.getfield 15, 3) := by decide +kernel
theorem dX11_sort_13 : decode cX11_sort 13 = .ok (.invokevirtual 101, 3) := by decide +kernel
theorem dX11_sort_16 : decode cX11_sort 16 = .ok (.aload_n 0, 1) := by decide +kernel
theorem dX11_sort_17 : decode cX11_sort 17 = .ok (.getfield 42, 3) := by decide +kernel
theorem dX11_sort_20 : decode cX11_sort 20 = .ok (.invokevirtual 151, 3) := by decide +kernel
theorem dX11_sort_23 : decode cX11_sort 23 = .ok (.aload_n 0, 1) := by decide +kernel
theorem dX11_sort_24 : decode cX11_sort 24 = .ok (.getfield 42, 3) := by decide +kernel
theorem dX11_sort_27 : decode cX11_sort 27 = .ok (.iconst 1, 1) := by decide +kernel
theorem dX11_sort_28 : decode cX11_sort 28 = .ok (.iload_n 1, 1) := by decide +kernel
theorem dX11_sort_29 : decode cX11_sort 29 = .ok (.invokevirtual 184, 3) := by decide +kernel
theorem dX11_sort_32 : decode cX11_sort 32 = .ok (.istore_n 2, 1) := by decide +kernel
theorem dX11_sort_33 : decode cX11_sort 33 = .ok (.iload_n 2, 1) := by decide +kernel
theorem dX11_sort_34 : decode cX11_sort 34 = .ok (.iload_n 1, 1) := by decide +kernel
theorem dX11_sort_35 : decode cX11_sort 35 = .ok (.if_icmp .gt 14, 3) := by decide +kernel
theorem dX11_sort_38 : decode cX11_sort 38 = .ok (.iload_n 2, 1) := by decide +kernel
theorem dX11_sort_39 : decode cX11_sort 39 = .ok (.iload_n 1, 1) := by decide +kernel
theorem dX11_sort_40 : decode cX11_sort 40 = .ok (.if_icmp .ge 7, 3) := by decide +kernel
theorem dX11_sort_43 : decode cX11_sort 43 = .ok (.iconst 0, 1) := by decide +kernel
theorem dX11_sort_44 : decode cX11_sort 44 = .ok (.goto 4, 3) := by decide +kernel
theorem dX11_sort_47 : decode cX11_sort 47 = .ok (.iconst 1, 1) := by decide +kernel
theorem dX11_sort_48 : decode cX11_sort 48 = .ok (.ireturn, 1) := by decide +kernel
theorem dX11_sort_49 : decode cX11_sort 49 = .ok (.aload_n 0, 1) := by decide +kernel
theorem dX11_sort_50 : decode cX11_sort 50 = .ok (.iload_n 1, 1) := by decide +kernel
theorem dX11_sort_51 : decode cX11_sort 51 = .ok (.invokevirtual 187, 3) := by decide +kernel
theorem dX11_sort_54 : decode cX11_sort 54 = .ok (.ifCond .eq 7, 3) := by decide +kernel
theorem dX11_sort_57 : decode cX11_sort 57 = .ok (.iconst 2, 1) := by decide +kernel
theorem dX11_sort_58 : decode cX11_sort 58 = .ok (.goto 4, 3) := by decide +kernel
theorem dX11_sort_61 : decode cX11_sort 61 = .ok (.iconst 3, 1) := by decide +kernel
theorem dX11_sort_62 : decode cX11_sort 62 = .ok (.ireturn, 1) := by decide +kernel
set_option maxRecDepth 20000 in
theorem ggX11_made_X11_within : GoodIn wsX11_made wsX11_within := goodIn_r _ [6] rfl (by decide +kernel)
set_option maxRecDepth 20000 in
theorem gX11_made_X11_within : GoodIn wsX11_made (va_wsS RX11 91 yX11_within wsX11_within) := goodIn_app (goodIn_sub (List.forall_mem_cons.mpr ⟨List.mem_of_getElem? (i := 3) rfl, List.forall_mem_cons.mpr ⟨List.mem_of_getElem? (i := 4) rfl, List.forall_mem_cons.mpr ⟨List.mem_of_getElem? (i := 5) rfl, fun _ h => absurd h List.not_mem_nil⟩⟩⟩) (by decide +kernel)) ggX11_made_X11_within
set_option maxRecDepth 20000 in
theorem ggX11_made_X3_prepare : GoodIn wsX11_made wsX3_prepare := goodIn_r _ [11, 12, 13, 14, 15, 16, 17, 18, 19, 20, 21, 22, 23, 24, 25, 26, 27, 28, 29, 30, 31, 32, 10, 33, 97, 98, 99] rfl (by decide +kernel)
set_option maxRecDepth 20000 in
theorem gX11_made_X3_prepare : GoodIn wsX11_made (wsV RX11 101 RX3 yX3_prepare wsX3_prepare) := goodIn_app (goodIn_sub (List.forall_mem_cons.mpr ⟨List.mem_of_getElem? (i := 7) rfl, List.forall_mem_cons.mpr ⟨List.mem_of_getElem? (i := 8) rfl, List.forall_mem_cons.mpr ⟨List.mem_of_getElem? (i := 9) rfl, List.forall_mem_cons.mpr ⟨List.mem_of_getElem? (i := 10) rfl, fun _ h => absurd h List.not_mem_nil⟩⟩⟩⟩) (by decide +kernel)) ggX11_made_X3_prepare
set_option maxRecDepth 20000 in
theorem ggX11_made_X1_fewest : GoodIn wsX11_made wsX1_fewest := goodIn_r _ [38, 39, 40, 41, 42, 43, 44, 45, 46, 47, 48, 49, 50, 51, 52, 53, 54, 55, 56, 57, 58, 59, 60, 61, 62, 63, 64, 65, 66, 67, 68, 69, 70, 71, 72, 73, 5, 74, 75, 76, 77, 37, 78, 79, 80, 81, 82, 83, 84, 22, 23, 19, 24, 25, 26, 13, 85, 86, 87, 100, 101, 102, 103, 104, 105, 106, 107, 108, 109, 97, 98, 99] rfl (by decide +kernel)
set_option maxRecDepth 20000 in
theorem gX11_made_X1_fewest : GoodIn wsX11_made (wsV RX11 190 RX1 yX1_fewest wsX1_fewest) := goodIn_app (goodIn_sub (List.forall_mem_cons.mpr ⟨List.mem_of_getElem? (i := 34) rfl, List.forall_mem_cons.mpr ⟨List.mem_of_getElem? (i := 35) rfl, List.forall_mem_cons.mpr ⟨List.mem_of_getElem? (i := 36) rfl, List.forall_mem_cons.mpr ⟨List.mem_of_getElem? (i := 37) rfl, fun _ h => absurd h List.not_mem_nil⟩⟩⟩⟩) (by decide +kernel)) ggX11_made_X1_fewest
theorem dX11_made_0 : decode cX11_made 0 = .ok (.iload_n 1, 1) := by decide +kernel
theorem dX11_made_1 : decode cX11_made 1 = .ok (.iconst 1, 1) := by decide +kernel
theorem dX11_made_2 : decode cX11_made 2 = .ok (.sipush 5000, 3) := by decide +kernel
theorem dX11_made_5 : decode cX11_made 5 = .ok (.invokestatic 91, 3) := by decide +kernel
theorem dX11_made_8 : decode cX11_made 8 = .ok (.ifCond .ne 5, 3) := by decide +kernel
theorem dX11_made_11 : decode cX11_made 11 = .ok (.iconst (-1), 1) := by decide +kernel
theorem dX11_made_12 : decode cX11_made 12 = .ok (.ireturn, 1) := by decide +kernel
theorem dX11_made_13 : decode cX11_made 13 = .ok (.aload_n 0, 1) := by decide +kernel
theorem dX11_made_14 : decode cX11_made 14 = .ok (.getfield 15, 3) := by decide +kernel
theorem dX11_made_17 : decode cX11_made 17 = .ok (.invokevirtual 101, 3) := by decide +kernel
theorem dX11_made_20 : decode cX11_made 20 = .ok (.aload_n 0, 1) := by decide +kernel
theorem dX11_made_21 : decode cX11_made 21 = .ok (.getfield 69, 3) := by decide +kernel
theorem dX11_made_24 : decode cX11_made 24 = .ok (.iload_n 1, 1) := by decide +kernel
theorem dX11_made_25 : decode cX11_made 25 = .ok (.invokevirtual 190, 3) := by decide +kernel
theorem dX11_made_28 : decode cX11_made 28 = .ok (.ireturn, 1) := by decide +kernel
set_option maxRecDepth 20000 in
theorem ggX11_falling_X11_within : GoodIn wsX11_falling wsX11_within := goodIn_r _ [6] rfl (by decide +kernel)
set_option maxRecDepth 20000 in
theorem gX11_falling_X11_within : GoodIn wsX11_falling (va_wsS RX11 91 yX11_within wsX11_within) := goodIn_app (goodIn_sub (List.forall_mem_cons.mpr ⟨List.mem_of_getElem? (i := 3) rfl, List.forall_mem_cons.mpr ⟨List.mem_of_getElem? (i := 4) rfl, List.forall_mem_cons.mpr ⟨List.mem_of_getElem? (i := 5) rfl, fun _ h => absurd h List.not_mem_nil⟩⟩⟩) (by decide +kernel)) ggX11_falling_X11_within
set_option maxRecDepth 20000 in
theorem ggX11_falling_X11_isBound : GoodIn wsX11_falling wsX11_isBound := goodIn_r _ [9, 10, 3, 4, 5, 6] rfl (by decide +kernel)
set_option maxRecDepth 20000 in
theorem gX11_falling_X11_isBound : GoodIn wsX11_falling (va_wsS RX11 147 yX11_isBound wsX11_isBound) := goodIn_app (goodIn_sub (List.forall_mem_cons.mpr ⟨List.mem_of_getElem? (i := 7) rfl, List.forall_mem_cons.mpr ⟨List.mem_of_getElem? (i := 8) rfl, List.forall_mem_cons.mpr ⟨List.mem_of_getElem? (i := 5) rfl, fun _ h => absurd h List.not_mem_nil⟩⟩⟩) (by decide +kernel)) ggX11_falling_X11_isBound
set_option maxRecDepth 20000 in
theorem ggX11_falling_X7_prepare : GoodIn wsX11_falling wsX7_prepare := goodIn_r _ [15, 16, 17, 18, 19, 20, 21, 22, 14, 23, 24, 25, 26, 27, 28, 29, 30, 31, 32, 33, 34, 35, 36, 37, 38, 39, 40, 41, 42, 43, 73, 74, 75, 76] rfl (by decide +kernel)
set_option maxRecDepth 20000 in
theorem gX11_falling_X7_prepare : GoodIn wsX11_falling (wsV RX11 151 RX7 yX7_prepare wsX7_prepare) := goodIn_app (goodIn_sub (List.forall_mem_cons.mpr ⟨List.mem_of_getElem? (i := 11) rfl, List.forall_mem_cons.mpr ⟨List.mem_of_getElem? (i := 12) rfl, List.forall_mem_cons.mpr ⟨List.mem_of_getElem? (i := 13) rfl, List.forall_mem_cons.mpr ⟨List.mem_of_getElem? (i := 14) rfl, fun _ h => absurd h List.not_mem_nil⟩⟩⟩⟩) (by decide +kernel)) ggX11_falling_X7_prepare
set_option maxRecDepth 20000 in
theorem ggX11_falling_X5_howManyFall : GoodIn wsX11_falling wsX5_howManyFall := goodIn_r _ [48, 49, 50, 26, 27, 28, 29, 30, 31, 32, 33, 34, 35, 18, 36, 37, 38, 39, 51, 52, 53, 47, 54, 55, 56, 57, 58, 59, 60, 61, 62, 14, 63, 16, 19, 77, 78, 79, 76, 73, 74, 75] rfl (by decide +kernel)
set_option maxRecDepth 20000 in
theorem gX11_falling_X5_howManyFall : GoodIn wsX11_falling (wsV RX11 193 RX5 yX5_howManyFall wsX5_howManyFall) := goodIn_app (goodIn_sub (List.forall_mem_cons.mpr ⟨List.mem_of_getElem? (i := 44) rfl, List.forall_mem_cons.mpr ⟨List.mem_of_getElem? (i := 45) rfl, List.forall_mem_cons.mpr ⟨List.mem_of_getElem? (i := 46) rfl, List.forall_mem_cons.mpr ⟨List.mem_of_getElem? (i := 47) rfl, fun _ h => absurd h List.not_mem_nil⟩⟩⟩⟩) (by decide +kernel)) ggX11_falling_X5_howManyFall
theorem dX11_falling_0 : decode cX11_falling 0 = .ok (.iload_n 1, 1) := by decide +kernel
theorem dX11_falling_1 : decode cX11_falling 1 = .ok (.iconst 1, 1) := by decide +kernel
theorem dX11_falling_2 : decode cX11_falling 2 = .ok (.iconst 3, 1) := by decide +kernel
theorem dX11_falling_3 : decode cX11_falling 3 = .ok (.invokestatic 91, 3) := by decide +kernel
theorem dX11_falling_6 : decode cX11_falling 6 = .ok (.ifCond .eq 28, 3) := by decide +kernel
theorem dX11_falling_9 : decode cX11_falling 9 = .ok (.iload_n 2, 1) := by decide +kernel
theorem dX11_falling_10 : decode cX11_falling 10 = .ok (.invokestatic 147, 3) := by decide +kernel
theorem dX11_falling_13 : decode cX11_falling 13 = .ok (.ifCond .eq 21, 3) := by decide +kernel
theorem dX11_falling_16 : decode cX11_falling 16 = .ok (.iload_n 3, 1) := by decide +kernel
theorem dX11_falling_17 : decode cX11_falling 17 = .ok (.iconst 0, 1) := by decide +kernel
theorem dX11_falling_18 : decode cX11_falling 18 = .ok (.bipush 50, 2) := by decide +kernel
theorem dX11_falling_20 : decode cX11_falling 20 = .ok (.invokestatic 91, 3) := by decide +kernel
theorem dX11_falling_23 : decode cX11_falling 23 = .ok (.ifCond .eq 11, 3) := by decide +kernel
theorem dX11_falling_26 : decode cX11_falling 26 = .ok (.iload 4, 2) := by decide +kernel
theorem dX11_falling_28 : decode cX11_falling 28 = .ok (.invokestatic 147, 3) := by decide +kernel
theorem dX11_falling_31 : decode cX11_falling 31 = .ok (.ifCond .ne 5, 3) := by decide +kernel
theorem dX11_falling_34 : decode cX11_falling 34 = .ok (.iconst (-1), 1) := by decide +kernel
theorem dX11_falling_35 : decode cX11_falling 35 = .ok (.ireturn, 1) := by decide +kernel
theorem dX11_falling_36 : decode cX11_falling 36 = .ok (.aload_n 0, 1) := by decide +kernel
theorem dX11_falling_37 : decode cX11_falling 37 = .ok (.getfield 42, 3) := by decide +kernel
theorem dX11_falling_40 : decode cX11_falling 40 = .ok (.invokevirtual 151, 3) := by decide +kernel
theorem dX11_falling_43 : decode cX11_falling 43 = .ok (.aload_n 0, 1) := by decide +kernel
theorem dX11_falling_44 : decode cX11_falling 44 = .ok (.getfield 51, 3) := by decide +kernel
theorem dX11_falling_47 : decode cX11_falling 47 = .ok (.iload_n 1, 1) := by decide +kernel
theorem dX11_falling_48 : decode cX11_falling 48 = .ok (.iload_n 2, 1) := by decide +kernel
theorem dX11_falling_49 : decode cX11_falling 49 = .ok (.iload_n 3, 1) := by decide +kernel
theorem dX11_falling_50 : decode cX11_falling 50 = .ok (.iload 4, 2) := by decide +kernel
theorem dX11_falling_52 : decode cX11_falling 52 = .ok (.invokevirtual 193, 3) := by decide +kernel
theorem dX11_falling_55 : decode cX11_falling 55 = .ok (.ireturn, 1) := by decide +kernel
set_option maxRecDepth 20000 in
theorem ggX11_write_X11_within : GoodIn wsX11_write wsX11_within := goodIn_r _ [5] rfl (by decide +kernel)
set_option maxRecDepth 20000 in
theorem gX11_write_X11_within : GoodIn wsX11_write (va_wsS RX11 91 yX11_within wsX11_within) := goodIn_app (goodIn_sub (List.forall_mem_cons.mpr ⟨List.mem_of_getElem? (i := 2) rfl, List.forall_mem_cons.mpr ⟨List.mem_of_getElem? (i := 3) rfl, List.forall_mem_cons.mpr ⟨List.mem_of_getElem? (i := 4) rfl, fun _ h => absurd h List.not_mem_nil⟩⟩⟩) (by decide +kernel)) ggX11_write_X11_within
set_option maxRecDepth 20000 in
theorem ggX11_write_X10_append : GoodIn wsX11_write wsX10_append := goodIn_r _ [10, 11, 12, 13, 14, 15, 16, 17, 18, 19, 20, 21, 22, 23, 24, 25, 26, 27, 28, 29, 30, 31, 32, 33, 34, 35, 36, 37, 38, 39, 40, 41, 42, 43, 44, 45, 46, 47, 48, 49, 50, 51, 52, 53, 54, 55, 56, 57, 58, 59, 60, 61, 62, 63, 64, 65, 66, 67, 68, 69, 70, 71, 72, 73, 74, 75, 76, 77, 78, 79, 80, 81, 82, 83, 84, 85, 86, 87, 88, 89, 90, 91, 92, 93, 94, 95, 96, 97, 98, 99, 100, 101, 102, 112, 113, 114, 115] rfl (by decide +kernel)
set_option maxRecDepth 20000 in
theorem gX11_write_X10_append : GoodIn wsX11_write (wsV RX11 196 RX10 yX10_append wsX10_append) := goodIn_app (goodIn_sub (List.forall_mem_cons.mpr ⟨List.mem_of_getElem? (i := 6) rfl, List.forall_mem_cons.mpr ⟨List.mem_of_getElem? (i := 7) rfl, List.forall_mem_cons.mpr ⟨List.mem_of_getElem? (i := 8) rfl, List.forall_mem_cons.mpr ⟨List.mem_of_getElem? (i := 9) rfl, fun _ h => absurd h List.not_mem_nil⟩⟩⟩⟩) (by decide +kernel)) ggX11_write_X10_append
theorem dX11_write_0 : decode cX11_write 0 = .ok (.iload_n 1, 1) := by decide +kernel
theorem dX11_write_1 : decode cX11_write 1 = .ok (.iconst 1, 1) := by decide +kernel
theorem dX11_write_2 : decode cX11_write 2 = .ok (.bipush 8, 2) := by decide +kernel
theorem dX11_write_4 : decode cX11_write 4 = .ok (.invokestatic 91, 3) := by decide +kernel
theorem dX11_write_7 : decode cX11_write 7 = .ok (.ifCond .ne 5, 3) := by decide +kernel
theorem dX11_write_10 : decode cX11_write 10 = .ok (.iconst (-1), 1) := by decide +kernel
theorem dX11_write_11 : decode cX11_write 11 = .ok (.ireturn, 1) := by decide +kernel
theorem dX11_write_12 : decode cX11_write 12 = .ok (.aload_n 0, 1) := by decide +kernel
theorem dX11_write_13 : decode cX11_write 13 = .ok (.getfield 87, 3) := by decide +kernel
theorem dX11_write_16 : decode cX11_write 16 = .ok (.iload_n 1, 1) := by decide +kernel
theorem dX11_write_17 : decode cX11_write 17 = .ok (.lload_n 2, 1) := by decide +kernel
theorem dX11_write_18 : decode cX11_write 18 = .ok (.invokevirtual 196, 3) := by decide +kernel
theorem dX11_write_21 : decode cX11_write 21 = .ok (.ireturn, 1) := by decide +kernel
set_option maxRecDepth 20000 in
theorem ggX11_wipe_X10_clear : GoodIn wsX11_wipe wsX10_clear := goodIn_r _ [6, 7, 17, 18, 19, 20] rfl (by decide +kernel)
set_option maxRecDepth 20000 in
theorem gX11_wipe_X10_clear : GoodIn wsX11_wipe (wsV RX11 200 RX10 yX10_clear wsX10_clear) := goodIn_app (goodIn_sub (List.forall_mem_cons.mpr ⟨List.mem_of_getElem? (i := 2) rfl, List.forall_mem_cons.mpr ⟨List.mem_of_getElem? (i := 3) rfl, List.forall_mem_cons.mpr ⟨List.mem_of_getElem? (i := 4) rfl, List.forall_mem_cons.mpr ⟨List.mem_of_getElem? (i := 5) rfl, fun _ h => absurd h List.not_mem_nil⟩⟩⟩⟩) (by decide +kernel)) ggX11_wipe_X10_clear
theorem dX11_wipe_0 : decode cX11_wipe 0 = .ok (.aload_n 0, 1) := by decide +kernel
theorem dX11_wipe_1 : decode cX11_wipe 1 = .ok (.getfield 87, 3) := by decide +kernel
theorem dX11_wipe_4 : decode cX11_wipe 4 = .ok (.invokevirtual 200, 3) := by decide +kernel
theorem dX11_wipe_7 : decode cX11_wipe 7 = .ok (.ireturn, 1) := by decide +kernel
set_option maxRecDepth 20000 in
theorem ggX11_fault_X10_firstFault : GoodIn wsX11_fault wsX10_firstFault := goodIn_r _ [6, 7, 8, 9, 10, 5, 11, 21, 22, 23, 24] rfl (by decide +kernel)
set_option maxRecDepth 20000 in
theorem gX11_fault_X10_firstFault : GoodIn wsX11_fault (wsV RX11 203 RX10 yX10_firstFault wsX10_firstFault) := goodIn_app (goodIn_sub (List.forall_mem_cons.mpr ⟨List.mem_of_getElem? (i := 2) rfl, List.forall_mem_cons.mpr ⟨List.mem_of_getElem? (i := 3) rfl, List.forall_mem_cons.mpr ⟨List.mem_of_getElem? (i := 4) rfl, List.forall_mem_cons.mpr ⟨List.mem_of_getElem? (i := 5) rfl, fun _ h => absurd h List.not_mem_nil⟩⟩⟩⟩) (by decide +kernel)) ggX11_fault_X10_firstFault
theorem dX11_fault_0 : decode cX11_fault 0 = .ok (.aload_n 0, 1) := by decide +kernel
theorem dX11_fault_1 : decode cX11_fault 1 = .ok (.getfield 87, 3) := by decide +kernel
theorem dX11_fault_4 : decode cX11_fault 4 = .ok (.invokevirtual 203, 3) := by decide +kernel
theorem dX11_fault_7 : decode cX11_fault 7 = .ok (.ireturn, 1) := by decide +kernel
set_option maxRecDepth 20000 in
theorem ggX11_wished_X11_within : GoodIn wsX11_wished wsX11_within := goodIn_r _ [5] rfl (by decide +kernel)
set_option maxRecDepth 20000 in
theorem gX11_wished_X11_within : GoodIn wsX11_wished (va_wsS RX11 91 yX11_within wsX11_within) := goodIn_app (goodIn_sub (List.forall_mem_cons.mpr ⟨List.mem_of_getElem? (i := 2) rfl, List.forall_mem_cons.mpr ⟨List.mem_of_getElem? (i := 3) rfl, List.forall_mem_cons.mpr ⟨List.mem_of_getElem? (i := 4) rfl, fun _ h => absurd h List.not_mem_nil⟩⟩⟩) (by decide +kernel)) ggX11_wished_X11_within
set_option maxRecDepth 20000 in
theorem ggX11_wished_X10_firstFault : GoodIn wsX11_wished wsX10_firstFault := goodIn_r _ [10, 11, 12, 13, 14, 9, 15, 199, 200, 201, 202] rfl (by decide +kernel)
set_option maxRecDepth 20000 in
theorem gX11_wished_X10_firstFault : GoodIn wsX11_wished (wsV RX11 203 RX10 yX10_firstFault wsX10_firstFault) := goodIn_app (goodIn_sub (List.forall_mem_cons.mpr ⟨List.mem_of_getElem? (i := 6) rfl, List.forall_mem_cons.mpr ⟨List.mem_of_getElem? (i := 7) rfl, List.forall_mem_cons.mpr ⟨List.mem_of_getElem? (i := 8) rfl, List.forall_mem_cons.mpr ⟨List.mem_of_getElem? (i := 9) rfl, fun _ h => absurd h List.not_mem_nil⟩⟩⟩⟩) (by decide +kernel)) ggX11_wished_X10_firstFault
set_option maxRecDepth 20000 in
theorem ggX11_wished_X11_prepareTraits : GoodIn wsX11_wished wsX11_prepareTraits := goodIn_r _ [19, 20, 21, 22, 23, 24, 25, 26, 27, 28, 29, 30, 31, 32, 33, 34, 35, 36, 37, 38, 39, 40, 41, 42, 43, 44, 45, 46, 47, 48, 49, 50, 51, 52, 53, 54, 55, 56, 57, 58, 59, 60, 61, 62, 63, 64, 65, 66, 67, 68, 69, 70, 71, 72, 73, 74, 75, 76, 77, 78, 79, 80, 81, 82, 83, 84, 85, 86, 87, 88, 89, 90, 91, 92, 93, 94, 95, 96, 97, 98, 99, 100, 101, 102, 103, 104, 105, 106, 107, 108, 109, 110, 111, 112, 113, 114, 115, 116, 117, 118, 119, 120, 121, 122, 123, 124, 125, 126, 127, 128, 129, 130, 131, 4, 132, 133, 134, 135, 136, 137, 138, 139, 140, 141, 142, 143, 144, 145, 146, 147, 148, 149, 150, 151, 152, 153, 154, 155, 156, 157, 190, 191, 192, 193, 194, 195, 196, 197, 198, 203, 204, 205, 206, 207, 208, 209, 210, 211, 212, 213, 214, 215, 216, 217, 218, 219, 220, 221, 222] rfl (by decide +kernel)
set_option maxRecDepth 20000 in
theorem gX11_wished_X11_prepareTraits : GoodIn wsX11_wished (wsV RX11 206 RX11 yX11_prepareTraits wsX11_prepareTraits) := goodIn_app (goodIn_sub (List.forall_mem_cons.mpr ⟨List.mem_of_getElem? (i := 16) rfl, List.forall_mem_cons.mpr ⟨List.mem_of_getElem? (i := 17) rfl, List.forall_mem_cons.mpr ⟨List.mem_of_getElem? (i := 18) rfl, List.forall_mem_cons.mpr ⟨List.mem_of_getElem? (i := 4) rfl, fun _ h => absurd h List.not_mem_nil⟩⟩⟩⟩) (by decide +kernel)) ggX11_wished_X11_prepareTraits
set_option maxRecDepth 20000 in
theorem ggX11_wished_X10_numberAt : GoodIn wsX11_wished wsX10_numberAt := goodIn_r _ [161, 162, 163, 164, 165, 166, 167, 168, 169, 170, 171, 172, 9, 173, 11, 12, 174, 13, 14, 15, 175, 176, 177, 71, 178, 73, 179, 180, 181, 182, 183, 184, 185, 186, 187, 188, 189, 199, 200, 201, 202, 223, 224, 209, 210, 211, 212] rfl (by decide +kernel)
set_option maxRecDepth 20000 in
theorem gX11_wished_X10_numberAt : GoodIn wsX11_wished (wsV RX11 209 RX10 yX10_numberAt wsX10_numberAt) := goodIn_app (goodIn_sub (List.forall_mem_cons.mpr ⟨List.mem_of_getElem? (i := 158) rfl, List.forall_mem_cons.mpr ⟨List.mem_of_getElem? (i := 159) rfl, List.forall_mem_cons.mpr ⟨List.mem_of_getElem? (i := 160) rfl, List.forall_mem_cons.mpr ⟨List.mem_of_getElem? (i := 9) rfl, fun _ h => absurd h List.not_mem_nil⟩⟩⟩⟩) (by decide +kernel)) ggX11_wished_X10_numberAt
theorem dX11_wished_0 : decode cX11_wished 0 = .ok (.iload_n 1, 1) := by decide +kernel
theorem dX11_wished_1 : decode cX11_wished 1 = .ok (.iconst 1, 1) := by decide +kernel
theorem dX11_wished_2 : decode cX11_wished 2 = .ok (.sipush 5000, 3) := by decide +kernel
theorem dX11_wished_5 : decode cX11_wished 5 = .ok (.invokestatic 91, 3) := by decide +kernel
theorem dX11_wished_8 : decode cX11_wished 8 = .ok (.ifCond .eq 8, 3) := by decide +kernel
theorem dX11_wished_11 : decode cX11_wished 11 = .ok (.iload_n 2, 1) := by decide +kernel
theorem dX11_wished_12 : decode cX11_wished 12 = .ok (.iconst (-1), 1) := by decide +kernel
theorem dX11_wished_13 : decode cX11_wished 13 = .ok (.if_icmp .ge 5, 3) := by decide +kernel
theorem dX11_wished_16 : decode cX11_wished 16 = .ok (.iconst (-1), 1) := by decide +kernel
theorem dX11_wished_17 : decode cX11_wished 17 = .ok (.ireturn, 1) := by decide +kernel
theorem dX11_wished_18 : decode cX11_wished 18 = .ok (.aload_n 0, 1) := by decide +kernel
theorem dX11_wished_19 : decode cX11_wished 19 = .ok (.getfield 87, 3) := by decide +kernel
theorem dX11_wished_22 : decode cX11_wished 22 = .ok (.invokevirtual 203, 3) := by decide +kernel
theorem dX11_wished_25 : decode cX11_wished 25 = .ok (.bipush (-4), 2) := by decide +kernel
theorem dX11_wished_27 : decode cX11_wished 27 = .ok (.if_icmp .eq 6, 3) := by decide +kernel
theorem dX11_wished_30 : decode cX11_wished 30 = .ok (.bipush (-2), 2) := by decide +kernel
theorem dX11_wished_32 : decode cX11_wished 32 = .ok (.ireturn, 1) := by decide +kernel
theorem dX11_wished_33 : decode cX11_wished 33 = .ok (.aload_n 0, 1) := by decide +kernel
theorem dX11_wished_34 : decode cX11_wished 34 = .ok (.invokevirtual 206, 3) := by decide +kernel
theorem dX11_wished_37 : decode cX11_wished 37 = .ok (.aload_n 0, 1) := by decide +kernel
theorem dX11_wished_38 : decode cX11_wished 38 = .ok (.getfield 87, 3) := by decide +kernel
theorem dX11_wished_41 : decode cX11_wished 41 = .ok (.iload_n 1, 1) := by decide +kernel
theorem dX11_wished_42 : decode cX11_wished 42 = .ok (.iload_n 2, 1) := by decide +kernel
theorem dX11_wished_43 : decode cX11_wished 43 = .ok (.invokevirtual 209, 3) := by decide +kernel
theorem dX11_wished_46 : decode cX11_wished 46 = .ok (.ireturn, 1) := by decide +kernel
set_option maxRecDepth 20000 in
theorem ggX11_holds_X11_within : GoodIn wsX11_holds wsX11_within := goodIn_r _ [5] rfl (by decide +kernel)
set_option maxRecDepth 20000 in
theorem gX11_holds_X11_within : GoodIn wsX11_holds (va_wsS RX11 91 yX11_within wsX11_within) := goodIn_app (goodIn_sub (List.forall_mem_cons.mpr ⟨List.mem_of_getElem? (i := 2) rfl, List.forall_mem_cons.mpr ⟨List.mem_of_getElem? (i := 3) rfl, List.forall_mem_cons.mpr ⟨List.mem_of_getElem? (i := 4) rfl, fun _ h => absurd h List.not_mem_nil⟩⟩⟩) (by decide +kernel)) ggX11_holds_X11_within
set_option maxRecDepth 20000 in
theorem ggX11_holds_X10_firstFault : GoodIn wsX11_holds wsX10_firstFault := goodIn_r _ [10, 11, 12, 13, 14, 9, 15, 179, 180, 181, 182] rfl (by decide +kernel)
set_option maxRecDepth 20000 in
theorem gX11_holds_X10_firstFault : GoodIn wsX11_holds (wsV RX11 203 RX10 yX10_firstFault wsX10_firstFault) := goodIn_app (goodIn_sub (List.forall_mem_cons.mpr ⟨List.mem_of_getElem? (i := 6) rfl, List.forall_mem_cons.mpr ⟨List.mem_of_getElem? (i := 7) rfl, List.forall_mem_cons.mpr ⟨List.mem_of_getElem? (i := 8) rfl, List.forall_mem_cons.mpr ⟨List.mem_of_getElem? (i := 9) rfl, fun _ h => absurd h List.not_mem_nil⟩⟩⟩⟩) (by decide +kernel)) ggX11_holds_X10_firstFault
set_option maxRecDepth 20000 in
theorem ggX11_holds_X11_prepareTraits : GoodIn wsX11_holds wsX11_prepareTraits := goodIn_r _ [19, 20, 21, 22, 23, 24, 25, 26, 27, 28, 29, 30, 31, 32, 33, 34, 35, 36, 37, 38, 39, 40, 41, 42, 43, 44, 45, 46, 47, 48, 49, 50, 51, 52, 53, 54, 55, 56, 57, 58, 59, 60, 61, 62, 63, 64, 65, 66, 67, 68, 69, 70, 71, 72, 73, 74, 75, 76, 77, 78, 79, 80, 81, 82, 83, 84, 85, 86, 87, 88, 89, 90, 91, 92, 93, 94, 95, 96, 97, 98, 99, 100, 101, 102, 103, 104, 105, 106, 107, 108, 109, 110, 111, 112, 113, 114, 115, 116, 117, 118, 119, 120, 121, 122, 123, 124, 125, 126, 127, 128, 129, 130, 131, 4, 132, 133, 134, 135, 136, 137, 138, 139, 140, 141, 142, 143, 144, 145, 146, 147, 148, 149, 150, 151, 152, 153, 154, 155, 156, 157, 170, 171, 172, 173, 174, 175, 176, 177, 178, 183, 184, 185, 186, 187, 188, 189, 190, 191, 192, 193, 194, 195, 196, 197, 198, 199, 200, 201, 202] rfl (by decide +kernel)
set_option maxRecDepth 20000 in
theorem gX11_holds_X11_prepareTraits : GoodIn wsX11_holds (wsV RX11 206 RX11 yX11_prepareTraits wsX11_prepareTraits) := goodIn_app (goodIn_sub (List.forall_mem_cons.mpr ⟨List.mem_of_getElem? (i := 16) rfl, List.forall_mem_cons.mpr ⟨List.mem_of_getElem? (i := 17) rfl, List.forall_mem_cons.mpr ⟨List.mem_of_getElem? (i := 18) rfl, List.forall_mem_cons.mpr ⟨List.mem_of_getElem? (i := 4) rfl, fun _ h => absurd h List.not_mem_nil⟩⟩⟩⟩) (by decide +kernel)) ggX11_holds_X11_prepareTraits
set_option maxRecDepth 20000 in
theorem ggX11_holds_X10_agrees : GoodIn wsX11_holds wsX10_agrees := goodIn_r _ [161, 11, 12, 162, 13, 14, 9, 15, 163, 164, 165, 71, 166, 73, 167, 168, 169, 179, 180, 181, 182, 189, 190, 191, 192] rfl (by decide +kernel)
set_option maxRecDepth 20000 in
theorem gX11_holds_X10_agrees : GoodIn wsX11_holds (wsV RX11 211 RX10 yX10_agrees wsX10_agrees) := goodIn_app (goodIn_sub (List.forall_mem_cons.mpr ⟨List.mem_of_getElem? (i := 158) rfl, List.forall_mem_cons.mpr ⟨List.mem_of_getElem? (i := 159) rfl, List.forall_mem_cons.mpr ⟨List.mem_of_getElem? (i := 160) rfl, List.forall_mem_cons.mpr ⟨List.mem_of_getElem? (i := 9) rfl, fun _ h => absurd h List.not_mem_nil⟩⟩⟩⟩) (by decide +kernel)) ggX11_holds_X10_agrees
theorem dX11_holds_0 : decode cX11_holds 0 = .ok (.iload_n 1, 1) := by decide +kernel
theorem dX11_holds_1 : decode cX11_holds 1 = .ok (.iconst 1, 1) := by decide +kernel
theorem dX11_holds_2 : decode cX11_holds 2 = .ok (.sipush 5000, 3) := by decide +kernel
theorem dX11_holds_5 : decode cX11_holds 5 = .ok (.invokestatic 91, 3) := by decide +kernel
theorem dX11_holds_8 : decode cX11_holds 8 = .ok (.ifCond .ne 5, 3) := by decide +kernel
theorem dX11_holds_11 : decode cX11_holds 11 = .ok (.iconst (-1), 1) := by decide +kernel
theorem dX11_holds_12 : decode cX11_holds 12 = .ok (.ireturn, 1) := by decide +kernel
theorem dX11_holds_13 : decode cX11_holds 13 = .ok (.aload_n 0, 1) := by decide +kernel
theorem dX11_holds_14 : decode cX11_holds 14 = .ok (.getfield 87, 3) := by decide +kernel
theorem dX11_holds_17 : decode cX11_holds 17 = .ok (.invokevirtual 203, 3) := by decide +kernel
theorem dX11_holds_20 : decode cX11_holds 20 = .ok (.bipush (-4), 2) := by decide +kernel
theorem dX11_holds_22 : decode cX11_holds 22 = .ok (.if_icmp .eq 6, 3) := by decide +kernel
theorem dX11_holds_25 : decode cX11_holds 25 = .ok (.bipush (-2), 2) := by decide +kernel
theorem dX11_holds_27 : decode cX11_holds 27 = .ok (.ireturn, 1) := by decide +kernel
theorem dX11_holds_28 : decode cX11_holds 28 = .ok (.aload_n 0, 1) := by decide +kernel
theorem dX11_holds_29 : decode cX11_holds 29 = .ok (.invokevirtual 206, 3) := by decide +kernel
theorem dX11_holds_32 : decode cX11_holds 32 = .ok (.aload_n 0, 1) := by decide +kernel
theorem dX11_holds_33 : decode cX11_holds 33 = .ok (.getfield 87, 3) := by decide +kernel
theorem dX11_holds_36 : decode cX11_holds 36 = .ok (.iload_n 1, 1) := by decide +kernel
theorem dX11_holds_37 : decode cX11_holds 37 = .ok (.invokevirtual 211, 3) := by decide +kernel
theorem dX11_holds_40 : decode cX11_holds 40 = .ok (.ifCond .eq 7, 3) := by decide +kernel
theorem dX11_holds_43 : decode cX11_holds 43 = .ok (.iconst 1, 1) := by decide +kernel
theorem dX11_holds_44 : decode cX11_holds 44 = .ok (.goto 4, 3) := by decide +kernel
theorem dX11_holds_47 : decode cX11_holds 47 = .ok (.iconst 0, 1) := by decide +kernel
theorem dX11_holds_48 : decode cX11_holds 48 = .ok (.ireturn, 1) := by decide +kernel
set_option maxRecDepth 20000 in
theorem ggX11_count_X11_within : GoodIn wsX11_count wsX11_within := goodIn_r _ [5] rfl (by decide +kernel)
set_option maxRecDepth 20000 in
theorem gX11_count_X11_within : GoodIn wsX11_count (va_wsS RX11 91 yX11_within wsX11_within) := goodIn_app (goodIn_sub (List.forall_mem_cons.mpr ⟨List.mem_of_getElem? (i := 2) rfl, List.forall_mem_cons.mpr ⟨List.mem_of_getElem? (i := 3) rfl, List.forall_mem_cons.mpr ⟨List.mem_of_getElem? (i := 4) rfl, fun _ h => absurd h List.not_mem_nil⟩⟩⟩) (by decide +kernel)) ggX11_count_X11_within
set_option maxRecDepth 20000 in
theorem ggX11_count_X10_howManyLook : GoodIn wsX11_count wsX10_howManyLook := goodIn_r _ [10, 11, 12, 13, 14, 9, 15, 25, 26, 27, 28] rfl (by decide +kernel)
set_option maxRecDepth 20000 in
theorem gX11_count_X10_howManyLook : GoodIn wsX11_count (wsV RX11 217 RX10 yX10_howManyLook wsX10_howManyLook) := goodIn_app (goodIn_sub (List.forall_mem_cons.mpr ⟨List.mem_of_getElem? (i := 6) rfl, List.forall_mem_cons.mpr ⟨List.mem_of_getElem? (i := 7) rfl, List.forall_mem_cons.mpr ⟨List.mem_of_getElem? (i := 8) rfl, List.forall_mem_cons.mpr ⟨List.mem_of_getElem? (i := 9) rfl, fun _ h => absurd h List.not_mem_nil⟩⟩⟩⟩) (by decide +kernel)) ggX11_count_X10_howManyLook
theorem dX11_count_0 : decode cX11_count 0 = .ok (.iload_n 1, 1) := by decide +kernel
theorem dX11_count_1 : decode cX11_count 1 = .ok (.iconst 0, 1) := by decide +kernel
theorem dX11_count_2 : decode cX11_count 2 = .ok (.iconst 1, 1) := by decide +kernel
theorem dX11_count_3 : decode cX11_count 3 = .ok (.invokestatic 91, 3) := by decide +kernel
theorem dX11_count_6 : decode cX11_count 6 = .ok (.ifCond .ne 5, 3) := by decide +kernel
theorem dX11_count_9 : decode cX11_count 9 = .ok (.iconst (-1), 1) := by decide +kernel
theorem dX11_count_10 : decode cX11_count 10 = .ok (.ireturn, 1) := by decide +kernel
theorem dX11_count_11 : decode cX11_count 11 = .ok (.iload_n 1, 1) := by decide +kernel
theorem dX11_count_12 : decode cX11_count 12 = .ok (.ifCond .ne 13, 3) := by decide +kernel
theorem dX11_count_15 : decode cX11_count 15 = .ok (.aload_n 0, 1) := by decide +kernel
theorem dX11_count_16 : decode cX11_count 16 = .ok (.getfield 87, 3) := by decide +kernel
theorem dX11_count_19 : decode cX11_count 19 = .ok (.getfield 214, 3) := by decide +kernel
theorem dX11_count_22 : decode cX11_count 22 = .ok (.goto 10, 3) := by decide +kernel
theorem dX11_count_25 : decode cX11_count 25 = .ok (.aload_n 0, 1) := by decide +kernel
theorem dX11_count_26 : decode cX11_count 26 = .ok (.getfield 87, 3) := by decide +kernel
theorem dX11_count_29 : decode cX11_count 29 = .ok (.invokevirtual 217, 3) := by decide +kernel
theorem dX11_count_32 : decode cX11_count 32 = .ok (.ireturn, 1) := by decide +kernel
