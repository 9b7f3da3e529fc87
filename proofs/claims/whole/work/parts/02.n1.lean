theorem dX0_init_0 : decode cX0_init 0 = .ok (.aload_n 0, 1) := by decide +kernel
theorem dX0_init_1 : decode cX0_init 1 = .ok (.invokespecial 3, 3) := by decide +kernel
theorem dX0_init_4 : decode cX0_init 4 = .ok (.aload_n 0, 1) := by decide +kernel
theorem dX0_init_5 : decode cX0_init 5 = .ok (.sipush 201, 3) := by decide +kernel
theorem dX0_init_8 : decode cX0_init 8 = .ok (.newarray .long, 2) := by decide +kernel
theorem dX0_init_10 : decode cX0_init 10 = .ok (.putfield 11, 3) := by decide +kernel
theorem dX0_init_13 : decode cX0_init 13 = .ok (.aload_n 0, 1) := by decide +kernel
theorem dX0_init_14 : decode cX0_init 14 = .ok (.iconst 0, 1) := by decide +kernel
theorem dX0_init_15 : decode cX0_init 15 = .ok (.putfield 15, 3) := by decide +kernel
theorem dX0_init_18 : decode cX0_init 18 = .ok (.aload_n 0, 1) := by decide +kernel
theorem dX0_init_19 : decode cX0_init 19 = .ok (.iconst 0, 1) := by decide +kernel
theorem dX0_init_20 : decode cX0_init 20 = .ok (.putfield 19, 3) := by decide +kernel
theorem dX0_init_23 : decode cX0_init 23 = .ok (.aload_n 0, 1) := by decide +kernel
theorem dX0_init_24 : decode cX0_init 24 = .ok (.iconst 2, 1) := by decide +kernel
theorem dX0_init_25 : decode cX0_init 25 = .ok (.putfield 22, 3) := by decide +kernel
theorem dX0_init_28 : decode cX0_init 28 = .ok (.aload_n 0, 1) := by decide +kernel
theorem dX0_init_29 : decode cX0_init 29 = .ok (.iconst 0, 1) := by decide +kernel
theorem dX0_init_30 : decode cX0_init 30 = .ok (.putfield 25, 3) := by decide +kernel
theorem dX0_init_33 : decode cX0_init 33 = .ok (.aload_n 0, 1) := by decide +kernel
theorem dX0_init_34 : decode cX0_init 34 = .ok (.iconst 0, 1) := by decide +kernel
theorem dX0_init_35 : decode cX0_init 35 = .ok (.putfield 28, 3) := by decide +kernel
theorem dX0_init_38 : decode cX0_init 38 = .ok (.aload_n 0, 1) := by decide +kernel
theorem dX0_init_39 : decode cX0_init 39 = .ok (.lconst 0, 1) := by decide +kernel
theorem dX0_init_40 : decode cX0_init 40 = .ok (.putfield 31, 3) := by decide +kernel
theorem dX0_init_43 : decode cX0_init 43 = .ok (.aload_n 0, 1) := by decide +kernel
theorem dX0_init_44 : decode cX0_init 44 = .ok (.aload_n 1, 1) := by decide +kernel
theorem dX0_init_45 : decode cX0_init 45 = .ok (.putfield 35, 3) := by decide +kernel
theorem dX0_init_48 : decode cX0_init 48 = .ok (.return_, 1) := by decide +kernel
set_option maxRecDepth 20000 in
theorem ggX0_follow_X6_summed : GoodIn wsX0_follow wsX6_summed := goodIn_r _ [13, 14, 15, 16, 12, 17, 18, 19, 20, 21, 22, 23, 24, 25, 26, 27, 28, 29, 30, 31, 32, 33, 34, 35, 58, 59, 60, 61, 62, 63, 64, 65, 66, 67] rfl (by decide +kernel)
set_option maxRecDepth 20000 in
theorem gX0_follow_X6_summed : GoodIn wsX0_follow (wsV RX0 39 RX6 yX6_summed wsX6_summed) := goodIn_app (goodIn_sub (List.forall_mem_cons.mpr ⟨List.mem_of_getElem? (i := 9) rfl, List.forall_mem_cons.mpr ⟨List.mem_of_getElem? (i := 10) rfl, List.forall_mem_cons.mpr ⟨List.mem_of_getElem? (i := 11) rfl, List.forall_mem_cons.mpr ⟨List.mem_of_getElem? (i := 12) rfl, fun _ h => absurd h List.not_mem_nil⟩⟩⟩⟩) (by decide +kernel)) ggX0_follow_X6_summed
set_option maxRecDepth 20000 in
theorem ggX0_follow_X0_goesOn : GoodIn wsX0_follow wsX0_goesOn := goodIn_r _ [40, 41, 2, 7, 8, 5, 3, 4, 42, 43, 44, 45, 46, 47, 48, 39, 49, 50, 51, 52, 53, 54, 55, 56, 57] rfl (by decide +kernel)
set_option maxRecDepth 20000 in
theorem gX0_follow_X0_goesOn : GoodIn wsX0_follow (wsV RX0 45 RX0 yX0_goesOn wsX0_goesOn) := goodIn_app (goodIn_sub (List.forall_mem_cons.mpr ⟨List.mem_of_getElem? (i := 36) rfl, List.forall_mem_cons.mpr ⟨List.mem_of_getElem? (i := 37) rfl, List.forall_mem_cons.mpr ⟨List.mem_of_getElem? (i := 38) rfl, List.forall_mem_cons.mpr ⟨List.mem_of_getElem? (i := 39) rfl, fun _ h => absurd h List.not_mem_nil⟩⟩⟩⟩) (by decide +kernel)) ggX0_follow_X0_goesOn
theorem dX0_follow_0 : decode cX0_follow 0 = .ok (.iload_n 1, 1) := by decide +kernel
theorem dX0_follow_1 : decode cX0_follow 1 = .ok (.aload_n 0, 1) := by decide +kernel
theorem dX0_follow_2 : decode cX0_follow 2 = .ok (.getfield 19, 3) := by decide +kernel
theorem dX0_follow_5 : decode cX0_follow 5 = .ok (.if_icmp .ne 22, 3) := by decide +kernel
theorem dX0_follow_8 : decode cX0_follow 8 = .ok (.aload_n 0, 1) := by decide +kernel
theorem dX0_follow_9 : decode cX0_follow 9 = .ok (.getfield 15, 3) := by decide +kernel
theorem dX0_follow_12 : decode cX0_follow 12 = .ok (.ifCond .le 15, 3) := by decide +kernel
theorem dX0_follow_15 : decode cX0_follow 15 = .ok (.aload_n 0, 1) := by decide +kernel
theorem dX0_follow_16 : decode cX0_follow 16 = .ok (.getfield 11, 3) := by decide +kernel
theorem dX0_follow_19 : decode cX0_follow 19 = .ok (.iconst 0, 1) := by decide +kernel
theorem dX0_follow_20 : decode cX0_follow 20 = .ok (.laload, 1) := by decide +kernel
theorem dX0_follow_21 : decode cX0_follow 21 = .ok (.lload_n 2, 1) := by decide +kernel
theorem dX0_follow_22 : decode cX0_follow 22 = .ok (.lcmp, 1) := by decide +kernel
theorem dX0_follow_23 : decode cX0_follow 23 = .ok (.ifCond .ne 4, 3) := by decide +kernel
theorem dX0_follow_26 : decode cX0_follow 26 = .ok (.return_, 1) := by decide +kernel
theorem dX0_follow_27 : decode cX0_follow 27 = .ok (.aload_n 0, 1) := by decide +kernel
theorem dX0_follow_28 : decode cX0_follow 28 = .ok (.iload_n 1, 1) := by decide +kernel
theorem dX0_follow_29 : decode cX0_follow 29 = .ok (.putfield 19, 3) := by decide +kernel
theorem dX0_follow_32 : decode cX0_follow 32 = .ok (.aload_n 0, 1) := by decide +kernel
theorem dX0_follow_33 : decode cX0_follow 33 = .ok (.getfield 11, 3) := by decide +kernel
theorem dX0_follow_36 : decode cX0_follow 36 = .ok (.iconst 0, 1) := by decide +kernel
theorem dX0_follow_37 : decode cX0_follow 37 = .ok (.lload_n 2, 1) := by decide +kernel
theorem dX0_follow_38 : decode cX0_follow 38 = .ok (.lastore, 1) := by decide +kernel
theorem dX0_follow_39 : decode cX0_follow 39 = .ok (.aload_n 0, 1) := by decide +kernel
theorem dX0_follow_40 : decode cX0_follow 40 = .ok (.iconst 1, 1) := by decide +kernel
theorem dX0_follow_41 : decode cX0_follow 41 = .ok (.putfield 15, 3) := by decide +kernel
theorem dX0_follow_44 : decode cX0_follow 44 = .ok (.aload_n 0, 1) := by decide +kernel
theorem dX0_follow_45 : decode cX0_follow 45 = .ok (.lload_n 2, 1) := by decide +kernel
theorem dX0_follow_46 : decode cX0_follow 46 = .ok (.putfield 31, 3) := by decide +kernel
theorem dX0_follow_49 : decode cX0_follow 49 = .ok (.aload_n 0, 1) := by decide +kernel
theorem dX0_follow_50 : decode cX0_follow 50 = .ok (.iconst 0, 1) := by decide +kernel
theorem dX0_follow_51 : decode cX0_follow 51 = .ok (.putfield 28, 3) := by decide +kernel
theorem dX0_follow_54 : decode cX0_follow 54 = .ok (.iconst 1, 1) := by decide +kernel
theorem dX0_follow_55 : decode cX0_follow 55 = .ok (.istore 4, 2) := by decide +kernel
theorem dX0_follow_57 : decode cX0_follow 57 = .ok (.iconst 1, 1) := by decide +kernel
theorem dX0_follow_58 : decode cX0_follow 58 = .ok (.istore 5, 2) := by decide +kernel
theorem dX0_follow_60 : decode cX0_follow 60 = .ok (.iload 4, 2) := by decide +kernel
theorem dX0_follow_62 : decode cX0_follow 62 = .ok (.ifCond .eq 43, 3) := by decide +kernel
theorem dX0_follow_65 : decode cX0_follow 65 = .ok (.iload 5, 2) := by decide +kernel
theorem dX0_follow_67 : decode cX0_follow 67 = .ok (.sipush 201, 3) := by decide +kernel
theorem dX0_follow_70 : decode cX0_follow 70 = .ok (.if_icmp .ge 35, 3) := by decide +kernel
theorem dX0_follow_73 : decode cX0_follow 73 = .ok (.aload_n 0, 1) := by decide +kernel
theorem dX0_follow_74 : decode cX0_follow 74 = .ok (.aload_n 0, 1) := by decide +kernel
theorem dX0_follow_75 : decode cX0_follow 75 = .ok (.getfield 35, 3) := by decide +kernel
theorem dX0_follow_78 : decode cX0_follow 78 = .ok (.aload_n 0, 1) := by decide +kernel
theorem dX0_follow_79 : decode cX0_follow 79 = .ok (.getfield 19, 3) := by decide +kernel
theorem dX0_follow_82 : decode cX0_follow 82 = .ok (.aload_n 0, 1) := by decide +kernel
theorem dX0_follow_83 : decode cX0_follow 83 = .ok (.getfield 11, 3) := by decide +kernel
theorem dX0_follow_86 : decode cX0_follow 86 = .ok (.iload 5, 2) := by decide +kernel
theorem dX0_follow_88 : decode cX0_follow 88 = .ok (.iconst 1, 1) := by decide +kernel
theorem dX0_follow_89 : decode cX0_follow 89 = .ok (.isub, 1) := by decide +kernel
theorem dX0_follow_90 : decode cX0_follow 90 = .ok (.laload, 1) := by decide +kernel
theorem dX0_follow_91 : decode cX0_follow 91 = .ok (.invokevirtual 39, 3) := by decide +kernel
theorem dX0_follow_94 : decode cX0_follow 94 = .ok (.invokevirtual 45, 3) := by decide +kernel
theorem dX0_follow_97 : decode cX0_follow 97 = .ok (.istore 4, 2) := by decide +kernel
theorem dX0_follow_99 : decode cX0_follow 99 = .ok (.iinc 5 1, 3) := by decide +kernel
theorem dX0_follow_102 : decode cX0_follow 102 = .ok (.goto (-42), 3) := by decide +kernel
theorem dX0_follow_105 : decode cX0_follow 105 = .ok (.iload 4, 2) := by decide +kernel
theorem dX0_follow_107 : decode cX0_follow 107 = .ok (.ifCond .eq 16, 3) := by decide +kernel
theorem dX0_follow_110 : decode cX0_follow 110 = .ok (.aload_n 0, 1) := by decide +kernel
theorem dX0_follow_111 : decode cX0_follow 111 = .ok (.iconst 2, 1) := by decide +kernel
theorem dX0_follow_112 : decode cX0_follow 112 = .ok (.putfield 22, 3) := by decide +kernel
theorem dX0_follow_115 : decode cX0_follow 115 = .ok (.aload_n 0, 1) := by decide +kernel
theorem dX0_follow_116 : decode cX0_follow 116 = .ok (.aload_n 0, 1) := by decide +kernel
theorem dX0_follow_117 : decode cX0_follow 117 = .ok (.getfield 15, 3) := by decide +kernel
theorem dX0_follow_120 : decode cX0_follow 120 = .ok (.putfield 25, 3) := by decide +kernel
theorem dX0_follow_123 : decode cX0_follow 123 = .ok (.return_, 1) := by decide +kernel
set_option maxRecDepth 20000 in
theorem ggX0_goesOn_X0_placeOf : GoodIn wsX0_goesOn wsX0_placeOf := goodIn_r _ [16, 2, 6, 17, 18, 19, 20, 21, 22, 23, 24] rfl (by decide +kernel)
set_option maxRecDepth 20000 in
theorem gX0_goesOn_X0_placeOf : GoodIn wsX0_goesOn (wsV RX0 51 RX0 yX0_placeOf wsX0_placeOf) := goodIn_app (goodIn_sub (List.forall_mem_cons.mpr ⟨List.mem_of_getElem? (i := 12) rfl, List.forall_mem_cons.mpr ⟨List.mem_of_getElem? (i := 13) rfl, List.forall_mem_cons.mpr ⟨List.mem_of_getElem? (i := 14) rfl, List.forall_mem_cons.mpr ⟨List.mem_of_getElem? (i := 15) rfl, fun _ h => absurd h List.not_mem_nil⟩⟩⟩⟩) (by decide +kernel)) ggX0_goesOn_X0_placeOf
theorem dX0_goesOn_0 : decode cX0_goesOn 0 = .ok (.lload_n 1, 1) := by decide +kernel
theorem dX0_goesOn_1 : decode cX0_goesOn 1 = .ok (.lconst 0, 1) := by decide +kernel
theorem dX0_goesOn_2 : decode cX0_goesOn 2 = .ok (.lcmp, 1) := by decide +kernel
theorem dX0_goesOn_3 : decode cX0_goesOn 3 = .ok (.ifCond .eq 21, 3) := by decide +kernel
theorem dX0_goesOn_6 : decode cX0_goesOn 6 = .ok (.lload_n 1, 1) := by decide +kernel
theorem dX0_goesOn_7 : decode cX0_goesOn 7 = .ok (.ldc2_w 49, 3) := by decide +kernel
theorem dX0_goesOn_10 : decode cX0_goesOn 10 = .ok (.lcmp, 1) := by decide +kernel
theorem dX0_goesOn_11 : decode cX0_goesOn 11 = .ok (.ifCond .gt 13, 3) := by decide +kernel
theorem dX0_goesOn_14 : decode cX0_goesOn 14 = .ok (.aload_n 0, 1) := by decide +kernel
theorem dX0_goesOn_15 : decode cX0_goesOn 15 = .ok (.getfield 15, 3) := by decide +kernel
theorem dX0_goesOn_18 : decode cX0_goesOn 18 = .ok (.sipush 201, 3) := by decide +kernel
theorem dX0_goesOn_21 : decode cX0_goesOn 21 = .ok (.if_icmp .lt 28, 3) := by decide +kernel
theorem dX0_goesOn_24 : decode cX0_goesOn 24 = .ok (.aload_n 0, 1) := by decide +kernel
theorem dX0_goesOn_25 : decode cX0_goesOn 25 = .ok (.lload_n 1, 1) := by decide +kernel
theorem dX0_goesOn_26 : decode cX0_goesOn 26 = .ok (.lconst 0, 1) := by decide +kernel
theorem dX0_goesOn_27 : decode cX0_goesOn 27 = .ok (.lcmp, 1) := by decide +kernel
theorem dX0_goesOn_28 : decode cX0_goesOn 28 = .ok (.ifCond .ne 7, 3) := by decide +kernel
theorem dX0_goesOn_31 : decode cX0_goesOn 31 = .ok (.iconst 0, 1) := by decide +kernel
theorem dX0_goesOn_32 : decode cX0_goesOn 32 = .ok (.goto 4, 3) := by decide +kernel
theorem dX0_goesOn_35 : decode cX0_goesOn 35 = .ok (.iconst 2, 1) := by decide +kernel
theorem dX0_goesOn_36 : decode cX0_goesOn 36 = .ok (.putfield 22, 3) := by decide +kernel
theorem dX0_goesOn_39 : decode cX0_goesOn 39 = .ok (.aload_n 0, 1) := by decide +kernel
theorem dX0_goesOn_40 : decode cX0_goesOn 40 = .ok (.aload_n 0, 1) := by decide +kernel
theorem dX0_goesOn_41 : decode cX0_goesOn 41 = .ok (.getfield 15, 3) := by decide +kernel
theorem dX0_goesOn_44 : decode cX0_goesOn 44 = .ok (.putfield 25, 3) := by decide +kernel
theorem dX0_goesOn_47 : decode cX0_goesOn 47 = .ok (.iconst 0, 1) := by decide +kernel
theorem dX0_goesOn_48 : decode cX0_goesOn 48 = .ok (.ireturn, 1) := by decide +kernel
theorem dX0_goesOn_49 : decode cX0_goesOn 49 = .ok (.aload_n 0, 1) := by decide +kernel
theorem dX0_goesOn_50 : decode cX0_goesOn 50 = .ok (.lload_n 1, 1) := by decide +kernel
theorem dX0_goesOn_51 : decode cX0_goesOn 51 = .ok (.invokevirtual 51, 3) := by decide +kernel
theorem dX0_goesOn_54 : decode cX0_goesOn 54 = .ok (.istore_n 3, 1) := by decide +kernel
theorem dX0_goesOn_55 : decode cX0_goesOn 55 = .ok (.iload_n 3, 1) := by decide +kernel
theorem dX0_goesOn_56 : decode cX0_goesOn 56 = .ok (.aload_n 0, 1) := by decide +kernel
theorem dX0_goesOn_57 : decode cX0_goesOn 57 = .ok (.getfield 15, 3) := by decide +kernel
theorem dX0_goesOn_60 : decode cX0_goesOn 60 = .ok (.if_icmp .ge 25, 3) := by decide +kernel
theorem dX0_goesOn_63 : decode cX0_goesOn 63 = .ok (.aload_n 0, 1) := by decide +kernel
theorem dX0_goesOn_64 : decode cX0_goesOn 64 = .ok (.iconst 1, 1) := by decide +kernel
theorem dX0_goesOn_65 : decode cX0_goesOn 65 = .ok (.putfield 22, 3) := by decide +kernel
theorem dX0_goesOn_68 : decode cX0_goesOn 68 = .ok (.aload_n 0, 1) := by decide +kernel
theorem dX0_goesOn_69 : decode cX0_goesOn 69 = .ok (.iload_n 3, 1) := by decide +kernel
theorem dX0_goesOn_70 : decode cX0_goesOn 70 = .ok (.putfield 25, 3) := by decide +kernel
theorem dX0_goesOn_73 : decode cX0_goesOn 73 = .ok (.aload_n 0, 1) := by decide +kernel
theorem dX0_goesOn_74 : decode cX0_goesOn 74 = .ok (.aload_n 0, 1) := by decide +kernel
theorem dX0_goesOn_75 : decode cX0_goesOn 75 = .ok (.getfield 15, 3) := by decide +kernel
theorem dX0_goesOn_78 : decode cX0_goesOn 78 = .ok (.iload_n 3, 1) := by decide +kernel
theorem dX0_goesOn_79 : decode cX0_goesOn 79 = .ok (.isub, 1) := by decide +kernel
theorem dX0_goesOn_80 : decode cX0_goesOn 80 = .ok (.putfield 28, 3) := by decide +kernel
theorem dX0_goesOn_83 : decode cX0_goesOn 83 = .ok (.iconst 0, 1) := by decide +kernel
theorem dX0_goesOn_84 : decode cX0_goesOn 84 = .ok (.ireturn, 1) := by decide +kernel
theorem dX0_goesOn_85 : decode cX0_goesOn 85 = .ok (.aload_n 0, 1) := by decide +kernel
theorem dX0_goesOn_86 : decode cX0_goesOn 86 = .ok (.getfield 11, 3) := by decide +kernel
theorem dX0_goesOn_89 : decode cX0_goesOn 89 = .ok (.aload_n 0, 1) := by decide +kernel
theorem dX0_goesOn_90 : decode cX0_goesOn 90 = .ok (.getfield 15, 3) := by decide +kernel
theorem dX0_goesOn_93 : decode cX0_goesOn 93 = .ok (.lload_n 1, 1) := by decide +kernel
theorem dX0_goesOn_94 : decode cX0_goesOn 94 = .ok (.lastore, 1) := by decide +kernel
theorem dX0_goesOn_95 : decode cX0_goesOn 95 = .ok (.aload_n 0, 1) := by decide +kernel
theorem dX0_goesOn_96 : decode cX0_goesOn 96 = .ok (.dup, 1) := by decide +kernel
theorem dX0_goesOn_97 : decode cX0_goesOn 97 = .ok (.getfield 15, 3) := by decide +kernel
theorem dX0_goesOn_100 : decode cX0_goesOn 100 = .ok (.iconst 1, 1) := by decide +kernel
theorem dX0_goesOn_101 : decode cX0_goesOn 101 = .ok (.iadd, 1) := by decide +kernel
theorem dX0_goesOn_102 : decode cX0_goesOn 102 = .ok (.putfield 15, 3) := by decide +kernel
theorem dX0_goesOn_105 : decode cX0_goesOn 105 = .ok (.aload_n 0, 1) := by decide +kernel
theorem dX0_goesOn_106 : decode cX0_goesOn 106 = .ok (.aload_n 0, 1) := by decide +kernel
theorem dX0_goesOn_107 : decode cX0_goesOn 107 = .ok (.getfield 31, 3) := by decide +kernel
theorem dX0_goesOn_110 : decode cX0_goesOn 110 = .ok (.lload_n 1, 1) := by decide +kernel
theorem dX0_goesOn_111 : decode cX0_goesOn 111 = .ok (.invokestatic 55, 3) := by decide +kernel
theorem dX0_goesOn_114 : decode cX0_goesOn 114 = .ok (.putfield 31, 3) := by decide +kernel
theorem dX0_goesOn_117 : decode cX0_goesOn 117 = .ok (.iconst 1, 1) := by decide +kernel
theorem dX0_goesOn_118 : decode cX0_goesOn 118 = .ok (.ireturn, 1) := by decide +kernel
theorem dX0_placeOf_0 : decode cX0_placeOf 0 = .ok (.iconst 0, 1) := by decide +kernel
theorem dX0_placeOf_1 : decode cX0_placeOf 1 = .ok (.istore_n 3, 1) := by decide +kernel
theorem dX0_placeOf_2 : decode cX0_placeOf 2 = .ok (.iload_n 3, 1) := by decide +kernel
theorem dX0_placeOf_3 : decode cX0_placeOf 3 = .ok (.aload_n 0, 1) := by decide +kernel
theorem dX0_placeOf_4 : decode cX0_placeOf 4 = .ok (.getfield 15, 3) := by decide +kernel
theorem dX0_placeOf_7 : decode cX0_placeOf 7 = .ok (.if_icmp .ge 29, 3) := by decide +kernel
theorem dX0_placeOf_10 : decode cX0_placeOf 10 = .ok (.iload_n 3, 1) := by decide +kernel
theorem dX0_placeOf_11 : decode cX0_placeOf 11 = .ok (.sipush 201, 3) := by decide +kernel
theorem dX0_placeOf_14 : decode cX0_placeOf 14 = .ok (.if_icmp .ge 22, 3) := by decide +kernel
theorem dX0_placeOf_17 : decode cX0_placeOf 17 = .ok (.aload_n 0, 1) := by decide +kernel
theorem dX0_placeOf_18 : decode cX0_placeOf 18 = .ok (.getfield 11, 3) := by decide +kernel
theorem dX0_placeOf_21 : decode cX0_placeOf 21 = .ok (.iload_n 3, 1) := by decide +kernel
theorem dX0_placeOf_22 : decode cX0_placeOf 22 = .ok (.laload, 1) := by decide +kernel
theorem dX0_placeOf_23 : decode cX0_placeOf 23 = .ok (.lload_n 1, 1) := by decide +kernel
theorem dX0_placeOf_24 : decode cX0_placeOf 24 = .ok (.lcmp, 1) := by decide +kernel
theorem dX0_placeOf_25 : decode cX0_placeOf 25 = .ok (.ifCond .ne 5, 3) := by decide +kernel
theorem dX0_placeOf_28 : decode cX0_placeOf 28 = .ok (.iload_n 3, 1) := by decide +kernel
theorem dX0_placeOf_29 : decode cX0_placeOf 29 = .ok (.ireturn, 1) := by decide +kernel
theorem dX0_placeOf_30 : decode cX0_placeOf 30 = .ok (.iinc 3 1, 3) := by decide +kernel
theorem dX0_placeOf_33 : decode cX0_placeOf 33 = .ok (.goto (-31), 3) := by decide +kernel
theorem dX0_placeOf_36 : decode cX0_placeOf 36 = .ok (.aload_n 0, 1) := by decide +kernel
theorem dX0_placeOf_37 : decode cX0_placeOf 37 = .ok (.getfield 15, 3) := by decide +kernel
theorem dX0_placeOf_40 : decode cX0_placeOf 40 = .ok (.ireturn, 1) := by decide +kernel
theorem dX0_numberAt_0 : decode cX0_numberAt 0 = .ok (.iload_n 1, 1) := by decide +kernel
theorem dX0_numberAt_1 : decode cX0_numberAt 1 = .ok (.istore_n 2, 1) := by decide +kernel
theorem dX0_numberAt_2 : decode cX0_numberAt 2 = .ok (.aload_n 0, 1) := by decide +kernel
theorem dX0_numberAt_3 : decode cX0_numberAt 3 = .ok (.getfield 22, 3) := by decide +kernel
theorem dX0_numberAt_6 : decode cX0_numberAt 6 = .ok (.iconst 1, 1) := by decide +kernel
theorem dX0_numberAt_7 : decode cX0_numberAt 7 = .ok (.if_icmp .ne 35, 3) := by decide +kernel
theorem dX0_numberAt_10 : decode cX0_numberAt 10 = .ok (.iload_n 1, 1) := by decide +kernel
theorem dX0_numberAt_11 : decode cX0_numberAt 11 = .ok (.aload_n 0, 1) := by decide +kernel
theorem dX0_numberAt_12 : decode cX0_numberAt 12 = .ok (.getfield 25, 3) := by decide +kernel
theorem dX0_numberAt_15 : decode cX0_numberAt 15 = .ok (.if_icmp .lt 27, 3) := by decide +kernel
theorem dX0_numberAt_18 : decode cX0_numberAt 18 = .ok (.aload_n 0, 1) := by decide +kernel
theorem dX0_numberAt_19 : decode cX0_numberAt 19 = .ok (.getfield 28, 3) := by decide +kernel
theorem dX0_numberAt_22 : decode cX0_numberAt 22 = .ok (.ifCond .le 20, 3) := by decide +kernel
theorem dX0_numberAt_25 : decode cX0_numberAt 25 = .ok (.aload_n 0, 1) := by decide +kernel
theorem dX0_numberAt_26 : decode cX0_numberAt 26 = .ok (.getfield 25, 3) := by decide +kernel
theorem dX0_numberAt_29 : decode cX0_numberAt 29 = .ok (.iload_n 1, 1) := by decide +kernel
theorem dX0_numberAt_30 : decode cX0_numberAt 30 = .ok (.aload_n 0, 1) := by decide +kernel
theorem dX0_numberAt_31 : decode cX0_numberAt 31 = .ok (.getfield 25, 3) := by decide +kernel
theorem dX0_numberAt_34 : decode cX0_numberAt 34 = .ok (.isub, 1) := by decide +kernel
theorem dX0_numberAt_35 : decode cX0_numberAt 35 = .ok (.aload_n 0, 1) := by decide +kernel
theorem dX0_numberAt_36 : decode cX0_numberAt 36 = .ok (.getfield 28, 3) := by decide +kernel
theorem dX0_numberAt_39 : decode cX0_numberAt 39 = .ok (.irem, 1) := by decide +kernel
theorem dX0_numberAt_40 : decode cX0_numberAt 40 = .ok (.iadd, 1) := by decide +kernel
theorem dX0_numberAt_41 : decode cX0_numberAt 41 = .ok (.istore_n 2, 1) := by decide +kernel
theorem dX0_numberAt_42 : decode cX0_numberAt 42 = .ok (.aload_n 0, 1) := by decide +kernel
theorem dX0_numberAt_43 : decode cX0_numberAt 43 = .ok (.getfield 22, 3) := by decide +kernel
theorem dX0_numberAt_46 : decode cX0_numberAt 46 = .ok (.ifCond .ne 13, 3) := by decide +kernel
theorem dX0_numberAt_49 : decode cX0_numberAt 49 = .ok (.iload_n 2, 1) := by decide +kernel
theorem dX0_numberAt_50 : decode cX0_numberAt 50 = .ok (.aload_n 0, 1) := by decide +kernel
theorem dX0_numberAt_51 : decode cX0_numberAt 51 = .ok (.getfield 25, 3) := by decide +kernel
theorem dX0_numberAt_54 : decode cX0_numberAt 54 = .ok (.if_icmp .ne 5, 3) := by decide +kernel
theorem dX0_numberAt_57 : decode cX0_numberAt 57 = .ok (.lconst 0, 1) := by decide +kernel
theorem dX0_numberAt_58 : decode cX0_numberAt 58 = .ok (.lreturn, 1) := by decide +kernel
theorem dX0_numberAt_59 : decode cX0_numberAt 59 = .ok (.iload_n 2, 1) := by decide +kernel
theorem dX0_numberAt_60 : decode cX0_numberAt 60 = .ok (.ifCond .lt 27, 3) := by decide +kernel
theorem dX0_numberAt_63 : decode cX0_numberAt 63 = .ok (.iload_n 2, 1) := by decide +kernel
theorem dX0_numberAt_64 : decode cX0_numberAt 64 = .ok (.aload_n 0, 1) := by decide +kernel
theorem dX0_numberAt_65 : decode cX0_numberAt 65 = .ok (.getfield 15, 3) := by decide +kernel
theorem dX0_numberAt_68 : decode cX0_numberAt 68 = .ok (.if_icmp .ge 19, 3) := by decide +kernel
theorem dX0_numberAt_71 : decode cX0_numberAt 71 = .ok (.iload_n 2, 1) := by decide +kernel
theorem dX0_numberAt_72 : decode cX0_numberAt 72 = .ok (.sipush 201, 3) := by decide +kernel
theorem dX0_numberAt_75 : decode cX0_numberAt 75 = .ok (.if_icmp .ge 12, 3) := by decide +kernel
theorem dX0_numberAt_78 : decode cX0_numberAt 78 = .ok (.aload_n 0, 1) := by decide +kernel
theorem dX0_numberAt_79 : decode cX0_numberAt 79 = .ok (.getfield 11, 3) := by decide +kernel
theorem dX0_numberAt_82 : decode cX0_numberAt 82 = .ok (.iload_n 2, 1) := by decide +kernel
theorem dX0_numberAt_83 : decode cX0_numberAt 83 = .ok (.laload, 1) := by decide +kernel
theorem dX0_numberAt_84 : decode cX0_numberAt 84 = .ok (.goto 6, 3) := by decide +kernel
theorem dX0_numberAt_87 : decode cX0_numberAt 87 = .ok (.ldc2_w 61, 3) := by decide +kernel
theorem dX0_numberAt_90 : decode cX0_numberAt 90 = .ok (.lreturn, 1) := by decide +kernel
theorem dX1_init_0 : decode cX1_init 0 = .ok (.aload_n 0, 1) := by decide +kernel
theorem dX1_init_1 : decode cX1_init 1 = .ok (.invokespecial 3, 3) := by decide +kernel
theorem dX1_init_4 : decode cX1_init 4 = .ok (.aload_n 0, 1) := by decide +kernel
theorem dX1_init_5 : decode cX1_init 5 = .ok (.aload_n 1, 1) := by decide +kernel
theorem dX1_init_6 : decode cX1_init 6 = .ok (.putfield 9, 3) := by decide +kernel
theorem dX1_init_9 : decode cX1_init 9 = .ok (.aload_n 0, 1) := by decide +kernel
theorem dX1_init_10 : decode cX1_init 10 = .ok (.aload_n 2, 1) := by decide +kernel
theorem dX1_init_11 : decode cX1_init 11 = .ok (.putfield 15, 3) := by decide +kernel
theorem dX1_init_14 : decode cX1_init 14 = .ok (.return_, 1) := by decide +kernel
set_option maxRecDepth 20000 in
theorem ggX1_fewest_X6_splitUp : GoodIn wsX1_fewest wsX6_splitUp := goodIn_r _ [13, 14, 15, 16, 17, 18, 19, 20, 12, 21, 22, 23, 61, 62, 63, 64, 65, 66, 67, 68, 69, 70] rfl (by decide +kernel)
set_option maxRecDepth 20000 in
theorem gX1_fewest_X6_splitUp : GoodIn wsX1_fewest (wsV RX1 19 RX6 yX6_splitUp wsX6_splitUp) := goodIn_app (goodIn_sub (List.forall_mem_cons.mpr ⟨List.mem_of_getElem? (i := 9) rfl, List.forall_mem_cons.mpr ⟨List.mem_of_getElem? (i := 10) rfl, List.forall_mem_cons.mpr ⟨List.mem_of_getElem? (i := 11) rfl, List.forall_mem_cons.mpr ⟨List.mem_of_getElem? (i := 12) rfl, fun _ h => absurd h List.not_mem_nil⟩⟩⟩⟩) (by decide +kernel)) ggX1_fewest_X6_splitUp
set_option maxRecDepth 20000 in
theorem ggX1_fewest_X6_listParts : GoodIn wsX1_fewest wsX6_listParts := goodIn_r _ [27, 28, 14, 29, 30, 15, 23, 22, 31, 32, 33, 12, 34, 35, 36, 37, 61, 62, 63, 64, 65, 66, 67, 68] rfl (by decide +kernel)
set_option maxRecDepth 20000 in
theorem gX1_fewest_X6_listParts : GoodIn wsX1_fewest (wsV RX1 25 RX6 yX6_listParts wsX6_listParts) := goodIn_app (goodIn_sub (List.forall_mem_cons.mpr ⟨List.mem_of_getElem? (i := 24) rfl, List.forall_mem_cons.mpr ⟨List.mem_of_getElem? (i := 25) rfl, List.forall_mem_cons.mpr ⟨List.mem_of_getElem? (i := 26) rfl, List.forall_mem_cons.mpr ⟨List.mem_of_getElem? (i := 12) rfl, fun _ h => absurd h List.not_mem_nil⟩⟩⟩⟩) (by decide +kernel)) ggX1_fewest_X6_listParts
set_option maxRecDepth 20000 in
theorem ggX1_fewest_X1_sumOfParts : GoodIn wsX1_fewest wsX1_sumOfParts := goodIn_r _ [42, 1, 59, 60, 61, 62, 63, 64, 65, 66, 67, 68] rfl (by decide +kernel)
set_option maxRecDepth 20000 in
theorem gX1_fewest_X1_sumOfParts : GoodIn wsX1_fewest (wsV RX1 28 RX1 yX1_sumOfParts wsX1_sumOfParts) := goodIn_app (goodIn_sub (List.forall_mem_cons.mpr ⟨List.mem_of_getElem? (i := 38) rfl, List.forall_mem_cons.mpr ⟨List.mem_of_getElem? (i := 39) rfl, List.forall_mem_cons.mpr ⟨List.mem_of_getElem? (i := 40) rfl, List.forall_mem_cons.mpr ⟨List.mem_of_getElem? (i := 41) rfl, fun _ h => absurd h List.not_mem_nil⟩⟩⟩⟩) (by decide +kernel)) ggX1_fewest_X1_sumOfParts
set_option maxRecDepth 20000 in
theorem ggX1_fewest_X1_borrowed : GoodIn wsX1_fewest wsX1_borrowed := goodIn_r _ [46, 47, 48, 49, 50, 51, 52, 53, 54, 55, 59, 60, 71] rfl (by decide +kernel)
set_option maxRecDepth 20000 in
theorem gX1_fewest_X1_borrowed : GoodIn wsX1_fewest (wsV RX1 32 RX1 yX1_borrowed wsX1_borrowed) := goodIn_app (goodIn_sub (List.forall_mem_cons.mpr ⟨List.mem_of_getElem? (i := 43) rfl, List.forall_mem_cons.mpr ⟨List.mem_of_getElem? (i := 44) rfl, List.forall_mem_cons.mpr ⟨List.mem_of_getElem? (i := 45) rfl, List.forall_mem_cons.mpr ⟨List.mem_of_getElem? (i := 41) rfl, fun _ h => absurd h List.not_mem_nil⟩⟩⟩⟩) (by decide +kernel)) ggX1_fewest_X1_borrowed
set_option maxRecDepth 20000 in
theorem ggX1_fewest_X1_addPart : GoodIn wsX1_fewest wsX1_addPart := goodIn_r _ [58] rfl (by decide +kernel)
set_option maxRecDepth 20000 in
theorem gX1_fewest_X1_addPart : GoodIn wsX1_fewest (va_wsS RX1 53 yX1_addPart wsX1_addPart) := goodIn_app (goodIn_sub (List.forall_mem_cons.mpr ⟨List.mem_of_getElem? (i := 56) rfl, List.forall_mem_cons.mpr ⟨List.mem_of_getElem? (i := 57) rfl, List.forall_mem_cons.mpr ⟨List.mem_of_getElem? (i := 41) rfl, fun _ h => absurd h List.not_mem_nil⟩⟩⟩) (by decide +kernel)) ggX1_fewest_X1_addPart
theorem dX1_fewest_0 : decode cX1_fewest 0 = .ok (.aload_n 0, 1) := by decide +kernel
theorem dX1_fewest_1 : decode cX1_fewest 1 = .ok (.getfield 9, 3) := by decide +kernel
theorem dX1_fewest_4 : decode cX1_fewest 4 = .ok (.iload_n 1, 1) := by decide +kernel
theorem dX1_fewest_5 : decode cX1_fewest 5 = .ok (.i2l, 1) := by decide +kernel
theorem dX1_fewest_6 : decode cX1_fewest 6 = .ok (.invokevirtual 19, 3) := by decide +kernel
theorem dX1_fewest_9 : decode cX1_fewest 9 = .ok (.aload_n 0, 1) := by decide +kernel
theorem dX1_fewest_10 : decode cX1_fewest 10 = .ok (.getfield 9, 3) := by decide +kernel
theorem dX1_fewest_13 : decode cX1_fewest 13 = .ok (.invokevirtual 25, 3) := by decide +kernel
theorem dX1_fewest_16 : decode cX1_fewest 16 = .ok (.aload_n 0, 1) := by decide +kernel
theorem dX1_fewest_17 : decode cX1_fewest 17 = .ok (.invokevirtual 28, 3) := by decide +kernel
theorem dX1_fewest_20 : decode cX1_fewest 20 = .ok (.istore_n 2, 1) := by decide +kernel
theorem dX1_fewest_21 : decode cX1_fewest 21 = .ok (.aload_n 0, 1) := by decide +kernel
theorem dX1_fewest_22 : decode cX1_fewest 22 = .ok (.iload_n 1, 1) := by decide +kernel
theorem dX1_fewest_23 : decode cX1_fewest 23 = .ok (.invokevirtual 32, 3) := by decide +kernel
theorem dX1_fewest_26 : decode cX1_fewest 26 = .ok (.astore_n 3, 1) := by decide +kernel
theorem dX1_fewest_27 : decode cX1_fewest 27 = .ok (.iload_n 2, 1) := by decide +kernel
theorem dX1_fewest_28 : decode cX1_fewest 28 = .ok (.iload_n 1, 1) := by decide +kernel
theorem dX1_fewest_29 : decode cX1_fewest 29 = .ok (.if_icmp .lt 14, 3) := by decide +kernel
theorem dX1_fewest_32 : decode cX1_fewest 32 = .ok (.iload_n 1, 1) := by decide +kernel
theorem dX1_fewest_33 : decode cX1_fewest 33 = .ok (.iconst 1, 1) := by decide +kernel
theorem dX1_fewest_34 : decode cX1_fewest 34 = .ok (.if_icmp .lt 9, 3) := by decide +kernel
theorem dX1_fewest_37 : decode cX1_fewest 37 = .ok (.iload_n 1, 1) := by decide +kernel
theorem dX1_fewest_38 : decode cX1_fewest 38 = .ok (.aload_n 3, 1) := by decide +kernel
theorem dX1_fewest_39 : decode cX1_fewest 39 = .ok (.arraylength, 1) := by decide +kernel
theorem dX1_fewest_40 : decode cX1_fewest 40 = .ok (.if_icmp .lt 6, 3) := by decide +kernel
theorem dX1_fewest_43 : decode cX1_fewest 43 = .ok (.bipush (-4), 2) := by decide +kernel
theorem dX1_fewest_45 : decode cX1_fewest 45 = .ok (.ireturn, 1) := by decide +kernel
theorem dX1_fewest_46 : decode cX1_fewest 46 = .ok (.aload_n 3, 1) := by decide +kernel
theorem dX1_fewest_47 : decode cX1_fewest 47 = .ok (.iconst 0, 1) := by decide +kernel
theorem dX1_fewest_48 : decode cX1_fewest 48 = .ok (.iconst 0, 1) := by decide +kernel
theorem dX1_fewest_49 : decode cX1_fewest 49 = .ok (.iastore, 1) := by decide +kernel
theorem dX1_fewest_50 : decode cX1_fewest 50 = .ok (.iconst 0, 1) := by decide +kernel
theorem dX1_fewest_51 : decode cX1_fewest 51 = .ok (.istore 4, 2) := by decide +kernel
theorem dX1_fewest_53 : decode cX1_fewest 53 = .ok (.iconst 0, 1) := by decide +kernel
theorem dX1_fewest_54 : decode cX1_fewest 54 = .ok (.istore 5, 2) := by decide +kernel
theorem dX1_fewest_56 : decode cX1_fewest 56 = .ok (.iload 5, 2) := by decide +kernel
theorem dX1_fewest_58 : decode cX1_fewest 58 = .ok (.aload_n 0, 1) := by decide +kernel
theorem dX1_fewest_59 : decode cX1_fewest 59 = .ok (.getfield 9, 3) := by decide +kernel
theorem dX1_fewest_62 : decode cX1_fewest 62 = .ok (.getfield 36, 3) := by decide +kernel
theorem dX1_fewest_65 : decode cX1_fewest 65 = .ok (.iconst 1, 1) := by decide +kernel
theorem dX1_fewest_66 : decode cX1_fewest 66 = .ok (.isub, 1) := by decide +kernel
theorem dX1_fewest_67 : decode cX1_fewest 67 = .ok (.if_icmp .ge 75, 3) := by decide +kernel
theorem dX1_fewest_70 : decode cX1_fewest 70 = .ok (.iload 5, 2) := by decide +kernel
theorem dX1_fewest_72 : decode cX1_fewest 72 = .ok (.aload_n 0, 1) := by decide +kernel
theorem dX1_fewest_73 : decode cX1_fewest 73 = .ok (.getfield 9, 3) := by decide +kernel
theorem dX1_fewest_76 : decode cX1_fewest 76 = .ok (.getfield 40, 3) := by decide +kernel
theorem dX1_fewest_79 : decode cX1_fewest 79 = .ok (.arraylength, 1) := by decide +kernel
theorem dX1_fewest_80 : decode cX1_fewest 80 = .ok (.if_icmp .ge 62, 3) := by decide +kernel
theorem dX1_fewest_83 : decode cX1_fewest 83 = .ok (.aload_n 0, 1) := by decide +kernel
theorem dX1_fewest_84 : decode cX1_fewest 84 = .ok (.getfield 9, 3) := by decide +kernel
theorem dX1_fewest_87 : decode cX1_fewest 87 = .ok (.getfield 40, 3) := by decide +kernel
theorem dX1_fewest_90 : decode cX1_fewest 90 = .ok (.iload 5, 2) := by decide +kernel
theorem dX1_fewest_92 : decode cX1_fewest 92 = .ok (.laload, 1) := by decide +kernel
theorem dX1_fewest_93 : decode cX1_fewest 93 = .ok (.l2i, 1) := by decide +kernel
theorem dX1_fewest_94 : decode cX1_fewest 94 = .ok (.istore 6, 2) := by decide +kernel
theorem dX1_fewest_96 : decode cX1_fewest 96 = .ok (.iload_n 2, 1) := by decide +kernel
theorem dX1_fewest_97 : decode cX1_fewest 97 = .ok (.iload 6, 2) := by decide +kernel
theorem dX1_fewest_99 : decode cX1_fewest 99 = .ok (.isub, 1) := by decide +kernel
theorem dX1_fewest_100 : decode cX1_fewest 100 = .ok (.istore_n 2, 1) := by decide +kernel
theorem dX1_fewest_101 : decode cX1_fewest 101 = .ok (.iload 4, 2) := by decide +kernel
theorem dX1_fewest_103 : decode cX1_fewest 103 = .ok (.iload 6, 2) := by decide +kernel
theorem dX1_fewest_105 : decode cX1_fewest 105 = .ok (.iadd, 1) := by decide +kernel
theorem dX1_fewest_106 : decode cX1_fewest 106 = .ok (.istore 4, 2) := by decide +kernel
theorem dX1_fewest_108 : decode cX1_fewest 108 = .ok (.iload 6, 2) := by decide +kernel
theorem dX1_fewest_110 : decode cX1_fewest 110 = .ok (.iload_n 1, 1) := by decide +kernel
theorem dX1_fewest_111 : decode cX1_fewest 111 = .ok (.iload_n 2, 1) := by decide +kernel
theorem dX1_fewest_112 : decode cX1_fewest 112 = .ok (.isub, 1) := by decide +kernel
theorem dX1_fewest_113 : decode cX1_fewest 113 = .ok (.invokestatic 44, 3) := by decide +kernel
theorem dX1_fewest_116 : decode cX1_fewest 116 = .ok (.istore 7, 2) := by decide +kernel
theorem dX1_fewest_118 : decode cX1_fewest 118 = .ok (.iload_n 1, 1) := by decide +kernel
theorem dX1_fewest_119 : decode cX1_fewest 119 = .ok (.iload 4, 2) := by decide +kernel
theorem dX1_fewest_121 : decode cX1_fewest 121 = .ok (.invokestatic 50, 3) := by decide +kernel
theorem dX1_fewest_124 : decode cX1_fewest 124 = .ok (.istore 8, 2) := by decide +kernel
theorem dX1_fewest_126 : decode cX1_fewest 126 = .ok (.aload_n 3, 1) := by decide +kernel
theorem dX1_fewest_127 : decode cX1_fewest 127 = .ok (.iload 6, 2) := by decide +kernel
theorem dX1_fewest_129 : decode cX1_fewest 129 = .ok (.iload 7, 2) := by decide +kernel
theorem dX1_fewest_131 : decode cX1_fewest 131 = .ok (.iload 8, 2) := by decide +kernel
theorem dX1_fewest_133 : decode cX1_fewest 133 = .ok (.invokestatic 53, 3) := by decide +kernel
theorem dX1_fewest_136 : decode cX1_fewest 136 = .ok (.iinc 5 1, 3) := by decide +kernel
theorem dX1_fewest_139 : decode cX1_fewest 139 = .ok (.goto (-83), 3) := by decide +kernel
theorem dX1_fewest_142 : decode cX1_fewest 142 = .ok (.aload_n 3, 1) := by decide +kernel
theorem dX1_fewest_143 : decode cX1_fewest 143 = .ok (.iload_n 1, 1) := by decide +kernel
theorem dX1_fewest_144 : decode cX1_fewest 144 = .ok (.iaload, 1) := by decide +kernel
theorem dX1_fewest_145 : decode cX1_fewest 145 = .ok (.sipush 10000, 3) := by decide +kernel
theorem dX1_fewest_148 : decode cX1_fewest 148 = .ok (.if_icmp .ge 9, 3) := by decide +kernel
theorem dX1_fewest_151 : decode cX1_fewest 151 = .ok (.aload_n 3, 1) := by decide +kernel
theorem dX1_fewest_152 : decode cX1_fewest 152 = .ok (.iload_n 1, 1) := by decide +kernel
theorem dX1_fewest_153 : decode cX1_fewest 153 = .ok (.iaload, 1) := by decide +kernel
theorem dX1_fewest_154 : decode cX1_fewest 154 = .ok (.goto 5, 3) := by decide +kernel
theorem dX1_fewest_157 : decode cX1_fewest 157 = .ok (.bipush (-4), 2) := by decide +kernel
theorem dX1_fewest_159 : decode cX1_fewest 159 = .ok (.ireturn, 1) := by decide +kernel
theorem dX1_sumOfParts_0 : decode cX1_sumOfParts 0 = .ok (.lconst 0, 1) := by decide +kernel
theorem dX1_sumOfParts_1 : decode cX1_sumOfParts 1 = .ok (.lstore_n 1, 1) := by decide +kernel
theorem dX1_sumOfParts_2 : decode cX1_sumOfParts 2 = .ok (.iconst 0, 1) := by decide +kernel
theorem dX1_sumOfParts_3 : decode cX1_sumOfParts 3 = .ok (.istore_n 3, 1) := by decide +kernel
theorem dX1_sumOfParts_4 : decode cX1_sumOfParts 4 = .ok (.iload_n 3, 1) := by decide +kernel
theorem dX1_sumOfParts_5 : decode cX1_sumOfParts 5 = .ok (.aload_n 0, 1) := by decide +kernel
theorem dX1_sumOfParts_6 : decode cX1_sumOfParts 6 = .ok (.getfield 9, 3) := by decide +kernel
theorem dX1_sumOfParts_9 : decode cX1_sumOfParts 9 = .ok (.getfield 36, 3) := by decide +kernel
theorem dX1_sumOfParts_12 : decode cX1_sumOfParts 12 = .ok (.iconst 1, 1) := by decide +kernel
theorem dX1_sumOfParts_13 : decode cX1_sumOfParts 13 = .ok (.isub, 1) := by decide +kernel
theorem dX1_sumOfParts_14 : decode cX1_sumOfParts 14 = .ok (.if_icmp .ge 33, 3) := by decide +kernel
theorem dX1_sumOfParts_17 : decode cX1_sumOfParts 17 = .ok (.iload_n 3, 1) := by decide +kernel
theorem dX1_sumOfParts_18 : decode cX1_sumOfParts 18 = .ok (.aload_n 0, 1) := by decide +kernel
theorem dX1_sumOfParts_19 : decode cX1_sumOfParts 19 = .ok (.getfield 9, 3) := by decide +kernel
theorem dX1_sumOfParts_22 : decode cX1_sumOfParts 22 = .ok (.getfield 40, 3) := by decide +kernel
theorem dX1_sumOfParts_25 : decode cX1_sumOfParts 25 = .ok (.arraylength, 1) := by decide +kernel
theorem dX1_sumOfParts_26 : decode cX1_sumOfParts 26 = .ok (.if_icmp .ge 21, 3) := by decide +kernel
theorem dX1_sumOfParts_29 : decode cX1_sumOfParts 29 = .ok (.lload_n 1, 1) := by decide +kernel
theorem dX1_sumOfParts_30 : decode cX1_sumOfParts 30 = .ok (.aload_n 0, 1) := by decide +kernel
theorem dX1_sumOfParts_31 : decode cX1_sumOfParts 31 = .ok (.getfield 9, 3) := by decide +kernel
theorem dX1_sumOfParts_34 : decode cX1_sumOfParts 34 = .ok (.getfield 40, 3) := by decide +kernel
theorem dX1_sumOfParts_37 : decode cX1_sumOfParts 37 = .ok (.iload_n 3, 1) := by decide +kernel
theorem dX1_sumOfParts_38 : decode cX1_sumOfParts 38 = .ok (.laload, 1) := by decide +kernel
theorem dX1_sumOfParts_39 : decode cX1_sumOfParts 39 = .ok (.ladd, 1) := by decide +kernel
theorem dX1_sumOfParts_40 : decode cX1_sumOfParts 40 = .ok (.lstore_n 1, 1) := by decide +kernel
theorem dX1_sumOfParts_41 : decode cX1_sumOfParts 41 = .ok (.iinc 3 1, 3) := by decide +kernel
theorem dX1_sumOfParts_44 : decode cX1_sumOfParts 44 = .ok (.goto (-40), 3) := by decide +kernel
theorem dX1_sumOfParts_47 : decode cX1_sumOfParts 47 = .ok (.lload_n 1, 1) := by decide +kernel
theorem dX1_sumOfParts_48 : decode cX1_sumOfParts 48 = .ok (.l2i, 1) := by decide +kernel
theorem dX1_sumOfParts_49 : decode cX1_sumOfParts 49 = .ok (.ireturn, 1) := by decide +kernel
set_option maxRecDepth 20000 in
theorem ggX1_borrowed_X4_borrowed : GoodIn wsX1_borrowed wsX4_borrowed := goodIn_r _ [6, 7, 8, 9, 12] rfl (by decide +kernel)
set_option maxRecDepth 20000 in
theorem gX1_borrowed_X4_borrowed : GoodIn wsX1_borrowed (wsV RX1 57 RX4 yX4_borrowed wsX4_borrowed) := goodIn_app (goodIn_sub (List.forall_mem_cons.mpr ⟨List.mem_of_getElem? (i := 2) rfl, List.forall_mem_cons.mpr ⟨List.mem_of_getElem? (i := 3) rfl, List.forall_mem_cons.mpr ⟨List.mem_of_getElem? (i := 4) rfl, List.forall_mem_cons.mpr ⟨List.mem_of_getElem? (i := 5) rfl, fun _ h => absurd h List.not_mem_nil⟩⟩⟩⟩) (by decide +kernel)) ggX1_borrowed_X4_borrowed
theorem dX1_borrowed_0 : decode cX1_borrowed 0 = .ok (.aload_n 0, 1) := by decide +kernel
theorem dX1_borrowed_1 : decode cX1_borrowed 1 = .ok (.getfield 15, 3) := by decide +kernel
theorem dX1_borrowed_4 : decode cX1_borrowed 4 = .ok (.invokevirtual 57, 3) := by decide +kernel
theorem dX1_borrowed_7 : decode cX1_borrowed 7 = .ok (.astore_n 2, 1) := by decide +kernel
theorem dX1_borrowed_8 : decode cX1_borrowed 8 = .ok (.iconst 0, 1) := by decide +kernel
theorem dX1_borrowed_9 : decode cX1_borrowed 9 = .ok (.istore_n 3, 1) := by decide +kernel
theorem dX1_borrowed_10 : decode cX1_borrowed 10 = .ok (.iload_n 3, 1) := by decide +kernel
theorem dX1_borrowed_11 : decode cX1_borrowed 11 = .ok (.iload_n 1, 1) := by decide +kernel
theorem dX1_borrowed_12 : decode cX1_borrowed 12 = .ok (.if_icmp .gt 21, 3) := by decide +kernel
theorem dX1_borrowed_15 : decode cX1_borrowed 15 = .ok (.iload_n 3, 1) := by decide +kernel
theorem dX1_borrowed_16 : decode cX1_borrowed 16 = .ok (.aload_n 2, 1) := by decide +kernel
theorem dX1_borrowed_17 : decode cX1_borrowed 17 = .ok (.arraylength, 1) := by decide +kernel
theorem dX1_borrowed_18 : decode cX1_borrowed 18 = .ok (.if_icmp .ge 15, 3) := by decide +kernel
theorem dX1_borrowed_21 : decode cX1_borrowed 21 = .ok (.aload_n 2, 1) := by decide +kernel
theorem dX1_borrowed_22 : decode cX1_borrowed 22 = .ok (.iload_n 3, 1) := by decide +kernel
theorem dX1_borrowed_23 : decode cX1_borrowed 23 = .ok (.sipush 10000, 3) := by decide +kernel
theorem dX1_borrowed_26 : decode cX1_borrowed 26 = .ok (.iastore, 1) := by decide +kernel
theorem dX1_borrowed_27 : decode cX1_borrowed 27 = .ok (.iinc 3 1, 3) := by decide +kernel
theorem dX1_borrowed_30 : decode cX1_borrowed 30 = .ok (.goto (-20), 3) := by decide +kernel
theorem dX1_borrowed_33 : decode cX1_borrowed 33 = .ok (.aload_n 2, 1) := by decide +kernel
theorem dX1_borrowed_34 : decode cX1_borrowed 34 = .ok (.areturn, 1) := by decide +kernel
theorem dX1_addPart_0 : decode cX1_addPart 0 = .ok (.iload_n 1, 1) := by decide +kernel
theorem dX1_addPart_1 : decode cX1_addPart 1 = .ok (.iconst 1, 1) := by decide +kernel
theorem dX1_addPart_2 : decode cX1_addPart 2 = .ok (.if_icmp .lt 14, 3) := by decide +kernel
theorem dX1_addPart_5 : decode cX1_addPart 5 = .ok (.iload_n 2, 1) := by decide +kernel
theorem dX1_addPart_6 : decode cX1_addPart 6 = .ok (.iload_n 1, 1) := by decide +kernel
theorem dX1_addPart_7 : decode cX1_addPart 7 = .ok (.if_icmp .lt 9, 3) := by decide +kernel
theorem dX1_addPart_10 : decode cX1_addPart 10 = .ok (.iload_n 3, 1) := by decide +kernel
theorem dX1_addPart_11 : decode cX1_addPart 11 = .ok (.aload_n 0, 1) := by decide +kernel
theorem dX1_addPart_12 : decode cX1_addPart 12 = .ok (.arraylength, 1) := by decide +kernel
theorem dX1_addPart_13 : decode cX1_addPart 13 = .ok (.if_icmp .lt 4, 3) := by decide +kernel
theorem dX1_addPart_16 : decode cX1_addPart 16 = .ok (.return_, 1) := by decide +kernel
theorem dX1_addPart_17 : decode cX1_addPart 17 = .ok (.iload_n 3, 1) := by decide +kernel
theorem dX1_addPart_18 : decode cX1_addPart 18 = .ok (.istore 4, 2) := by decide +kernel
theorem dX1_addPart_20 : decode cX1_addPart 20 = .ok (.iload 4, 2) := by decide +kernel
theorem dX1_addPart_22 : decode cX1_addPart 22 = .ok (.iload_n 2, 1) := by decide +kernel
theorem dX1_addPart_23 : decode cX1_addPart 23 = .ok (.if_icmp .lt 34, 3) := by decide +kernel
theorem dX1_addPart_26 : decode cX1_addPart 26 = .ok (.aload_n 0, 1) := by decide +kernel
theorem dX1_addPart_27 : decode cX1_addPart 27 = .ok (.iload 4, 2) := by decide +kernel
theorem dX1_addPart_29 : decode cX1_addPart 29 = .ok (.iload_n 1, 1) := by decide +kernel
theorem dX1_addPart_30 : decode cX1_addPart 30 = .ok (.isub, 1) := by decide +kernel
theorem dX1_addPart_31 : decode cX1_addPart 31 = .ok (.iaload, 1) := by decide +kernel
theorem dX1_addPart_32 : decode cX1_addPart 32 = .ok (.iconst 1, 1) := by decide +kernel
theorem dX1_addPart_33 : decode cX1_addPart 33 = .ok (.iadd, 1) := by decide +kernel
theorem dX1_addPart_34 : decode cX1_addPart 34 = .ok (.istore 5, 2) := by decide +kernel
theorem dX1_addPart_36 : decode cX1_addPart 36 = .ok (.iload 5, 2) := by decide +kernel
theorem dX1_addPart_38 : decode cX1_addPart 38 = .ok (.aload_n 0, 1) := by decide +kernel
theorem dX1_addPart_39 : decode cX1_addPart 39 = .ok (.iload 4, 2) := by decide +kernel
theorem dX1_addPart_41 : decode cX1_addPart 41 = .ok (.iaload, 1) := by decide +kernel
theorem dX1_addPart_42 : decode cX1_addPart 42 = .ok (.if_icmp .ge 9, 3) := by decide +kernel
theorem dX1_addPart_45 : decode cX1_addPart 45 = .ok (.aload_n 0, 1) := by decide +kernel
theorem dX1_addPart_46 : decode cX1_addPart 46 = .ok (.iload 4, 2) := by decide +kernel
theorem dX1_addPart_48 : decode cX1_addPart 48 = .ok (.iload 5, 2) := by decide +kernel
theorem dX1_addPart_50 : decode cX1_addPart 50 = .ok (.iastore, 1) := by decide +kernel
theorem dX1_addPart_51 : decode cX1_addPart 51 = .ok (.iinc 4 (-1), 3) := by decide +kernel
theorem dX1_addPart_54 : decode cX1_addPart 54 = .ok (.goto (-34), 3) := by decide +kernel
theorem dX1_addPart_57 : decode cX1_addPart 57 = .ok (.return_, 1) := by decide +kernel
theorem dX2_init_0 : decode cX2_init 0 = .ok (.aload_n 0, 1) := by decide +kernel
theorem dX2_init_1 : decode cX2_init 1 = .ok (.invokespecial 3, 3) := by decide +kernel
theorem dX2_init_4 : decode cX2_init 4 = .ok (.aload_n 0, 1) := by decide +kernel
theorem dX2_init_5 : decode cX2_init 5 = .ok (.iconst (-1), 1) := by decide +kernel
theorem dX2_init_6 : decode cX2_init 6 = .ok (.putfield 9, 3) := by decide +kernel
theorem dX2_init_9 : decode cX2_init 9 = .ok (.aload_n 0, 1) := by decide +kernel
theorem dX2_init_10 : decode cX2_init 10 = .ok (.iconst 0, 1) := by decide +kernel
theorem dX2_init_11 : decode cX2_init 11 = .ok (.putfield 15, 3) := by decide +kernel
theorem dX2_init_14 : decode cX2_init 14 = .ok (.return_, 1) := by decide +kernel
theorem dX2_begin_0 : decode cX2_begin 0 = .ok (.aload_n 0, 1) := by decide +kernel
theorem dX2_begin_1 : decode cX2_begin 1 = .ok (.iload_n 1, 1) := by decide +kernel
theorem dX2_begin_2 : decode cX2_begin 2 = .ok (.putfield 9, 3) := by decide +kernel
theorem dX2_begin_5 : decode cX2_begin 5 = .ok (.aload_n 0, 1) := by decide +kernel
theorem dX2_begin_6 : decode cX2_begin 6 = .ok (.iconst 0, 1) := by decide +kernel
theorem dX2_begin_7 : decode cX2_begin 7 = .ok (.putfield 15, 3) := by decide +kernel
theorem dX2_begin_10 : decode cX2_begin 10 = .ok (.return_, 1) := by decide +kernel
theorem dX2_isNext_0 : decode cX2_isNext 0 = .ok (.aload_n 0, 1) := by decide +kernel
theorem dX2_isNext_1 : decode cX2_isNext 1 = .ok (.getfield 15, 3) := by decide +kernel
theorem dX2_isNext_4 : decode cX2_isNext 4 = .ok (.aload_n 0, 1) := by decide +kernel
theorem dX2_isNext_5 : decode cX2_isNext 5 = .ok (.getfield 9, 3) := by decide +kernel
theorem dX2_isNext_8 : decode cX2_isNext 8 = .ok (.if_icmp .ne 7, 3) := by decide +kernel
theorem dX2_isNext_11 : decode cX2_isNext 11 = .ok (.iconst 1, 1) := by decide +kernel
theorem dX2_isNext_12 : decode cX2_isNext 12 = .ok (.goto 4, 3) := by decide +kernel
theorem dX2_isNext_15 : decode cX2_isNext 15 = .ok (.iconst 0, 1) := by decide +kernel
theorem dX2_isNext_16 : decode cX2_isNext 16 = .ok (.istore_n 1, 1) := by decide +kernel
theorem dX2_isNext_17 : decode cX2_isNext 17 = .ok (.aload_n 0, 1) := by decide +kernel
theorem dX2_isNext_18 : decode cX2_isNext 18 = .ok (.dup, 1) := by decide +kernel
theorem dX2_isNext_19 : decode cX2_isNext 19 = .ok (.getfield 15, 3) := by decide +kernel
theorem dX2_isNext_22 : decode cX2_isNext 22 = .ok (.iconst 1, 1) := by decide +kernel
theorem dX2_isNext_23 : decode cX2_isNext 23 = .ok (.iadd, 1) := by decide +kernel
theorem dX2_isNext_24 : decode cX2_isNext 24 = .ok (.putfield 15, 3) := by decide +kernel
theorem dX2_isNext_27 : decode cX2_isNext 27 = .ok (.iload_n 1, 1) := by decide +kernel
theorem dX2_isNext_28 : decode cX2_isNext 28 = .ok (.ireturn, 1) := by decide +kernel
theorem dX2_notFound_0 : decode cX2_notFound 0 = .ok (.aload_n 0, 1) := by decide +kernel
theorem dX2_notFound_1 : decode cX2_notFound 1 = .ok (.getfield 9, 3) := by decide +kernel
theorem dX2_notFound_4 : decode cX2_notFound 4 = .ok (.iconst (-1), 1) := by decide +kernel
theorem dX2_notFound_5 : decode cX2_notFound 5 = .ok (.if_icmp .ne 10, 3) := by decide +kernel
theorem dX2_notFound_8 : decode cX2_notFound 8 = .ok (.aload_n 0, 1) := by decide +kernel
theorem dX2_notFound_9 : decode cX2_notFound 9 = .ok (.getfield 15, 3) := by decide +kernel
theorem dX2_notFound_12 : decode cX2_notFound 12 = .ok (.goto 5, 3) := by decide +kernel
theorem dX2_notFound_15 : decode cX2_notFound 15 = .ok (.bipush (-4), 2) := by decide +kernel
theorem dX2_notFound_17 : decode cX2_notFound 17 = .ok (.ireturn, 1) := by decide +kernel
theorem dX3_init_0 : decode cX3_init 0 = .ok (.aload_n 0, 1) := by decide +kernel
theorem dX3_init_1 : decode cX3_init 1 = .ok (.invokespecial 1, 3) := by decide +kernel
theorem dX3_init_4 : decode cX3_init 4 = .ok (.aload_n 0, 1) := by decide +kernel
theorem dX3_init_5 : decode cX3_init 5 = .ok (.iconst 0, 1) := by decide +kernel
theorem dX3_init_6 : decode cX3_init 6 = .ok (.newarray .int, 2) := by decide +kernel
theorem dX3_init_8 : decode cX3_init 8 = .ok (.putfield 7, 3) := by decide +kernel
theorem dX3_init_11 : decode cX3_init 11 = .ok (.aload_n 0, 1) := by decide +kernel
theorem dX3_init_12 : decode cX3_init 12 = .ok (.aload_n 1, 1) := by decide +kernel
theorem dX3_init_13 : decode cX3_init 13 = .ok (.putfield 13, 3) := by decide +kernel
theorem dX3_init_16 : decode cX3_init 16 = .ok (.return_, 1) := by decide +kernel
set_option maxRecDepth 20000 in
theorem ggX3_prepare_X4_cleared : GoodIn wsX3_prepare wsX4_cleared := goodIn_r _ [9, 10, 11, 12, 8, 13, 14, 15, 2, 16, 17, 18, 19, 26] rfl (by decide +kernel)
set_option maxRecDepth 20000 in
theorem gX3_prepare_X4_cleared : GoodIn wsX3_prepare (wsV RX3 17 RX4 yX4_cleared wsX4_cleared) := goodIn_app (goodIn_sub (List.forall_mem_cons.mpr ⟨List.mem_of_getElem? (i := 5) rfl, List.forall_mem_cons.mpr ⟨List.mem_of_getElem? (i := 6) rfl, List.forall_mem_cons.mpr ⟨List.mem_of_getElem? (i := 7) rfl, List.forall_mem_cons.mpr ⟨List.mem_of_getElem? (i := 8) rfl, fun _ h => absurd h List.not_mem_nil⟩⟩⟩⟩) (by decide +kernel)) ggX3_prepare_X4_cleared
set_option maxRecDepth 20000 in
theorem ggX3_prepare_X3_crossMultiples : GoodIn wsX3_prepare wsX3_crossMultiples := goodIn_r _ [23, 4] rfl (by decide +kernel)
set_option maxRecDepth 20000 in
theorem gX3_prepare_X3_crossMultiples : GoodIn wsX3_prepare (va_wsS RX3 24 yX3_crossMultiples wsX3_crossMultiples) := goodIn_app (goodIn_sub (List.forall_mem_cons.mpr ⟨List.mem_of_getElem? (i := 20) rfl, List.forall_mem_cons.mpr ⟨List.mem_of_getElem? (i := 21) rfl, List.forall_mem_cons.mpr ⟨List.mem_of_getElem? (i := 22) rfl, fun _ h => absurd h List.not_mem_nil⟩⟩⟩) (by decide +kernel)) ggX3_prepare_X3_crossMultiples
theorem dX3_prepare_0 : decode cX3_prepare 0 = .ok (.aload_n 0, 1) := by decide +kernel
theorem dX3_prepare_1 : decode cX3_prepare 1 = .ok (.getfield 7, 3) := by decide +kernel
theorem dX3_prepare_4 : decode cX3_prepare 4 = .ok (.arraylength, 1) := by decide +kernel
theorem dX3_prepare_5 : decode cX3_prepare 5 = .ok (.ifCond .le 4, 3) := by decide +kernel
theorem dX3_prepare_8 : decode cX3_prepare 8 = .ok (.return_, 1) := by decide +kernel
theorem dX3_prepare_9 : decode cX3_prepare 9 = .ok (.aload_n 0, 1) := by decide +kernel
theorem dX3_prepare_10 : decode cX3_prepare 10 = .ok (.sipush 9592, 3) := by decide +kernel
theorem dX3_prepare_13 : decode cX3_prepare 13 = .ok (.newarray .int, 2) := by decide +kernel
theorem dX3_prepare_15 : decode cX3_prepare 15 = .ok (.putfield 7, 3) := by decide +kernel
theorem dX3_prepare_18 : decode cX3_prepare 18 = .ok (.aload_n 0, 1) := by decide +kernel
theorem dX3_prepare_19 : decode cX3_prepare 19 = .ok (.getfield 13, 3) := by decide +kernel
theorem dX3_prepare_22 : decode cX3_prepare 22 = .ok (.invokevirtual 17, 3) := by decide +kernel
theorem dX3_prepare_25 : decode cX3_prepare 25 = .ok (.astore_n 1, 1) := by decide +kernel
theorem dX3_prepare_26 : decode cX3_prepare 26 = .ok (.aload_n 0, 1) := by decide +kernel
theorem dX3_prepare_27 : decode cX3_prepare 27 = .ok (.getfield 7, 3) := by decide +kernel
theorem dX3_prepare_30 : decode cX3_prepare 30 = .ok (.iconst 0, 1) := by decide +kernel
theorem dX3_prepare_31 : decode cX3_prepare 31 = .ok (.iconst 2, 1) := by decide +kernel
theorem dX3_prepare_32 : decode cX3_prepare 32 = .ok (.iastore, 1) := by decide +kernel
theorem dX3_prepare_33 : decode cX3_prepare 33 = .ok (.iconst 1, 1) := by decide +kernel
theorem dX3_prepare_34 : decode cX3_prepare 34 = .ok (.istore_n 2, 1) := by decide +kernel
theorem dX3_prepare_35 : decode cX3_prepare 35 = .ok (.iconst 1, 1) := by decide +kernel
theorem dX3_prepare_36 : decode cX3_prepare 36 = .ok (.istore_n 3, 1) := by decide +kernel
theorem dX3_prepare_37 : decode cX3_prepare 37 = .ok (.iload_n 3, 1) := by decide +kernel
theorem dX3_prepare_38 : decode cX3_prepare 38 = .ok (.ldc 23, 2) := by decide +kernel
theorem dX3_prepare_40 : decode cX3_prepare 40 = .ok (.if_icmp .ge 54, 3) := by decide +kernel
theorem dX3_prepare_43 : decode cX3_prepare 43 = .ok (.iload_n 3, 1) := by decide +kernel
theorem dX3_prepare_44 : decode cX3_prepare 44 = .ok (.aload_n 1, 1) := by decide +kernel
theorem dX3_prepare_45 : decode cX3_prepare 45 = .ok (.arraylength, 1) := by decide +kernel
theorem dX3_prepare_46 : decode cX3_prepare 46 = .ok (.if_icmp .ge 48, 3) := by decide +kernel
theorem dX3_prepare_49 : decode cX3_prepare 49 = .ok (.iload_n 2, 1) := by decide +kernel
theorem dX3_prepare_50 : decode cX3_prepare 50 = .ok (.aload_n 0, 1) := by decide +kernel
theorem dX3_prepare_51 : decode cX3_prepare 51 = .ok (.getfield 7, 3) := by decide +kernel
theorem dX3_prepare_54 : decode cX3_prepare 54 = .ok (.arraylength, 1) := by decide +kernel
theorem dX3_prepare_55 : decode cX3_prepare 55 = .ok (.if_icmp .ge 39, 3) := by decide +kernel
theorem dX3_prepare_58 : decode cX3_prepare 58 = .ok (.aload_n 1, 1) := by decide +kernel
theorem dX3_prepare_59 : decode cX3_prepare 59 = .ok (.iload_n 3, 1) := by decide +kernel
theorem dX3_prepare_60 : decode cX3_prepare 60 = .ok (.iaload, 1) := by decide +kernel
theorem dX3_prepare_61 : decode cX3_prepare 61 = .ok (.ifCond .ne 27, 3) := by decide +kernel
theorem dX3_prepare_64 : decode cX3_prepare 64 = .ok (.iconst 2, 1) := by decide +kernel
theorem dX3_prepare_65 : decode cX3_prepare 65 = .ok (.iload_n 3, 1) := by decide +kernel
theorem dX3_prepare_66 : decode cX3_prepare 66 = .ok (.imul, 1) := by decide +kernel
theorem dX3_prepare_67 : decode cX3_prepare 67 = .ok (.iconst 1, 1) := by decide +kernel
theorem dX3_prepare_68 : decode cX3_prepare 68 = .ok (.iadd, 1) := by decide +kernel
theorem dX3_prepare_69 : decode cX3_prepare 69 = .ok (.istore 4, 2) := by decide +kernel
theorem dX3_prepare_71 : decode cX3_prepare 71 = .ok (.aload_n 0, 1) := by decide +kernel
theorem dX3_prepare_72 : decode cX3_prepare 72 = .ok (.getfield 7, 3) := by decide +kernel
theorem dX3_prepare_75 : decode cX3_prepare 75 = .ok (.iload_n 2, 1) := by decide +kernel
theorem dX3_prepare_76 : decode cX3_prepare 76 = .ok (.iload 4, 2) := by decide +kernel
theorem dX3_prepare_78 : decode cX3_prepare 78 = .ok (.iastore, 1) := by decide +kernel
theorem dX3_prepare_79 : decode cX3_prepare 79 = .ok (.iinc 2 1, 3) := by decide +kernel
theorem dX3_prepare_82 : decode cX3_prepare 82 = .ok (.aload_n 1, 1) := by decide +kernel
theorem dX3_prepare_83 : decode cX3_prepare 83 = .ok (.iload 4, 2) := by decide +kernel
theorem dX3_prepare_85 : decode cX3_prepare 85 = .ok (.invokestatic 24, 3) := by decide +kernel
theorem dX3_prepare_88 : decode cX3_prepare 88 = .ok (.iinc 3 1, 3) := by decide +kernel
theorem dX3_prepare_91 : decode cX3_prepare 91 = .ok (.goto (-54), 3) := by decide +kernel
theorem dX3_prepare_94 : decode cX3_prepare 94 = .ok (.return_, 1) := by decide +kernel
theorem dX3_crossMultiples_0 : decode cX3_crossMultiples 0 = .ok (.iload_n 1, 1) := by decide +kernel
theorem dX3_crossMultiples_1 : decode cX3_crossMultiples 1 = .ok (.iconst 3, 1) := by decide +kernel
theorem dX3_crossMultiples_2 : decode cX3_crossMultiples 2 = .ok (.if_icmp .lt 10, 3) := by decide +kernel
theorem dX3_crossMultiples_5 : decode cX3_crossMultiples 5 = .ok (.iload_n 1, 1) := by decide +kernel
theorem dX3_crossMultiples_6 : decode cX3_crossMultiples 6 = .ok (.sipush 400, 3) := by decide +kernel
theorem dX3_crossMultiples_9 : decode cX3_crossMultiples 9 = .ok (.if_icmp .le 4, 3) := by decide +kernel
theorem dX3_crossMultiples_12 : decode cX3_crossMultiples 12 = .ok (.return_, 1) := by decide +kernel
theorem dX3_crossMultiples_13 : decode cX3_crossMultiples 13 = .ok (.iload_n 1, 1) := by decide +kernel
theorem dX3_crossMultiples_14 : decode cX3_crossMultiples 14 = .ok (.iload_n 1, 1) := by decide +kernel
theorem dX3_crossMultiples_15 : decode cX3_crossMultiples 15 = .ok (.imul, 1) := by decide +kernel
theorem dX3_crossMultiples_16 : decode cX3_crossMultiples 16 = .ok (.iconst 2, 1) := by decide +kernel
theorem dX3_crossMultiples_17 : decode cX3_crossMultiples 17 = .ok (.idiv, 1) := by decide +kernel
theorem dX3_crossMultiples_18 : decode cX3_crossMultiples 18 = .ok (.istore_n 2, 1) := by decide +kernel
theorem dX3_crossMultiples_19 : decode cX3_crossMultiples 19 = .ok (.iload_n 2, 1) := by decide +kernel
theorem dX3_crossMultiples_20 : decode cX3_crossMultiples 20 = .ok (.ldc 23, 2) := by decide +kernel
theorem dX3_crossMultiples_22 : decode cX3_crossMultiples 22 = .ok (.if_icmp .ge 20, 3) := by decide +kernel
theorem dX3_crossMultiples_25 : decode cX3_crossMultiples 25 = .ok (.iload_n 2, 1) := by decide +kernel
theorem dX3_crossMultiples_26 : decode cX3_crossMultiples 26 = .ok (.aload_n 0, 1) := by decide +kernel
theorem dX3_crossMultiples_27 : decode cX3_crossMultiples 27 = .ok (.arraylength, 1) := by decide +kernel
theorem dX3_crossMultiples_28 : decode cX3_crossMultiples 28 = .ok (.if_icmp .ge 14, 3) := by decide +kernel
theorem dX3_crossMultiples_31 : decode cX3_crossMultiples 31 = .ok (.aload_n 0, 1) := by decide +kernel
theorem dX3_crossMultiples_32 : decode cX3_crossMultiples 32 = .ok (.iload_n 2, 1) := by decide +kernel
theorem dX3_crossMultiples_33 : decode cX3_crossMultiples 33 = .ok (.iconst 1, 1) := by decide +kernel
theorem dX3_crossMultiples_34 : decode cX3_crossMultiples 34 = .ok (.iastore, 1) := by decide +kernel
theorem dX3_crossMultiples_35 : decode cX3_crossMultiples 35 = .ok (.iload_n 2, 1) := by decide +kernel
theorem dX3_crossMultiples_36 : decode cX3_crossMultiples 36 = .ok (.iload_n 1, 1) := by decide +kernel
theorem dX3_crossMultiples_37 : decode cX3_crossMultiples 37 = .ok (.iadd, 1) := by decide +kernel
theorem dX3_crossMultiples_38 : decode cX3_crossMultiples 38 = .ok (.istore_n 2, 1) := by decide +kernel
theorem dX3_crossMultiples_39 : decode cX3_crossMultiples 39 = .ok (.goto (-20), 3) := by decide +kernel
theorem dX3_crossMultiples_42 : decode cX3_crossMultiples 42 = .ok (.return_, 1) := by decide +kernel
theorem dX4_init_0 : decode cX4_init 0 = .ok (.aload_n 0, 1) := by decide +kernel
theorem dX4_init_1 : decode cX4_init 1 = .ok (.invokespecial 3, 3) := by decide +kernel
theorem dX4_init_4 : decode cX4_init 4 = .ok (.aload_n 0, 1) := by decide +kernel
theorem dX4_init_5 : decode cX4_init 5 = .ok (.iconst 0, 1) := by decide +kernel
theorem dX4_init_6 : decode cX4_init 6 = .ok (.newarray .int, 2) := by decide +kernel
theorem dX4_init_8 : decode cX4_init 8 = .ok (.putfield 9, 3) := by decide +kernel
theorem dX4_init_11 : decode cX4_init 11 = .ok (.return_, 1) := by decide +kernel
theorem dX4_borrowed_0 : decode cX4_borrowed 0 = .ok (.aload_n 0, 1) := by decide +kernel
theorem dX4_borrowed_1 : decode cX4_borrowed 1 = .ok (.getfield 9, 3) := by decide +kernel
theorem dX4_borrowed_4 : decode cX4_borrowed 4 = .ok (.arraylength, 1) := by decide +kernel
theorem dX4_borrowed_5 : decode cX4_borrowed 5 = .ok (.ifCond .ne 11, 3) := by decide +kernel
theorem dX4_borrowed_8 : decode cX4_borrowed 8 = .ok (.aload_n 0, 1) := by decide +kernel
theorem dX4_borrowed_9 : decode cX4_borrowed 9 = .ok (.ldc 15, 2) := by decide +kernel
theorem dX4_borrowed_11 : decode cX4_borrowed 11 = .ok (.newarray .int, 2) := by decide +kernel
theorem dX4_borrowed_13 : decode cX4_borrowed 13 = .ok (.putfield 9, 3) := by decide +kernel
theorem dX4_borrowed_16 : decode cX4_borrowed 16 = .ok (.aload_n 0, 1) := by decide +kernel
theorem dX4_borrowed_17 : decode cX4_borrowed 17 = .ok (.getfield 9, 3) := by decide +kernel
theorem dX4_borrowed_20 : decode cX4_borrowed 20 = .ok (.areturn, 1) := by decide +kernel
set_option maxRecDepth 20000 in
theorem ggX4_cleared_X4_borrowed : GoodIn wsX4_cleared wsX4_borrowed := goodIn_r _ [5, 6, 7, 8, 13] rfl (by decide +kernel)
set_option maxRecDepth 20000 in
theorem gX4_cleared_X4_borrowed : GoodIn wsX4_cleared (wsV RX4 16 RX4 yX4_borrowed wsX4_borrowed) := goodIn_app (goodIn_sub (List.forall_mem_cons.mpr ⟨List.mem_of_getElem? (i := 1) rfl, List.forall_mem_cons.mpr ⟨List.mem_of_getElem? (i := 2) rfl, List.forall_mem_cons.mpr ⟨List.mem_of_getElem? (i := 3) rfl, List.forall_mem_cons.mpr ⟨List.mem_of_getElem? (i := 4) rfl, fun _ h => absurd h List.not_mem_nil⟩⟩⟩⟩) (by decide +kernel)) ggX4_cleared_X4_borrowed
set_option maxRecDepth 20000 in
theorem ggX4_cleared_J7_fill_53178 : GoodIn wsX4_cleared wsJ7_fill_53178 := goodIn_r _ [12] rfl (by decide +kernel)
set_option maxRecDepth 20000 in
theorem gX4_cleared_J7_fill_53178 : GoodIn wsX4_cleared (va_wsS RX4 20 yJ7_fill_53178 wsJ7_fill_53178) := goodIn_app (goodIn_sub (List.forall_mem_cons.mpr ⟨List.mem_of_getElem? (i := 9) rfl, List.forall_mem_cons.mpr ⟨List.mem_of_getElem? (i := 10) rfl, List.forall_mem_cons.mpr ⟨List.mem_of_getElem? (i := 11) rfl, fun _ h => absurd h List.not_mem_nil⟩⟩⟩) (by decide +kernel)) ggX4_cleared_J7_fill_53178
theorem dX4_cleared_0 : decode cX4_cleared 0 = .ok (.aload_n 0, 1) := by decide +kernel
theorem dX4_cleared_1 : decode cX4_cleared 1 = .ok (.invokevirtual 16, 3) := by decide +kernel
theorem dX4_cleared_4 : decode cX4_cleared 4 = .ok (.astore_n 1, 1) := by decide +kernel
theorem dX4_cleared_5 : decode cX4_cleared 5 = .ok (.aload_n 1, 1) := by decide +kernel
theorem dX4_cleared_6 : decode cX4_cleared 6 = .ok (.iconst 0, 1) := by decide +kernel
theorem dX4_cleared_7 : decode cX4_cleared 7 = .ok (.invokestatic 20, 3) := by decide +kernel
theorem dX4_cleared_10 : decode cX4_cleared 10 = .ok (.aload_n 1, 1) := by decide +kernel
theorem dX4_cleared_11 : decode cX4_cleared 11 = .ok (.areturn, 1) := by decide +kernel
set_option maxRecDepth 20000 in
theorem ggX5_init_X2_init : GoodIn wsX5_init wsX2_init := goodIn_r _ [11, 12, 2, 3, 13, 14, 15, 16] rfl (by decide +kernel)
set_option maxRecDepth 20000 in
theorem gX5_init_X2_init_n11 : GoodIn wsX5_init (wsX2_init) := ggX5_init_X2_init
theorem dX5_init_0 : decode cX5_init 0 = .ok (.aload_n 0, 1) := by decide +kernel
theorem dX5_init_1 : decode cX5_init 1 = .ok (.invokespecial 3, 3) := by decide +kernel
theorem dX5_init_4 : decode cX5_init 4 = .ok (.aload_n 0, 1) := by decide +kernel
theorem dX5_init_5 : decode cX5_init 5 = .ok (.new 9, 3) := by decide +kernel
theorem dX5_init_8 : decode cX5_init 8 = .ok (.dup, 1) := by decide +kernel
theorem dX5_init_9 : decode cX5_init 9 = .ok (.invokespecial 11, 3) := by decide +kernel
theorem dX5_init_12 : decode cX5_init 12 = .ok (.putfield 12, 3) := by decide +kernel
theorem dX5_init_15 : decode cX5_init 15 = .ok (.aload_n 0, 1) := by decide +kernel
theorem dX5_init_16 : decode cX5_init 16 = .ok (.aload_n 1, 1) := by decide +kernel
theorem dX5_init_17 : decode cX5_init 17 = .ok (.putfield 18, 3) := by decide +kernel
theorem dX5_init_20 : decode cX5_init 20 = .ok (.aload_n 0, 1) := by decide +kernel
theorem dX5_init_21 : decode cX5_init 21 = .ok (.aload_n 2, 1) := by decide +kernel
theorem dX5_init_22 : decode cX5_init 22 = .ok (.putfield 22, 3) := by decide +kernel
theorem dX5_init_25 : decode cX5_init 25 = .ok (.return_, 1) := by decide +kernel
set_option maxRecDepth 20000 in
theorem ggX5_ringAt_X2_begin : GoodIn wsX5_ringAt wsX2_begin := goodIn_r _ [6, 7, 8, 33, 34] rfl (by decide +kernel)
set_option maxRecDepth 20000 in
theorem gX5_ringAt_X2_begin : GoodIn wsX5_ringAt (wsV RX5 26 RX2 yX2_begin wsX2_begin) := goodIn_app (goodIn_sub (List.forall_mem_cons.mpr ⟨List.mem_of_getElem? (i := 2) rfl, List.forall_mem_cons.mpr ⟨List.mem_of_getElem? (i := 3) rfl, List.forall_mem_cons.mpr ⟨List.mem_of_getElem? (i := 4) rfl, List.forall_mem_cons.mpr ⟨List.mem_of_getElem? (i := 5) rfl, fun _ h => absurd h List.not_mem_nil⟩⟩⟩⟩) (by decide +kernel)) ggX5_ringAt_X2_begin
set_option maxRecDepth 20000 in
theorem ggX5_ringAt_X5_beginsRing : GoodIn wsX5_ringAt wsX5_beginsRing := goodIn_r _ [13, 14, 15, 16, 17, 18, 19, 20, 21, 30, 31, 32, 35, 36, 37] rfl (by decide +kernel)
set_option maxRecDepth 20000 in
theorem gX5_ringAt_X5_beginsRing : GoodIn wsX5_ringAt (wsV RX5 30 RX5 yX5_beginsRing wsX5_beginsRing) := goodIn_app (goodIn_sub (List.forall_mem_cons.mpr ⟨List.mem_of_getElem? (i := 9) rfl, List.forall_mem_cons.mpr ⟨List.mem_of_getElem? (i := 10) rfl, List.forall_mem_cons.mpr ⟨List.mem_of_getElem? (i := 11) rfl, List.forall_mem_cons.mpr ⟨List.mem_of_getElem? (i := 12) rfl, fun _ h => absurd h List.not_mem_nil⟩⟩⟩⟩) (by decide +kernel)) ggX5_ringAt_X5_beginsRing
set_option maxRecDepth 20000 in
theorem ggX5_ringAt_X2_isNext : GoodIn wsX5_ringAt wsX2_isNext := goodIn_r _ [25, 8, 7, 33, 34] rfl (by decide +kernel)
set_option maxRecDepth 20000 in
theorem gX5_ringAt_X2_isNext : GoodIn wsX5_ringAt (wsV RX5 34 RX2 yX2_isNext wsX2_isNext) := goodIn_app (goodIn_sub (List.forall_mem_cons.mpr ⟨List.mem_of_getElem? (i := 22) rfl, List.forall_mem_cons.mpr ⟨List.mem_of_getElem? (i := 23) rfl, List.forall_mem_cons.mpr ⟨List.mem_of_getElem? (i := 24) rfl, List.forall_mem_cons.mpr ⟨List.mem_of_getElem? (i := 5) rfl, fun _ h => absurd h List.not_mem_nil⟩⟩⟩⟩) (by decide +kernel)) ggX5_ringAt_X2_isNext
set_option maxRecDepth 20000 in
theorem ggX5_ringAt_X2_notFound : GoodIn wsX5_ringAt wsX2_notFound := goodIn_r _ [29, 7, 8, 33, 34] rfl (by decide +kernel)
set_option maxRecDepth 20000 in
theorem gX5_ringAt_X2_notFound : GoodIn wsX5_ringAt (wsV RX5 38 RX2 yX2_notFound wsX2_notFound) := goodIn_app (goodIn_sub (List.forall_mem_cons.mpr ⟨List.mem_of_getElem? (i := 26) rfl, List.forall_mem_cons.mpr ⟨List.mem_of_getElem? (i := 27) rfl, List.forall_mem_cons.mpr ⟨List.mem_of_getElem? (i := 28) rfl, List.forall_mem_cons.mpr ⟨List.mem_of_getElem? (i := 5) rfl, fun _ h => absurd h List.not_mem_nil⟩⟩⟩⟩) (by decide +kernel)) ggX5_ringAt_X2_notFound
theorem dX5_ringAt_0 : decode cX5_ringAt 0 = .ok (.aload_n 0, 1) := by decide +kernel
theorem dX5_ringAt_1 : decode cX5_ringAt 1 = .ok (.getfield 12, 3) := by decide +kernel
theorem dX5_ringAt_4 : decode cX5_ringAt 4 = .ok (.iload 4, 2) := by decide +kernel
theorem dX5_ringAt_6 : decode cX5_ringAt 6 = .ok (.invokevirtual 26, 3) := by decide +kernel
theorem dX5_ringAt_9 : decode cX5_ringAt 9 = .ok (.iconst 1, 1) := by decide +kernel
theorem dX5_ringAt_10 : decode cX5_ringAt 10 = .ok (.istore 5, 2) := by decide +kernel
theorem dX5_ringAt_12 : decode cX5_ringAt 12 = .ok (.iload 5, 2) := by decide +kernel
theorem dX5_ringAt_14 : decode cX5_ringAt 14 = .ok (.iload_n 3, 1) := by decide +kernel
theorem dX5_ringAt_15 : decode cX5_ringAt 15 = .ok (.if_icmp .gt 34, 3) := by decide +kernel
theorem dX5_ringAt_18 : decode cX5_ringAt 18 = .ok (.aload_n 0, 1) := by decide +kernel
theorem dX5_ringAt_19 : decode cX5_ringAt 19 = .ok (.iload_n 1, 1) := by decide +kernel
theorem dX5_ringAt_20 : decode cX5_ringAt 20 = .ok (.iload_n 2, 1) := by decide +kernel
theorem dX5_ringAt_21 : decode cX5_ringAt 21 = .ok (.iload_n 3, 1) := by decide +kernel
theorem dX5_ringAt_22 : decode cX5_ringAt 22 = .ok (.iload 5, 2) := by decide +kernel
theorem dX5_ringAt_24 : decode cX5_ringAt 24 = .ok (.invokevirtual 30, 3) := by decide +kernel
theorem dX5_ringAt_27 : decode cX5_ringAt 27 = .ok (.ifCond .eq 16, 3) := by decide +kernel
theorem dX5_ringAt_30 : decode cX5_ringAt 30 = .ok (.aload_n 0, 1) := by decide +kernel
theorem dX5_ringAt_31 : decode cX5_ringAt 31 = .ok (.getfield 12, 3) := by decide +kernel
theorem dX5_ringAt_34 : decode cX5_ringAt 34 = .ok (.invokevirtual 34, 3) := by decide +kernel
theorem dX5_ringAt_37 : decode cX5_ringAt 37 = .ok (.ifCond .eq 6, 3) := by decide +kernel
theorem dX5_ringAt_40 : decode cX5_ringAt 40 = .ok (.iload 5, 2) := by decide +kernel
theorem dX5_ringAt_42 : decode cX5_ringAt 42 = .ok (.ireturn, 1) := by decide +kernel
theorem dX5_ringAt_43 : decode cX5_ringAt 43 = .ok (.iinc 5 1, 3) := by decide +kernel
theorem dX5_ringAt_46 : decode cX5_ringAt 46 = .ok (.goto (-34), 3) := by decide +kernel
theorem dX5_ringAt_49 : decode cX5_ringAt 49 = .ok (.aload_n 0, 1) := by decide +kernel
theorem dX5_ringAt_50 : decode cX5_ringAt 50 = .ok (.getfield 12, 3) := by decide +kernel
theorem dX5_ringAt_53 : decode cX5_ringAt 53 = .ok (.invokevirtual 38, 3) := by decide +kernel
theorem dX5_ringAt_56 : decode cX5_ringAt 56 = .ok (.ireturn, 1) := by decide +kernel
set_option maxRecDepth 20000 in
theorem ggX5_beginsRing_X7_summed : GoodIn wsX5_beginsRing wsX7_summed := goodIn_r _ [6, 7, 8, 12, 13, 14] rfl (by decide +kernel)
set_option maxRecDepth 20000 in
theorem gX5_beginsRing_X7_summed : GoodIn wsX5_beginsRing (wsV RX5 42 RX7 yX7_summed wsX7_summed) := goodIn_app (goodIn_sub (List.forall_mem_cons.mpr ⟨List.mem_of_getElem? (i := 2) rfl, List.forall_mem_cons.mpr ⟨List.mem_of_getElem? (i := 3) rfl, List.forall_mem_cons.mpr ⟨List.mem_of_getElem? (i := 4) rfl, List.forall_mem_cons.mpr ⟨List.mem_of_getElem? (i := 5) rfl, fun _ h => absurd h List.not_mem_nil⟩⟩⟩⟩) (by decide +kernel)) ggX5_beginsRing_X7_summed
theorem dX5_beginsRing_0 : decode cX5_beginsRing 0 = .ok (.iload 4, 2) := by decide +kernel
theorem dX5_beginsRing_2 : decode cX5_beginsRing 2 = .ok (.istore 5, 2) := by decide +kernel
theorem dX5_beginsRing_4 : decode cX5_beginsRing 4 = .ok (.iconst 1, 1) := by decide +kernel
theorem dX5_beginsRing_5 : decode cX5_beginsRing 5 = .ok (.istore 6, 2) := by decide +kernel
theorem dX5_beginsRing_7 : decode cX5_beginsRing 7 = .ok (.iload 6, 2) := by decide +kernel
theorem dX5_beginsRing_9 : decode cX5_beginsRing 9 = .ok (.iload_n 2, 1) := by decide +kernel
theorem dX5_beginsRing_10 : decode cX5_beginsRing 10 = .ok (.if_icmp .gt 55, 3) := by decide +kernel
theorem dX5_beginsRing_13 : decode cX5_beginsRing 13 = .ok (.aload_n 0, 1) := by decide +kernel
theorem dX5_beginsRing_14 : decode cX5_beginsRing 14 = .ok (.getfield 18, 3) := by decide +kernel
theorem dX5_beginsRing_17 : decode cX5_beginsRing 17 = .ok (.iload_n 1, 1) := by decide +kernel
theorem dX5_beginsRing_18 : decode cX5_beginsRing 18 = .ok (.iload 5, 2) := by decide +kernel
theorem dX5_beginsRing_20 : decode cX5_beginsRing 20 = .ok (.invokevirtual 42, 3) := by decide +kernel
theorem dX5_beginsRing_23 : decode cX5_beginsRing 23 = .ok (.istore 5, 2) := by decide +kernel
theorem dX5_beginsRing_25 : decode cX5_beginsRing 25 = .ok (.iload 5, 2) := by decide +kernel
theorem dX5_beginsRing_27 : decode cX5_beginsRing 27 = .ok (.iload 4, 2) := by decide +kernel
theorem dX5_beginsRing_29 : decode cX5_beginsRing 29 = .ok (.if_icmp .lt 9, 3) := by decide +kernel
theorem dX5_beginsRing_32 : decode cX5_beginsRing 32 = .ok (.iload 5, 2) := by decide +kernel
theorem dX5_beginsRing_34 : decode cX5_beginsRing 34 = .ok (.iload_n 3, 1) := by decide +kernel
theorem dX5_beginsRing_35 : decode cX5_beginsRing 35 = .ok (.if_icmp .le 5, 3) := by decide +kernel
theorem dX5_beginsRing_38 : decode cX5_beginsRing 38 = .ok (.iconst 0, 1) := by decide +kernel
theorem dX5_beginsRing_39 : decode cX5_beginsRing 39 = .ok (.ireturn, 1) := by decide +kernel
theorem dX5_beginsRing_40 : decode cX5_beginsRing 40 = .ok (.iload 5, 2) := by decide +kernel
theorem dX5_beginsRing_42 : decode cX5_beginsRing 42 = .ok (.iload 4, 2) := by decide +kernel
theorem dX5_beginsRing_44 : decode cX5_beginsRing 44 = .ok (.if_icmp .ne 15, 3) := by decide +kernel
theorem dX5_beginsRing_47 : decode cX5_beginsRing 47 = .ok (.iload 6, 2) := by decide +kernel
theorem dX5_beginsRing_49 : decode cX5_beginsRing 49 = .ok (.iload_n 2, 1) := by decide +kernel
theorem dX5_beginsRing_50 : decode cX5_beginsRing 50 = .ok (.if_icmp .ne 7, 3) := by decide +kernel
theorem dX5_beginsRing_53 : decode cX5_beginsRing 53 = .ok (.iconst 1, 1) := by decide +kernel
theorem dX5_beginsRing_54 : decode cX5_beginsRing 54 = .ok (.goto 4, 3) := by decide +kernel
theorem dX5_beginsRing_57 : decode cX5_beginsRing 57 = .ok (.iconst 0, 1) := by decide +kernel
theorem dX5_beginsRing_58 : decode cX5_beginsRing 58 = .ok (.ireturn, 1) := by decide +kernel
theorem dX5_beginsRing_59 : decode cX5_beginsRing 59 = .ok (.iinc 6 1, 3) := by decide +kernel
theorem dX5_beginsRing_62 : decode cX5_beginsRing 62 = .ok (.goto (-55), 3) := by decide +kernel
theorem dX5_beginsRing_65 : decode cX5_beginsRing 65 = .ok (.iconst 0, 1) := by decide +kernel
theorem dX5_beginsRing_66 : decode cX5_beginsRing 66 = .ok (.ireturn, 1) := by decide +kernel
set_option maxRecDepth 20000 in
theorem ggX5_havingAt_X2_begin : GoodIn wsX5_havingAt wsX2_begin := goodIn_r _ [7, 8, 9, 28, 29] rfl (by decide +kernel)
set_option maxRecDepth 20000 in
theorem gX5_havingAt_X2_begin : GoodIn wsX5_havingAt (wsV RX5 26 RX2 yX2_begin wsX2_begin) := goodIn_app (goodIn_sub (List.forall_mem_cons.mpr ⟨List.mem_of_getElem? (i := 3) rfl, List.forall_mem_cons.mpr ⟨List.mem_of_getElem? (i := 4) rfl, List.forall_mem_cons.mpr ⟨List.mem_of_getElem? (i := 5) rfl, List.forall_mem_cons.mpr ⟨List.mem_of_getElem? (i := 6) rfl, fun _ h => absurd h List.not_mem_nil⟩⟩⟩⟩) (by decide +kernel)) ggX5_havingAt_X2_begin
set_option maxRecDepth 20000 in
theorem ggX5_havingAt_X7_summed : GoodIn wsX5_havingAt wsX7_summed := goodIn_r _ [14, 15, 16, 30, 31, 32] rfl (by decide +kernel)
set_option maxRecDepth 20000 in
theorem gX5_havingAt_X7_summed : GoodIn wsX5_havingAt (wsV RX5 42 RX7 yX7_summed wsX7_summed) := goodIn_app (goodIn_sub (List.forall_mem_cons.mpr ⟨List.mem_of_getElem? (i := 10) rfl, List.forall_mem_cons.mpr ⟨List.mem_of_getElem? (i := 11) rfl, List.forall_mem_cons.mpr ⟨List.mem_of_getElem? (i := 12) rfl, List.forall_mem_cons.mpr ⟨List.mem_of_getElem? (i := 13) rfl, fun _ h => absurd h List.not_mem_nil⟩⟩⟩⟩) (by decide +kernel)) ggX5_havingAt_X7_summed
set_option maxRecDepth 20000 in
theorem ggX5_havingAt_X2_isNext : GoodIn wsX5_havingAt wsX2_isNext := goodIn_r _ [20, 9, 8, 28, 29] rfl (by decide +kernel)
set_option maxRecDepth 20000 in
theorem gX5_havingAt_X2_isNext : GoodIn wsX5_havingAt (wsV RX5 34 RX2 yX2_isNext wsX2_isNext) := goodIn_app (goodIn_sub (List.forall_mem_cons.mpr ⟨List.mem_of_getElem? (i := 17) rfl, List.forall_mem_cons.mpr ⟨List.mem_of_getElem? (i := 18) rfl, List.forall_mem_cons.mpr ⟨List.mem_of_getElem? (i := 19) rfl, List.forall_mem_cons.mpr ⟨List.mem_of_getElem? (i := 6) rfl, fun _ h => absurd h List.not_mem_nil⟩⟩⟩⟩) (by decide +kernel)) ggX5_havingAt_X2_isNext
set_option maxRecDepth 20000 in
theorem ggX5_havingAt_X2_notFound : GoodIn wsX5_havingAt wsX2_notFound := goodIn_r _ [24, 8, 9, 28, 29] rfl (by decide +kernel)
set_option maxRecDepth 20000 in
theorem gX5_havingAt_X2_notFound : GoodIn wsX5_havingAt (wsV RX5 38 RX2 yX2_notFound wsX2_notFound) := goodIn_app (goodIn_sub (List.forall_mem_cons.mpr ⟨List.mem_of_getElem? (i := 21) rfl, List.forall_mem_cons.mpr ⟨List.mem_of_getElem? (i := 22) rfl, List.forall_mem_cons.mpr ⟨List.mem_of_getElem? (i := 23) rfl, List.forall_mem_cons.mpr ⟨List.mem_of_getElem? (i := 6) rfl, fun _ h => absurd h List.not_mem_nil⟩⟩⟩⟩) (by decide +kernel)) ggX5_havingAt_X2_notFound
theorem dX5_havingAt_0 : decode cX5_havingAt 0 = .ok (.aload_n 0, 1) := by decide +kernel
theorem dX5_havingAt_1 : decode cX5_havingAt 1 = .ok (.getfield 12, 3) := by decide +kernel
theorem dX5_havingAt_4 : decode cX5_havingAt 4 = .ok (.iload 4, 2) := by decide +kernel
theorem dX5_havingAt_6 : decode cX5_havingAt 6 = .ok (.invokevirtual 26, 3) := by decide +kernel
theorem dX5_havingAt_9 : decode cX5_havingAt 9 = .ok (.iconst 1, 1) := by decide +kernel
theorem dX5_havingAt_10 : decode cX5_havingAt 10 = .ok (.istore 5, 2) := by decide +kernel
theorem dX5_havingAt_12 : decode cX5_havingAt 12 = .ok (.iload 5, 2) := by decide +kernel
theorem dX5_havingAt_14 : decode cX5_havingAt 14 = .ok (.iload_n 3, 1) := by decide +kernel
theorem dX5_havingAt_15 : decode cX5_havingAt 15 = .ok (.if_icmp .gt 36, 3) := by decide +kernel
theorem dX5_havingAt_18 : decode cX5_havingAt 18 = .ok (.aload_n 0, 1) := by decide +kernel
theorem dX5_havingAt_19 : decode cX5_havingAt 19 = .ok (.getfield 18, 3) := by decide +kernel
theorem dX5_havingAt_22 : decode cX5_havingAt 22 = .ok (.iload_n 1, 1) := by decide +kernel
theorem dX5_havingAt_23 : decode cX5_havingAt 23 = .ok (.iload 5, 2) := by decide +kernel
theorem dX5_havingAt_25 : decode cX5_havingAt 25 = .ok (.invokevirtual 42, 3) := by decide +kernel
theorem dX5_havingAt_28 : decode cX5_havingAt 28 = .ok (.iload_n 2, 1) := by decide +kernel
theorem dX5_havingAt_29 : decode cX5_havingAt 29 = .ok (.if_icmp .ne 16, 3) := by decide +kernel
theorem dX5_havingAt_32 : decode cX5_havingAt 32 = .ok (.aload_n 0, 1) := by decide +kernel
theorem dX5_havingAt_33 : decode cX5_havingAt 33 = .ok (.getfield 12, 3) := by decide +kernel
theorem dX5_havingAt_36 : decode cX5_havingAt 36 = .ok (.invokevirtual 34, 3) := by decide +kernel
theorem dX5_havingAt_39 : decode cX5_havingAt 39 = .ok (.ifCond .eq 6, 3) := by decide +kernel
theorem dX5_havingAt_42 : decode cX5_havingAt 42 = .ok (.iload 5, 2) := by decide +kernel
theorem dX5_havingAt_44 : decode cX5_havingAt 44 = .ok (.ireturn, 1) := by decide +kernel
theorem dX5_havingAt_45 : decode cX5_havingAt 45 = .ok (.iinc 5 1, 3) := by decide +kernel
theorem dX5_havingAt_48 : decode cX5_havingAt 48 = .ok (.goto (-36), 3) := by decide +kernel
theorem dX5_havingAt_51 : decode cX5_havingAt 51 = .ok (.aload_n 0, 1) := by decide +kernel
theorem dX5_havingAt_52 : decode cX5_havingAt 52 = .ok (.getfield 12, 3) := by decide +kernel
theorem dX5_havingAt_55 : decode cX5_havingAt 55 = .ok (.invokevirtual 38, 3) := by decide +kernel
theorem dX5_havingAt_58 : decode cX5_havingAt 58 = .ok (.ireturn, 1) := by decide +kernel
set_option maxRecDepth 20000 in
theorem ggX5_friendAt_X7_summed : GoodIn wsX5_friendAt wsX7_summed := goodIn_r _ [7, 8, 9, 28, 29, 30] rfl (by decide +kernel)
set_option maxRecDepth 20000 in
theorem gX5_friendAt_X7_summed : GoodIn wsX5_friendAt (wsV RX5 42 RX7 yX7_summed wsX7_summed) := goodIn_app (goodIn_sub (List.forall_mem_cons.mpr ⟨List.mem_of_getElem? (i := 3) rfl, List.forall_mem_cons.mpr ⟨List.mem_of_getElem? (i := 4) rfl, List.forall_mem_cons.mpr ⟨List.mem_of_getElem? (i := 5) rfl, List.forall_mem_cons.mpr ⟨List.mem_of_getElem? (i := 6) rfl, fun _ h => absurd h List.not_mem_nil⟩⟩⟩⟩) (by decide +kernel)) ggX5_friendAt_X7_summed
set_option maxRecDepth 20000 in
theorem ggX5_friendAt_X2_begin : GoodIn wsX5_friendAt wsX2_begin := goodIn_r _ [14, 15, 16, 31, 32] rfl (by decide +kernel)
set_option maxRecDepth 20000 in
theorem gX5_friendAt_X2_begin : GoodIn wsX5_friendAt (wsV RX5 26 RX2 yX2_begin wsX2_begin) := goodIn_app (goodIn_sub (List.forall_mem_cons.mpr ⟨List.mem_of_getElem? (i := 10) rfl, List.forall_mem_cons.mpr ⟨List.mem_of_getElem? (i := 11) rfl, List.forall_mem_cons.mpr ⟨List.mem_of_getElem? (i := 12) rfl, List.forall_mem_cons.mpr ⟨List.mem_of_getElem? (i := 13) rfl, fun _ h => absurd h List.not_mem_nil⟩⟩⟩⟩) (by decide +kernel)) ggX5_friendAt_X2_begin
set_option maxRecDepth 20000 in
theorem ggX5_friendAt_X2_isNext : GoodIn wsX5_friendAt wsX2_isNext := goodIn_r _ [20, 16, 15, 31, 32] rfl (by decide +kernel)
set_option maxRecDepth 20000 in
theorem gX5_friendAt_X2_isNext : GoodIn wsX5_friendAt (wsV RX5 34 RX2 yX2_isNext wsX2_isNext) := goodIn_app (goodIn_sub (List.forall_mem_cons.mpr ⟨List.mem_of_getElem? (i := 17) rfl, List.forall_mem_cons.mpr ⟨List.mem_of_getElem? (i := 18) rfl, List.forall_mem_cons.mpr ⟨List.mem_of_getElem? (i := 19) rfl, List.forall_mem_cons.mpr ⟨List.mem_of_getElem? (i := 13) rfl, fun _ h => absurd h List.not_mem_nil⟩⟩⟩⟩) (by decide +kernel)) ggX5_friendAt_X2_isNext
set_option maxRecDepth 20000 in
theorem ggX5_friendAt_X2_notFound : GoodIn wsX5_friendAt wsX2_notFound := goodIn_r _ [24, 15, 16, 31, 32] rfl (by decide +kernel)
set_option maxRecDepth 20000 in
theorem gX5_friendAt_X2_notFound : GoodIn wsX5_friendAt (wsV RX5 38 RX2 yX2_notFound wsX2_notFound) := goodIn_app (goodIn_sub (List.forall_mem_cons.mpr ⟨List.mem_of_getElem? (i := 21) rfl, List.forall_mem_cons.mpr ⟨List.mem_of_getElem? (i := 22) rfl, List.forall_mem_cons.mpr ⟨List.mem_of_getElem? (i := 23) rfl, List.forall_mem_cons.mpr ⟨List.mem_of_getElem? (i := 13) rfl, fun _ h => absurd h List.not_mem_nil⟩⟩⟩⟩) (by decide +kernel)) ggX5_friendAt_X2_notFound
theorem dX5_friendAt_0 : decode cX5_friendAt 0 = .ok (.aload_n 0, 1) := by decide +kernel
theorem dX5_friendAt_1 : decode cX5_friendAt 1 = .ok (.getfield 18, 3) := by decide +kernel
theorem dX5_friendAt_4 : decode cX5_friendAt 4 = .ok (.iconst 0, 1) := by decide +kernel
theorem dX5_friendAt_5 : decode cX5_friendAt 5 = .ok (.iload_n 1, 1) := by decide +kernel
theorem dX5_friendAt_6 : decode cX5_friendAt 6 = .ok (.invokevirtual 42, 3) := by decide +kernel
theorem dX5_friendAt_9 : decode cX5_friendAt 9 = .ok (.i2l, 1) := by decide +kernel
theorem dX5_friendAt_10 : decode cX5_friendAt 10 = .ok (.lstore 4, 2) := by decide +kernel
theorem dX5_friendAt_12 : decode cX5_friendAt 12 = .ok (.aload_n 0, 1) := by decide +kernel
theorem dX5_friendAt_13 : decode cX5_friendAt 13 = .ok (.getfield 12, 3) := by decide +kernel
theorem dX5_friendAt_16 : decode cX5_friendAt 16 = .ok (.iload_n 3, 1) := by decide +kernel
theorem dX5_friendAt_17 : decode cX5_friendAt 17 = .ok (.invokevirtual 26, 3) := by decide +kernel
theorem dX5_friendAt_20 : decode cX5_friendAt 20 = .ok (.iconst 1, 1) := by decide +kernel
theorem dX5_friendAt_21 : decode cX5_friendAt 21 = .ok (.istore 6, 2) := by decide +kernel
theorem dX5_friendAt_23 : decode cX5_friendAt 23 = .ok (.iload 6, 2) := by decide +kernel
theorem dX5_friendAt_25 : decode cX5_friendAt 25 = .ok (.iload_n 2, 1) := by decide +kernel
theorem dX5_friendAt_26 : decode cX5_friendAt 26 = .ok (.if_icmp .gt 64, 3) := by decide +kernel
theorem dX5_friendAt_29 : decode cX5_friendAt 29 = .ok (.aload_n 0, 1) := by decide +kernel
theorem dX5_friendAt_30 : decode cX5_friendAt 30 = .ok (.getfield 18, 3) := by decide +kernel
theorem dX5_friendAt_33 : decode cX5_friendAt 33 = .ok (.iconst 0, 1) := by decide +kernel
theorem dX5_friendAt_34 : decode cX5_friendAt 34 = .ok (.iload 6, 2) := by decide +kernel
theorem dX5_friendAt_36 : decode cX5_friendAt 36 = .ok (.invokevirtual 42, 3) := by decide +kernel
theorem dX5_friendAt_39 : decode cX5_friendAt 39 = .ok (.i2l, 1) := by decide +kernel
theorem dX5_friendAt_40 : decode cX5_friendAt 40 = .ok (.iload_n 1, 1) := by decide +kernel
theorem dX5_friendAt_41 : decode cX5_friendAt 41 = .ok (.i2l, 1) := by decide +kernel
theorem dX5_friendAt_42 : decode cX5_friendAt 42 = .ok (.lmul, 1) := by decide +kernel
theorem dX5_friendAt_43 : decode cX5_friendAt 43 = .ok (.lload 4, 2) := by decide +kernel
theorem dX5_friendAt_45 : decode cX5_friendAt 45 = .ok (.iload 6, 2) := by decide +kernel
theorem dX5_friendAt_47 : decode cX5_friendAt 47 = .ok (.i2l, 1) := by decide +kernel
theorem dX5_friendAt_48 : decode cX5_friendAt 48 = .ok (.lmul, 1) := by decide +kernel
theorem dX5_friendAt_49 : decode cX5_friendAt 49 = .ok (.lcmp, 1) := by decide +kernel
theorem dX5_friendAt_50 : decode cX5_friendAt 50 = .ok (.ifCond .ne 7, 3) := by decide +kernel
theorem dX5_friendAt_53 : decode cX5_friendAt 53 = .ok (.iconst 1, 1) := by decide +kernel
theorem dX5_friendAt_54 : decode cX5_friendAt 54 = .ok (.goto 4, 3) := by decide +kernel
theorem dX5_friendAt_57 : decode cX5_friendAt 57 = .ok (.iconst 0, 1) := by decide +kernel
theorem dX5_friendAt_58 : decode cX5_friendAt 58 = .ok (.istore 7, 2) := by decide +kernel
theorem dX5_friendAt_60 : decode cX5_friendAt 60 = .ok (.iload 6, 2) := by decide +kernel
theorem dX5_friendAt_62 : decode cX5_friendAt 62 = .ok (.iload_n 1, 1) := by decide +kernel
theorem dX5_friendAt_63 : decode cX5_friendAt 63 = .ok (.if_icmp .eq 21, 3) := by decide +kernel
theorem dX5_friendAt_66 : decode cX5_friendAt 66 = .ok (.iload 7, 2) := by decide +kernel
theorem dX5_friendAt_68 : decode cX5_friendAt 68 = .ok (.ifCond .eq 16, 3) := by decide +kernel
theorem dX5_friendAt_71 : decode cX5_friendAt 71 = .ok (.aload_n 0, 1) := by decide +kernel
theorem dX5_friendAt_72 : decode cX5_friendAt 72 = .ok (.getfield 12, 3) := by decide +kernel
theorem dX5_friendAt_75 : decode cX5_friendAt 75 = .ok (.invokevirtual 34, 3) := by decide +kernel
theorem dX5_friendAt_78 : decode cX5_friendAt 78 = .ok (.ifCond .eq 6, 3) := by decide +kernel
theorem dX5_friendAt_81 : decode cX5_friendAt 81 = .ok (.iload 6, 2) := by decide +kernel
theorem dX5_friendAt_83 : decode cX5_friendAt 83 = .ok (.ireturn, 1) := by decide +kernel
theorem dX5_friendAt_84 : decode cX5_friendAt 84 = .ok (.iinc 6 1, 3) := by decide +kernel
theorem dX5_friendAt_87 : decode cX5_friendAt 87 = .ok (.goto (-64), 3) := by decide +kernel
theorem dX5_friendAt_90 : decode cX5_friendAt 90 = .ok (.aload_n 0, 1) := by decide +kernel
theorem dX5_friendAt_91 : decode cX5_friendAt 91 = .ok (.getfield 12, 3) := by decide +kernel
theorem dX5_friendAt_94 : decode cX5_friendAt 94 = .ok (.invokevirtual 38, 3) := by decide +kernel
theorem dX5_friendAt_97 : decode cX5_friendAt 97 = .ok (.ireturn, 1) := by decide +kernel
set_option maxRecDepth 20000 in
theorem ggX5_firstReaching_X7_summed : GoodIn wsX5_firstReaching wsX7_summed := goodIn_r _ [6, 7, 8, 12, 13, 14] rfl (by decide +kernel)
set_option maxRecDepth 20000 in
theorem gX5_firstReaching_X7_summed : GoodIn wsX5_firstReaching (wsV RX5 42 RX7 yX7_summed wsX7_summed) := goodIn_app (goodIn_sub (List.forall_mem_cons.mpr ⟨List.mem_of_getElem? (i := 2) rfl, List.forall_mem_cons.mpr ⟨List.mem_of_getElem? (i := 3) rfl, List.forall_mem_cons.mpr ⟨List.mem_of_getElem? (i := 4) rfl, List.forall_mem_cons.mpr ⟨List.mem_of_getElem? (i := 5) rfl, fun _ h => absurd h List.not_mem_nil⟩⟩⟩⟩) (by decide +kernel)) ggX5_firstReaching_X7_summed
theorem dX5_firstReaching_0 : decode cX5_firstReaching 0 = .ok (.iconst 1, 1) := by decide +kernel
theorem dX5_firstReaching_1 : decode cX5_firstReaching 1 = .ok (.istore 4, 2) := by decide +kernel
theorem dX5_firstReaching_3 : decode cX5_firstReaching 3 = .ok (.iload 4, 2) := by decide +kernel
theorem dX5_firstReaching_5 : decode cX5_firstReaching 5 = .ok (.iload_n 3, 1) := by decide +kernel
theorem dX5_firstReaching_6 : decode cX5_firstReaching 6 = .ok (.if_icmp .gt 36, 3) := by decide +kernel
theorem dX5_firstReaching_9 : decode cX5_firstReaching 9 = .ok (.aload_n 0, 1) := by decide +kernel
theorem dX5_firstReaching_10 : decode cX5_firstReaching 10 = .ok (.getfield 18, 3) := by decide +kernel
theorem dX5_firstReaching_13 : decode cX5_firstReaching 13 = .ok (.iconst 0, 1) := by decide +kernel
theorem dX5_firstReaching_14 : decode cX5_firstReaching 14 = .ok (.iload 4, 2) := by decide +kernel
theorem dX5_firstReaching_16 : decode cX5_firstReaching 16 = .ok (.invokevirtual 42, 3) := by decide +kernel
theorem dX5_firstReaching_19 : decode cX5_firstReaching 19 = .ok (.i2l, 1) := by decide +kernel
theorem dX5_firstReaching_20 : decode cX5_firstReaching 20 = .ok (.iload_n 2, 1) := by decide +kernel
theorem dX5_firstReaching_21 : decode cX5_firstReaching 21 = .ok (.i2l, 1) := by decide +kernel
theorem dX5_firstReaching_22 : decode cX5_firstReaching 22 = .ok (.lmul, 1) := by decide +kernel
theorem dX5_firstReaching_23 : decode cX5_firstReaching 23 = .ok (.iload_n 1, 1) := by decide +kernel
theorem dX5_firstReaching_24 : decode cX5_firstReaching 24 = .ok (.i2l, 1) := by decide +kernel
theorem dX5_firstReaching_25 : decode cX5_firstReaching 25 = .ok (.iload 4, 2) := by decide +kernel
theorem dX5_firstReaching_27 : decode cX5_firstReaching 27 = .ok (.i2l, 1) := by decide +kernel
theorem dX5_firstReaching_28 : decode cX5_firstReaching 28 = .ok (.lmul, 1) := by decide +kernel
theorem dX5_firstReaching_29 : decode cX5_firstReaching 29 = .ok (.lcmp, 1) := by decide +kernel
theorem dX5_firstReaching_30 : decode cX5_firstReaching 30 = .ok (.ifCond .lt 6, 3) := by decide +kernel
theorem dX5_firstReaching_33 : decode cX5_firstReaching 33 = .ok (.iload 4, 2) := by decide +kernel
theorem dX5_firstReaching_35 : decode cX5_firstReaching 35 = .ok (.ireturn, 1) := by decide +kernel
theorem dX5_firstReaching_36 : decode cX5_firstReaching 36 = .ok (.iinc 4 1, 3) := by decide +kernel
theorem dX5_firstReaching_39 : decode cX5_firstReaching 39 = .ok (.goto (-36), 3) := by decide +kernel
theorem dX5_firstReaching_42 : decode cX5_firstReaching 42 = .ok (.bipush (-4), 2) := by decide +kernel
theorem dX5_firstReaching_44 : decode cX5_firstReaching 44 = .ok (.ireturn, 1) := by decide +kernel
set_option maxRecDepth 20000 in
theorem ggX5_recordAt_X2_begin : GoodIn wsX5_recordAt wsX2_begin := goodIn_r _ [7, 8, 9, 28, 29] rfl (by decide +kernel)
set_option maxRecDepth 20000 in
theorem gX5_recordAt_X2_begin : GoodIn wsX5_recordAt (wsV RX5 26 RX2 yX2_begin wsX2_begin) := goodIn_app (goodIn_sub (List.forall_mem_cons.mpr ⟨List.mem_of_getElem? (i := 3) rfl, List.forall_mem_cons.mpr ⟨List.mem_of_getElem? (i := 4) rfl, List.forall_mem_cons.mpr ⟨List.mem_of_getElem? (i := 5) rfl, List.forall_mem_cons.mpr ⟨List.mem_of_getElem? (i := 6) rfl, fun _ h => absurd h List.not_mem_nil⟩⟩⟩⟩) (by decide +kernel)) ggX5_recordAt_X2_begin
set_option maxRecDepth 20000 in
theorem ggX5_recordAt_X7_summed : GoodIn wsX5_recordAt wsX7_summed := goodIn_r _ [14, 15, 16, 30, 31, 32] rfl (by decide +kernel)
set_option maxRecDepth 20000 in
theorem gX5_recordAt_X7_summed : GoodIn wsX5_recordAt (wsV RX5 42 RX7 yX7_summed wsX7_summed) := goodIn_app (goodIn_sub (List.forall_mem_cons.mpr ⟨List.mem_of_getElem? (i := 10) rfl, List.forall_mem_cons.mpr ⟨List.mem_of_getElem? (i := 11) rfl, List.forall_mem_cons.mpr ⟨List.mem_of_getElem? (i := 12) rfl, List.forall_mem_cons.mpr ⟨List.mem_of_getElem? (i := 13) rfl, fun _ h => absurd h List.not_mem_nil⟩⟩⟩⟩) (by decide +kernel)) ggX5_recordAt_X7_summed
set_option maxRecDepth 20000 in
theorem ggX5_recordAt_X2_isNext : GoodIn wsX5_recordAt wsX2_isNext := goodIn_r _ [20, 9, 8, 28, 29] rfl (by decide +kernel)
set_option maxRecDepth 20000 in
theorem gX5_recordAt_X2_isNext : GoodIn wsX5_recordAt (wsV RX5 34 RX2 yX2_isNext wsX2_isNext) := goodIn_app (goodIn_sub (List.forall_mem_cons.mpr ⟨List.mem_of_getElem? (i := 17) rfl, List.forall_mem_cons.mpr ⟨List.mem_of_getElem? (i := 18) rfl, List.forall_mem_cons.mpr ⟨List.mem_of_getElem? (i := 19) rfl, List.forall_mem_cons.mpr ⟨List.mem_of_getElem? (i := 6) rfl, fun _ h => absurd h List.not_mem_nil⟩⟩⟩⟩) (by decide +kernel)) ggX5_recordAt_X2_isNext
set_option maxRecDepth 20000 in
theorem ggX5_recordAt_X2_notFound : GoodIn wsX5_recordAt wsX2_notFound := goodIn_r _ [24, 8, 9, 28, 29] rfl (by decide +kernel)
set_option maxRecDepth 20000 in
theorem gX5_recordAt_X2_notFound : GoodIn wsX5_recordAt (wsV RX5 38 RX2 yX2_notFound wsX2_notFound) := goodIn_app (goodIn_sub (List.forall_mem_cons.mpr ⟨List.mem_of_getElem? (i := 21) rfl, List.forall_mem_cons.mpr ⟨List.mem_of_getElem? (i := 22) rfl, List.forall_mem_cons.mpr ⟨List.mem_of_getElem? (i := 23) rfl, List.forall_mem_cons.mpr ⟨List.mem_of_getElem? (i := 6) rfl, fun _ h => absurd h List.not_mem_nil⟩⟩⟩⟩) (by decide +kernel)) ggX5_recordAt_X2_notFound
theorem dX5_recordAt_0 : decode cX5_recordAt 0 = .ok (.lconst 0, 1) := by decide +kernel
theorem dX5_recordAt_1 : decode cX5_recordAt 1 = .ok (.lstore 4, 2) := by decide +kernel
theorem dX5_recordAt_3 : decode cX5_recordAt 3 = .ok (.lconst 1, 1) := by decide +kernel
theorem dX5_recordAt_4 : decode cX5_recordAt 4 = .ok (.lstore 6, 2) := by decide +kernel
theorem dX5_recordAt_6 : decode cX5_recordAt 6 = .ok (.aload_n 0, 1) := by decide +kernel
theorem dX5_recordAt_7 : decode cX5_recordAt 7 = .ok (.getfield 12, 3) := by decide +kernel
theorem dX5_recordAt_10 : decode cX5_recordAt 10 = .ok (.iload_n 3, 1) := by decide +kernel
theorem dX5_recordAt_11 : decode cX5_recordAt 11 = .ok (.invokevirtual 26, 3) := by decide +kernel
theorem dX5_recordAt_14 : decode cX5_recordAt 14 = .ok (.iconst 1, 1) := by decide +kernel
theorem dX5_recordAt_15 : decode cX5_recordAt 15 = .ok (.istore 8, 2) := by decide +kernel
theorem dX5_recordAt_17 : decode cX5_recordAt 17 = .ok (.iload 8, 2) := by decide +kernel
theorem dX5_recordAt_19 : decode cX5_recordAt 19 = .ok (.iload_n 2, 1) := by decide +kernel
theorem dX5_recordAt_20 : decode cX5_recordAt 20 = .ok (.if_icmp .gt 70, 3) := by decide +kernel
theorem dX5_recordAt_23 : decode cX5_recordAt 23 = .ok (.aload_n 0, 1) := by decide +kernel
theorem dX5_recordAt_24 : decode cX5_recordAt 24 = .ok (.getfield 18, 3) := by decide +kernel
theorem dX5_recordAt_27 : decode cX5_recordAt 27 = .ok (.iconst 0, 1) := by decide +kernel
theorem dX5_recordAt_28 : decode cX5_recordAt 28 = .ok (.iload 8, 2) := by decide +kernel
theorem dX5_recordAt_30 : decode cX5_recordAt 30 = .ok (.invokevirtual 42, 3) := by decide +kernel
theorem dX5_recordAt_33 : decode cX5_recordAt 33 = .ok (.i2l, 1) := by decide +kernel
theorem dX5_recordAt_34 : decode cX5_recordAt 34 = .ok (.lstore 9, 2) := by decide +kernel
theorem dX5_recordAt_36 : decode cX5_recordAt 36 = .ok (.iload_n 1, 1) := by decide +kernel
theorem dX5_recordAt_37 : decode cX5_recordAt 37 = .ok (.ifCond .ne 7, 3) := by decide +kernel
theorem dX5_recordAt_40 : decode cX5_recordAt 40 = .ok (.lconst 1, 1) := by decide +kernel
theorem dX5_recordAt_41 : decode cX5_recordAt 41 = .ok (.goto 6, 3) := by decide +kernel
theorem dX5_recordAt_44 : decode cX5_recordAt 44 = .ok (.iload 8, 2) := by decide +kernel
theorem dX5_recordAt_46 : decode cX5_recordAt 46 = .ok (.i2l, 1) := by decide +kernel
theorem dX5_recordAt_47 : decode cX5_recordAt 47 = .ok (.lstore 11, 2) := by decide +kernel
theorem dX5_recordAt_49 : decode cX5_recordAt 49 = .ok (.lload 9, 2) := by decide +kernel
theorem dX5_recordAt_51 : decode cX5_recordAt 51 = .ok (.lload 6, 2) := by decide +kernel
theorem dX5_recordAt_53 : decode cX5_recordAt 53 = .ok (.lmul, 1) := by decide +kernel
theorem dX5_recordAt_54 : decode cX5_recordAt 54 = .ok (.lload 4, 2) := by decide +kernel
theorem dX5_recordAt_56 : decode cX5_recordAt 56 = .ok (.lload 11, 2) := by decide +kernel
theorem dX5_recordAt_58 : decode cX5_recordAt 58 = .ok (.lmul, 1) := by decide +kernel
theorem dX5_recordAt_59 : decode cX5_recordAt 59 = .ok (.lcmp, 1) := by decide +kernel
theorem dX5_recordAt_60 : decode cX5_recordAt 60 = .ok (.ifCond .le 24, 3) := by decide +kernel
theorem dX5_recordAt_63 : decode cX5_recordAt 63 = .ok (.aload_n 0, 1) := by decide +kernel
theorem dX5_recordAt_64 : decode cX5_recordAt 64 = .ok (.getfield 12, 3) := by decide +kernel
theorem dX5_recordAt_67 : decode cX5_recordAt 67 = .ok (.invokevirtual 34, 3) := by decide +kernel
theorem dX5_recordAt_70 : decode cX5_recordAt 70 = .ok (.ifCond .eq 6, 3) := by decide +kernel
theorem dX5_recordAt_73 : decode cX5_recordAt 73 = .ok (.iload 8, 2) := by decide +kernel
theorem dX5_recordAt_75 : decode cX5_recordAt 75 = .ok (.ireturn, 1) := by decide +kernel
theorem dX5_recordAt_76 : decode cX5_recordAt 76 = .ok (.lload 9, 2) := by decide +kernel
theorem dX5_recordAt_78 : decode cX5_recordAt 78 = .ok (.lstore 4, 2) := by decide +kernel
theorem dX5_recordAt_80 : decode cX5_recordAt 80 = .ok (.lload 11, 2) := by decide +kernel
theorem dX5_recordAt_82 : decode cX5_recordAt 82 = .ok (.lstore 6, 2) := by decide +kernel
theorem dX5_recordAt_84 : decode cX5_recordAt 84 = .ok (.iinc 8 1, 3) := by decide +kernel
theorem dX5_recordAt_87 : decode cX5_recordAt 87 = .ok (.goto (-70), 3) := by decide +kernel
theorem dX5_recordAt_90 : decode cX5_recordAt 90 = .ok (.aload_n 0, 1) := by decide +kernel
theorem dX5_recordAt_91 : decode cX5_recordAt 91 = .ok (.getfield 12, 3) := by decide +kernel
theorem dX5_recordAt_94 : decode cX5_recordAt 94 = .ok (.invokevirtual 38, 3) := by decide +kernel
theorem dX5_recordAt_97 : decode cX5_recordAt 97 = .ok (.ireturn, 1) := by decide +kernel
set_option maxRecDepth 20000 in
theorem ggX5_howManyFall_X4_cleared : GoodIn wsX5_howManyFall wsX4_cleared := goodIn_r _ [6, 7, 8, 9, 5, 10, 11, 12, 13, 14, 15, 16, 17, 38] rfl (by decide +kernel)
set_option maxRecDepth 20000 in
theorem gX5_howManyFall_X4_cleared : GoodIn wsX5_howManyFall (wsV RX5 48 RX4 yX4_cleared wsX4_cleared) := goodIn_app (goodIn_sub (List.forall_mem_cons.mpr ⟨List.mem_of_getElem? (i := 2) rfl, List.forall_mem_cons.mpr ⟨List.mem_of_getElem? (i := 3) rfl, List.forall_mem_cons.mpr ⟨List.mem_of_getElem? (i := 4) rfl, List.forall_mem_cons.mpr ⟨List.mem_of_getElem? (i := 5) rfl, fun _ h => absurd h List.not_mem_nil⟩⟩⟩⟩) (by decide +kernel)) ggX5_howManyFall_X4_cleared
set_option maxRecDepth 20000 in
theorem ggX5_howManyFall_X5_tellWay : GoodIn wsX5_howManyFall wsX5_tellWay := goodIn_r _ [22, 23, 24, 25, 26, 21, 27, 28, 29, 30, 31, 32, 33, 34, 35, 36, 37, 39, 40, 41] rfl (by decide +kernel)
set_option maxRecDepth 20000 in
theorem gX5_howManyFall_X5_tellWay : GoodIn wsX5_howManyFall (wsV RX5 54 RX5 yX5_tellWay wsX5_tellWay) := goodIn_app (goodIn_sub (List.forall_mem_cons.mpr ⟨List.mem_of_getElem? (i := 18) rfl, List.forall_mem_cons.mpr ⟨List.mem_of_getElem? (i := 19) rfl, List.forall_mem_cons.mpr ⟨List.mem_of_getElem? (i := 20) rfl, List.forall_mem_cons.mpr ⟨List.mem_of_getElem? (i := 21) rfl, fun _ h => absurd h List.not_mem_nil⟩⟩⟩⟩) (by decide +kernel)) ggX5_howManyFall_X5_tellWay
theorem dX5_howManyFall_0 : decode cX5_howManyFall 0 = .ok (.iload_n 2, 1) := by decide +kernel
theorem dX5_howManyFall_1 : decode cX5_howManyFall 1 = .ok (.iload 4, 2) := by decide +kernel
theorem dX5_howManyFall_3 : decode cX5_howManyFall 3 = .ok (.if_icmp .le 5, 3) := by decide +kernel
theorem dX5_howManyFall_6 : decode cX5_howManyFall 6 = .ok (.iconst 0, 1) := by decide +kernel
theorem dX5_howManyFall_7 : decode cX5_howManyFall 7 = .ok (.ireturn, 1) := by decide +kernel
theorem dX5_howManyFall_8 : decode cX5_howManyFall 8 = .ok (.aload_n 0, 1) := by decide +kernel
theorem dX5_howManyFall_9 : decode cX5_howManyFall 9 = .ok (.getfield 22, 3) := by decide +kernel
theorem dX5_howManyFall_12 : decode cX5_howManyFall 12 = .ok (.invokevirtual 48, 3) := by decide +kernel
theorem dX5_howManyFall_15 : decode cX5_howManyFall 15 = .ok (.astore 5, 2) := by decide +kernel
theorem dX5_howManyFall_17 : decode cX5_howManyFall 17 = .ok (.iload_n 2, 1) := by decide +kernel
theorem dX5_howManyFall_18 : decode cX5_howManyFall 18 = .ok (.iconst 1, 1) := by decide +kernel
theorem dX5_howManyFall_19 : decode cX5_howManyFall 19 = .ok (.if_icmp .lt 11, 3) := by decide +kernel
theorem dX5_howManyFall_22 : decode cX5_howManyFall 22 = .ok (.iload 4, 2) := by decide +kernel
theorem dX5_howManyFall_24 : decode cX5_howManyFall 24 = .ok (.aload 5, 2) := by decide +kernel
theorem dX5_howManyFall_26 : decode cX5_howManyFall 26 = .ok (.arraylength, 1) := by decide +kernel
theorem dX5_howManyFall_27 : decode cX5_howManyFall 27 = .ok (.if_icmp .lt 5, 3) := by decide +kernel
theorem dX5_howManyFall_30 : decode cX5_howManyFall 30 = .ok (.iconst 0, 1) := by decide +kernel
theorem dX5_howManyFall_31 : decode cX5_howManyFall 31 = .ok (.ireturn, 1) := by decide +kernel
theorem dX5_howManyFall_32 : decode cX5_howManyFall 32 = .ok (.aload 5, 2) := by decide +kernel
theorem dX5_howManyFall_34 : decode cX5_howManyFall 34 = .ok (.iload_n 2, 1) := by decide +kernel
theorem dX5_howManyFall_35 : decode cX5_howManyFall 35 = .ok (.iconst 1, 1) := by decide +kernel
theorem dX5_howManyFall_36 : decode cX5_howManyFall 36 = .ok (.iastore, 1) := by decide +kernel
theorem dX5_howManyFall_37 : decode cX5_howManyFall 37 = .ok (.iconst 0, 1) := by decide +kernel
theorem dX5_howManyFall_38 : decode cX5_howManyFall 38 = .ok (.istore 6, 2) := by decide +kernel
theorem dX5_howManyFall_40 : decode cX5_howManyFall 40 = .ok (.iconst 1, 1) := by decide +kernel
theorem dX5_howManyFall_41 : decode cX5_howManyFall 41 = .ok (.istore 7, 2) := by decide +kernel
theorem dX5_howManyFall_43 : decode cX5_howManyFall 43 = .ok (.iload 7, 2) := by decide +kernel
theorem dX5_howManyFall_45 : decode cX5_howManyFall 45 = .ok (.iload 4, 2) := by decide +kernel
theorem dX5_howManyFall_47 : decode cX5_howManyFall 47 = .ok (.if_icmp .gt 50, 3) := by decide +kernel
theorem dX5_howManyFall_50 : decode cX5_howManyFall 50 = .ok (.aload 5, 2) := by decide +kernel
theorem dX5_howManyFall_52 : decode cX5_howManyFall 52 = .ok (.iload 7, 2) := by decide +kernel
theorem dX5_howManyFall_54 : decode cX5_howManyFall 54 = .ok (.iaload, 1) := by decide +kernel
theorem dX5_howManyFall_55 : decode cX5_howManyFall 55 = .ok (.ifCond .ne 14, 3) := by decide +kernel
theorem dX5_howManyFall_58 : decode cX5_howManyFall 58 = .ok (.aload_n 0, 1) := by decide +kernel
theorem dX5_howManyFall_59 : decode cX5_howManyFall 59 = .ok (.iload_n 1, 1) := by decide +kernel
theorem dX5_howManyFall_60 : decode cX5_howManyFall 60 = .ok (.iload 4, 2) := by decide +kernel
theorem dX5_howManyFall_62 : decode cX5_howManyFall 62 = .ok (.iload 7, 2) := by decide +kernel
theorem dX5_howManyFall_64 : decode cX5_howManyFall 64 = .ok (.aload 5, 2) := by decide +kernel
theorem dX5_howManyFall_66 : decode cX5_howManyFall 66 = .ok (.invokevirtual 54, 3) := by decide +kernel
theorem dX5_howManyFall_69 : decode cX5_howManyFall 69 = .ok (.aload 5, 2) := by decide +kernel
theorem dX5_howManyFall_71 : decode cX5_howManyFall 71 = .ok (.iload 7, 2) := by decide +kernel
theorem dX5_howManyFall_73 : decode cX5_howManyFall 73 = .ok (.iaload, 1) := by decide +kernel
theorem dX5_howManyFall_74 : decode cX5_howManyFall 74 = .ok (.ifCond .le 17, 3) := by decide +kernel
theorem dX5_howManyFall_77 : decode cX5_howManyFall 77 = .ok (.aload 5, 2) := by decide +kernel
theorem dX5_howManyFall_79 : decode cX5_howManyFall 79 = .ok (.iload 7, 2) := by decide +kernel
theorem dX5_howManyFall_81 : decode cX5_howManyFall 81 = .ok (.iaload, 1) := by decide +kernel
theorem dX5_howManyFall_82 : decode cX5_howManyFall 82 = .ok (.iload_n 3, 1) := by decide +kernel
theorem dX5_howManyFall_83 : decode cX5_howManyFall 83 = .ok (.iconst 1, 1) := by decide +kernel
theorem dX5_howManyFall_84 : decode cX5_howManyFall 84 = .ok (.iadd, 1) := by decide +kernel
theorem dX5_howManyFall_85 : decode cX5_howManyFall 85 = .ok (.if_icmp .gt 6, 3) := by decide +kernel
theorem dX5_howManyFall_88 : decode cX5_howManyFall 88 = .ok (.iinc 6 1, 3) := by decide +kernel
theorem dX5_howManyFall_91 : decode cX5_howManyFall 91 = .ok (.iinc 7 1, 3) := by decide +kernel
theorem dX5_howManyFall_94 : decode cX5_howManyFall 94 = .ok (.goto (-51), 3) := by decide +kernel
theorem dX5_howManyFall_97 : decode cX5_howManyFall 97 = .ok (.iload 6, 2) := by decide +kernel
theorem dX5_howManyFall_99 : decode cX5_howManyFall 99 = .ok (.ireturn, 1) := by decide +kernel
set_option maxRecDepth 20000 in
theorem ggX5_tellWay_X5_isOpen : GoodIn wsX5_tellWay wsX5_isOpen := goodIn_r _ [6] rfl (by decide +kernel)
set_option maxRecDepth 20000 in
theorem gX5_tellWay_X5_isOpen : GoodIn wsX5_tellWay (va_wsS RX5 59 yX5_isOpen wsX5_isOpen) := goodIn_app (goodIn_sub (List.forall_mem_cons.mpr ⟨List.mem_of_getElem? (i := 3) rfl, List.forall_mem_cons.mpr ⟨List.mem_of_getElem? (i := 4) rfl, List.forall_mem_cons.mpr ⟨List.mem_of_getElem? (i := 5) rfl, fun _ h => absurd h List.not_mem_nil⟩⟩⟩) (by decide +kernel)) ggX5_tellWay_X5_isOpen
set_option maxRecDepth 20000 in
theorem ggX5_tellWay_X7_summed : GoodIn wsX5_tellWay wsX7_summed := goodIn_r _ [11, 12, 13, 17, 18, 19] rfl (by decide +kernel)
set_option maxRecDepth 20000 in
theorem gX5_tellWay_X7_summed : GoodIn wsX5_tellWay (wsV RX5 42 RX7 yX7_summed wsX7_summed) := goodIn_app (goodIn_sub (List.forall_mem_cons.mpr ⟨List.mem_of_getElem? (i := 7) rfl, List.forall_mem_cons.mpr ⟨List.mem_of_getElem? (i := 8) rfl, List.forall_mem_cons.mpr ⟨List.mem_of_getElem? (i := 9) rfl, List.forall_mem_cons.mpr ⟨List.mem_of_getElem? (i := 10) rfl, fun _ h => absurd h List.not_mem_nil⟩⟩⟩⟩) (by decide +kernel)) ggX5_tellWay_X7_summed
theorem dX5_tellWay_0 : decode cX5_tellWay 0 = .ok (.iconst 0, 1) := by decide +kernel
theorem dX5_tellWay_1 : decode cX5_tellWay 1 = .ok (.istore 5, 2) := by decide +kernel
theorem dX5_tellWay_3 : decode cX5_tellWay 3 = .ok (.iload_n 3, 1) := by decide +kernel
theorem dX5_tellWay_4 : decode cX5_tellWay 4 = .ok (.istore 6, 2) := by decide +kernel
theorem dX5_tellWay_6 : decode cX5_tellWay 6 = .ok (.iconst 0, 1) := by decide +kernel
theorem dX5_tellWay_7 : decode cX5_tellWay 7 = .ok (.istore 7, 2) := by decide +kernel
theorem dX5_tellWay_9 : decode cX5_tellWay 9 = .ok (.iload 7, 2) := by decide +kernel
theorem dX5_tellWay_11 : decode cX5_tellWay 11 = .ok (.ldc 58, 2) := by decide +kernel
theorem dX5_tellWay_13 : decode cX5_tellWay 13 = .ok (.if_icmp .ge 41, 3) := by decide +kernel
theorem dX5_tellWay_16 : decode cX5_tellWay 16 = .ok (.iload 6, 2) := by decide +kernel
theorem dX5_tellWay_18 : decode cX5_tellWay 18 = .ok (.iload_n 2, 1) := by decide +kernel
theorem dX5_tellWay_19 : decode cX5_tellWay 19 = .ok (.aload 4, 2) := by decide +kernel
theorem dX5_tellWay_21 : decode cX5_tellWay 21 = .ok (.invokestatic 59, 3) := by decide +kernel
theorem dX5_tellWay_24 : decode cX5_tellWay 24 = .ok (.ifCond .eq 30, 3) := by decide +kernel
theorem dX5_tellWay_27 : decode cX5_tellWay 27 = .ok (.aload 4, 2) := by decide +kernel
theorem dX5_tellWay_29 : decode cX5_tellWay 29 = .ok (.iload 6, 2) := by decide +kernel
theorem dX5_tellWay_31 : decode cX5_tellWay 31 = .ok (.iconst (-1), 1) := by decide +kernel
theorem dX5_tellWay_32 : decode cX5_tellWay 32 = .ok (.iastore, 1) := by decide +kernel
theorem dX5_tellWay_33 : decode cX5_tellWay 33 = .ok (.aload_n 0, 1) := by decide +kernel
theorem dX5_tellWay_34 : decode cX5_tellWay 34 = .ok (.getfield 18, 3) := by decide +kernel
theorem dX5_tellWay_37 : decode cX5_tellWay 37 = .ok (.iload_n 1, 1) := by decide +kernel
theorem dX5_tellWay_38 : decode cX5_tellWay 38 = .ok (.iload 6, 2) := by decide +kernel
theorem dX5_tellWay_40 : decode cX5_tellWay 40 = .ok (.invokevirtual 42, 3) := by decide +kernel
theorem dX5_tellWay_43 : decode cX5_tellWay 43 = .ok (.istore 6, 2) := by decide +kernel
theorem dX5_tellWay_45 : decode cX5_tellWay 45 = .ok (.iinc 5 1, 3) := by decide +kernel
theorem dX5_tellWay_48 : decode cX5_tellWay 48 = .ok (.iinc 7 1, 3) := by decide +kernel
theorem dX5_tellWay_51 : decode cX5_tellWay 51 = .ok (.goto (-42), 3) := by decide +kernel
theorem dX5_tellWay_54 : decode cX5_tellWay 54 = .ok (.iload 6, 2) := by decide +kernel
theorem dX5_tellWay_56 : decode cX5_tellWay 56 = .ok (.iconst 1, 1) := by decide +kernel
theorem dX5_tellWay_57 : decode cX5_tellWay 57 = .ok (.if_icmp .lt 29, 3) := by decide +kernel
theorem dX5_tellWay_60 : decode cX5_tellWay 60 = .ok (.iload 6, 2) := by decide +kernel
theorem dX5_tellWay_62 : decode cX5_tellWay 62 = .ok (.iload_n 2, 1) := by decide +kernel
theorem dX5_tellWay_63 : decode cX5_tellWay 63 = .ok (.if_icmp .gt 23, 3) := by decide +kernel
theorem dX5_tellWay_66 : decode cX5_tellWay 66 = .ok (.iload 6, 2) := by decide +kernel
theorem dX5_tellWay_68 : decode cX5_tellWay 68 = .ok (.aload 4, 2) := by decide +kernel
theorem dX5_tellWay_70 : decode cX5_tellWay 70 = .ok (.arraylength, 1) := by decide +kernel
theorem dX5_tellWay_71 : decode cX5_tellWay 71 = .ok (.if_icmp .ge 15, 3) := by decide +kernel
theorem dX5_tellWay_74 : decode cX5_tellWay 74 = .ok (.aload 4, 2) := by decide +kernel
theorem dX5_tellWay_76 : decode cX5_tellWay 76 = .ok (.iload 6, 2) := by decide +kernel
theorem dX5_tellWay_78 : decode cX5_tellWay 78 = .ok (.iaload, 1) := by decide +kernel
theorem dX5_tellWay_79 : decode cX5_tellWay 79 = .ok (.ifCond .le 7, 3) := by decide +kernel
theorem dX5_tellWay_82 : decode cX5_tellWay 82 = .ok (.iconst 1, 1) := by decide +kernel
theorem dX5_tellWay_83 : decode cX5_tellWay 83 = .ok (.goto 4, 3) := by decide +kernel
theorem dX5_tellWay_86 : decode cX5_tellWay 86 = .ok (.iconst 0, 1) := by decide +kernel
theorem dX5_tellWay_87 : decode cX5_tellWay 87 = .ok (.istore 7, 2) := by decide +kernel
theorem dX5_tellWay_89 : decode cX5_tellWay 89 = .ok (.iload 7, 2) := by decide +kernel
theorem dX5_tellWay_91 : decode cX5_tellWay 91 = .ok (.ifCond .eq 11, 3) := by decide +kernel
theorem dX5_tellWay_94 : decode cX5_tellWay 94 = .ok (.aload 4, 2) := by decide +kernel
theorem dX5_tellWay_96 : decode cX5_tellWay 96 = .ok (.iload 6, 2) := by decide +kernel
theorem dX5_tellWay_98 : decode cX5_tellWay 98 = .ok (.iaload, 1) := by decide +kernel
theorem dX5_tellWay_99 : decode cX5_tellWay 99 = .ok (.goto 4, 3) := by decide +kernel
theorem dX5_tellWay_102 : decode cX5_tellWay 102 = .ok (.iconst 0, 1) := by decide +kernel
theorem dX5_tellWay_103 : decode cX5_tellWay 103 = .ok (.istore 8, 2) := by decide +kernel
theorem dX5_tellWay_105 : decode cX5_tellWay 105 = .ok (.iload_n 3, 1) := by decide +kernel
theorem dX5_tellWay_106 : decode cX5_tellWay 106 = .ok (.istore 6, 2) := by decide +kernel
theorem dX5_tellWay_108 : decode cX5_tellWay 108 = .ok (.iconst 0, 1) := by decide +kernel
theorem dX5_tellWay_109 : decode cX5_tellWay 109 = .ok (.istore 9, 2) := by decide +kernel
theorem dX5_tellWay_111 : decode cX5_tellWay 111 = .ok (.iload 9, 2) := by decide +kernel
theorem dX5_tellWay_113 : decode cX5_tellWay 113 = .ok (.iload 5, 2) := by decide +kernel
theorem dX5_tellWay_115 : decode cX5_tellWay 115 = .ok (.if_icmp .ge 58, 3) := by decide +kernel
theorem dX5_tellWay_118 : decode cX5_tellWay 118 = .ok (.iload 6, 2) := by decide +kernel
theorem dX5_tellWay_120 : decode cX5_tellWay 120 = .ok (.iconst 1, 1) := by decide +kernel
theorem dX5_tellWay_121 : decode cX5_tellWay 121 = .ok (.if_icmp .lt 52, 3) := by decide +kernel
theorem dX5_tellWay_124 : decode cX5_tellWay 124 = .ok (.iload 6, 2) := by decide +kernel
theorem dX5_tellWay_126 : decode cX5_tellWay 126 = .ok (.aload 4, 2) := by decide +kernel
theorem dX5_tellWay_128 : decode cX5_tellWay 128 = .ok (.arraylength, 1) := by decide +kernel
theorem dX5_tellWay_129 : decode cX5_tellWay 129 = .ok (.if_icmp .ge 44, 3) := by decide +kernel
theorem dX5_tellWay_132 : decode cX5_tellWay 132 = .ok (.aload 4, 2) := by decide +kernel
theorem dX5_tellWay_134 : decode cX5_tellWay 134 = .ok (.iload 6, 2) := by decide +kernel
theorem dX5_tellWay_136 : decode cX5_tellWay 136 = .ok (.iload 7, 2) := by decide +kernel
theorem dX5_tellWay_138 : decode cX5_tellWay 138 = .ok (.ifCond .eq 14, 3) := by decide +kernel
theorem dX5_tellWay_141 : decode cX5_tellWay 141 = .ok (.iload 8, 2) := by decide +kernel
theorem dX5_tellWay_143 : decode cX5_tellWay 143 = .ok (.iload 5, 2) := by decide +kernel
theorem dX5_tellWay_145 : decode cX5_tellWay 145 = .ok (.iadd, 1) := by decide +kernel
theorem dX5_tellWay_146 : decode cX5_tellWay 146 = .ok (.iload 9, 2) := by decide +kernel
theorem dX5_tellWay_148 : decode cX5_tellWay 148 = .ok (.isub, 1) := by decide +kernel
theorem dX5_tellWay_149 : decode cX5_tellWay 149 = .ok (.goto 5, 3) := by decide +kernel
theorem dX5_tellWay_152 : decode cX5_tellWay 152 = .ok (.bipush (-2), 2) := by decide +kernel
theorem dX5_tellWay_154 : decode cX5_tellWay 154 = .ok (.iastore, 1) := by decide +kernel
theorem dX5_tellWay_155 : decode cX5_tellWay 155 = .ok (.aload_n 0, 1) := by decide +kernel
theorem dX5_tellWay_156 : decode cX5_tellWay 156 = .ok (.getfield 18, 3) := by decide +kernel
theorem dX5_tellWay_159 : decode cX5_tellWay 159 = .ok (.iload_n 1, 1) := by decide +kernel
theorem dX5_tellWay_160 : decode cX5_tellWay 160 = .ok (.iload 6, 2) := by decide +kernel
theorem dX5_tellWay_162 : decode cX5_tellWay 162 = .ok (.invokevirtual 42, 3) := by decide +kernel
theorem dX5_tellWay_165 : decode cX5_tellWay 165 = .ok (.istore 6, 2) := by decide +kernel
theorem dX5_tellWay_167 : decode cX5_tellWay 167 = .ok (.iinc 9 1, 3) := by decide +kernel
theorem dX5_tellWay_170 : decode cX5_tellWay 170 = .ok (.goto (-59), 3) := by decide +kernel
theorem dX5_tellWay_173 : decode cX5_tellWay 173 = .ok (.return_, 1) := by decide +kernel
theorem dX5_isOpen_0 : decode cX5_isOpen 0 = .ok (.iload_n 0, 1) := by decide +kernel
theorem dX5_isOpen_1 : decode cX5_isOpen 1 = .ok (.iconst 1, 1) := by decide +kernel
theorem dX5_isOpen_2 : decode cX5_isOpen 2 = .ok (.if_icmp .lt 24, 3) := by decide +kernel
theorem dX5_isOpen_5 : decode cX5_isOpen 5 = .ok (.iload_n 0, 1) := by decide +kernel
theorem dX5_isOpen_6 : decode cX5_isOpen 6 = .ok (.iload_n 1, 1) := by decide +kernel
theorem dX5_isOpen_7 : decode cX5_isOpen 7 = .ok (.if_icmp .gt 19, 3) := by decide +kernel
theorem dX5_isOpen_10 : decode cX5_isOpen 10 = .ok (.iload_n 0, 1) := by decide +kernel
theorem dX5_isOpen_11 : decode cX5_isOpen 11 = .ok (.aload_n 2, 1) := by decide +kernel
theorem dX5_isOpen_12 : decode cX5_isOpen 12 = .ok (.arraylength, 1) := by decide +kernel
theorem dX5_isOpen_13 : decode cX5_isOpen 13 = .ok (.if_icmp .ge 13, 3) := by decide +kernel
theorem dX5_isOpen_16 : decode cX5_isOpen 16 = .ok (.aload_n 2, 1) := by decide +kernel
theorem dX5_isOpen_17 : decode cX5_isOpen 17 = .ok (.iload_n 0, 1) := by decide +kernel
theorem dX5_isOpen_18 : decode cX5_isOpen 18 = .ok (.iaload, 1) := by decide +kernel
theorem dX5_isOpen_19 : decode cX5_isOpen 19 = .ok (.ifCond .ne 7, 3) := by decide +kernel
theorem dX5_isOpen_22 : decode cX5_isOpen 22 = .ok (.iconst 1, 1) := by decide +kernel
theorem dX5_isOpen_23 : decode cX5_isOpen 23 = .ok (.goto 4, 3) := by decide +kernel
theorem dX5_isOpen_26 : decode cX5_isOpen 26 = .ok (.iconst 0, 1) := by decide +kernel
theorem dX5_isOpen_27 : decode cX5_isOpen 27 = .ok (.ireturn, 1) := by decide +kernel
theorem dX6_init_0 : decode cX6_init 0 = .ok (.aload_n 0, 1) := by decide +kernel
theorem dX6_init_1 : decode cX6_init 1 = .ok (.invokespecial 3, 3) := by decide +kernel
theorem dX6_init_4 : decode cX6_init 4 = .ok (.aload_n 0, 1) := by decide +kernel
theorem dX6_init_5 : decode cX6_init 5 = .ok (.bipush 12, 2) := by decide +kernel
theorem dX6_init_7 : decode cX6_init 7 = .ok (.newarray .long, 2) := by decide +kernel
theorem dX6_init_9 : decode cX6_init 9 = .ok (.putfield 11, 3) := by decide +kernel
theorem dX6_init_12 : decode cX6_init 12 = .ok (.aload_n 0, 1) := by decide +kernel
theorem dX6_init_13 : decode cX6_init 13 = .ok (.bipush 12, 2) := by decide +kernel
theorem dX6_init_15 : decode cX6_init 15 = .ok (.newarray .int, 2) := by decide +kernel
theorem dX6_init_17 : decode cX6_init 17 = .ok (.putfield 15, 3) := by decide +kernel
theorem dX6_init_20 : decode cX6_init 20 = .ok (.aload_n 0, 1) := by decide +kernel
theorem dX6_init_21 : decode cX6_init 21 = .ok (.iconst 0, 1) := by decide +kernel
theorem dX6_init_22 : decode cX6_init 22 = .ok (.putfield 19, 3) := by decide +kernel
theorem dX6_init_25 : decode cX6_init 25 = .ok (.aload_n 0, 1) := by decide +kernel
theorem dX6_init_26 : decode cX6_init 26 = .ok (.lconst 1, 1) := by decide +kernel
theorem dX6_init_27 : decode cX6_init 27 = .ok (.putfield 23, 3) := by decide +kernel
theorem dX6_init_30 : decode cX6_init 30 = .ok (.aload_n 0, 1) := by decide +kernel
theorem dX6_init_31 : decode cX6_init 31 = .ok (.sipush 2304, 3) := by decide +kernel
theorem dX6_init_34 : decode cX6_init 34 = .ok (.newarray .long, 2) := by decide +kernel
theorem dX6_init_36 : decode cX6_init 36 = .ok (.putfield 27, 3) := by decide +kernel
theorem dX6_init_39 : decode cX6_init 39 = .ok (.aload_n 0, 1) := by decide +kernel
theorem dX6_init_40 : decode cX6_init 40 = .ok (.iconst 0, 1) := by decide +kernel
theorem dX6_init_41 : decode cX6_init 41 = .ok (.putfield 30, 3) := by decide +kernel
theorem dX6_init_44 : decode cX6_init 44 = .ok (.aload_n 0, 1) := by decide +kernel
theorem dX6_init_45 : decode cX6_init 45 = .ok (.lconst 0, 1) := by decide +kernel
theorem dX6_init_46 : decode cX6_init 46 = .ok (.putfield 33, 3) := by decide +kernel
theorem dX6_init_49 : decode cX6_init 49 = .ok (.aload_n 0, 1) := by decide +kernel
theorem dX6_init_50 : decode cX6_init 50 = .ok (.aload_n 1, 1) := by decide +kernel
theorem dX6_init_51 : decode cX6_init 51 = .ok (.putfield 36, 3) := by decide +kernel
theorem dX6_init_54 : decode cX6_init 54 = .ok (.return_, 1) := by decide +kernel
set_option maxRecDepth 20000 in
theorem ggX6_splitUp_X6_takeOut : GoodIn wsX6_splitUp wsX6_takeOut := goodIn_r _ [9, 2, 10, 11, 12, 13, 14, 15, 16, 17, 18, 19] rfl (by decide +kernel)
set_option maxRecDepth 20000 in
theorem gX6_splitUp_X6_takeOut : GoodIn wsX6_splitUp (wsV RX6 47 RX6 yX6_takeOut wsX6_takeOut) := goodIn_app (goodIn_sub (List.forall_mem_cons.mpr ⟨List.mem_of_getElem? (i := 5) rfl, List.forall_mem_cons.mpr ⟨List.mem_of_getElem? (i := 6) rfl, List.forall_mem_cons.mpr ⟨List.mem_of_getElem? (i := 7) rfl, List.forall_mem_cons.mpr ⟨List.mem_of_getElem? (i := 8) rfl, fun _ h => absurd h List.not_mem_nil⟩⟩⟩⟩) (by decide +kernel)) ggX6_splitUp_X6_takeOut
theorem dX6_splitUp_0 : decode cX6_splitUp 0 = .ok (.lload_n 1, 1) := by decide +kernel
theorem dX6_splitUp_1 : decode cX6_splitUp 1 = .ok (.aload_n 0, 1) := by decide +kernel
theorem dX6_splitUp_2 : decode cX6_splitUp 2 = .ok (.getfield 23, 3) := by decide +kernel
theorem dX6_splitUp_5 : decode cX6_splitUp 5 = .ok (.lcmp, 1) := by decide +kernel
theorem dX6_splitUp_6 : decode cX6_splitUp 6 = .ok (.ifCond .ne 4, 3) := by decide +kernel
theorem dX6_splitUp_9 : decode cX6_splitUp 9 = .ok (.return_, 1) := by decide +kernel
theorem dX6_splitUp_10 : decode cX6_splitUp 10 = .ok (.aload_n 0, 1) := by decide +kernel
theorem dX6_splitUp_11 : decode cX6_splitUp 11 = .ok (.lload_n 1, 1) := by decide +kernel
theorem dX6_splitUp_12 : decode cX6_splitUp 12 = .ok (.putfield 23, 3) := by decide +kernel
theorem dX6_splitUp_15 : decode cX6_splitUp 15 = .ok (.aload_n 0, 1) := by decide +kernel
theorem dX6_splitUp_16 : decode cX6_splitUp 16 = .ok (.iconst 0, 1) := by decide +kernel
theorem dX6_splitUp_17 : decode cX6_splitUp 17 = .ok (.putfield 19, 3) := by decide +kernel
theorem dX6_splitUp_20 : decode cX6_splitUp 20 = .ok (.aload_n 0, 1) := by decide +kernel
theorem dX6_splitUp_21 : decode cX6_splitUp 21 = .ok (.getfield 36, 3) := by decide +kernel
theorem dX6_splitUp_24 : decode cX6_splitUp 24 = .ok (.getfield 40, 3) := by decide +kernel
theorem dX6_splitUp_27 : decode cX6_splitUp 27 = .ok (.astore_n 3, 1) := by decide +kernel
theorem dX6_splitUp_28 : decode cX6_splitUp 28 = .ok (.lload_n 1, 1) := by decide +kernel
theorem dX6_splitUp_29 : decode cX6_splitUp 29 = .ok (.lstore 4, 2) := by decide +kernel
theorem dX6_splitUp_31 : decode cX6_splitUp 31 = .ok (.iconst 0, 1) := by decide +kernel
theorem dX6_splitUp_32 : decode cX6_splitUp 32 = .ok (.istore 6, 2) := by decide +kernel
theorem dX6_splitUp_34 : decode cX6_splitUp 34 = .ok (.iload 6, 2) := by decide +kernel
theorem dX6_splitUp_36 : decode cX6_splitUp 36 = .ok (.aload_n 3, 1) := by decide +kernel
theorem dX6_splitUp_37 : decode cX6_splitUp 37 = .ok (.arraylength, 1) := by decide +kernel
theorem dX6_splitUp_38 : decode cX6_splitUp 38 = .ok (.if_icmp .ge 59, 3) := by decide +kernel
theorem dX6_splitUp_41 : decode cX6_splitUp 41 = .ok (.aload_n 3, 1) := by decide +kernel
theorem dX6_splitUp_42 : decode cX6_splitUp 42 = .ok (.iload 6, 2) := by decide +kernel
theorem dX6_splitUp_44 : decode cX6_splitUp 44 = .ok (.iaload, 1) := by decide +kernel
theorem dX6_splitUp_45 : decode cX6_splitUp 45 = .ok (.i2l, 1) := by decide +kernel
theorem dX6_splitUp_46 : decode cX6_splitUp 46 = .ok (.lstore 7, 2) := by decide +kernel
theorem dX6_splitUp_48 : decode cX6_splitUp 48 = .ok (.lload 7, 2) := by decide +kernel
theorem dX6_splitUp_50 : decode cX6_splitUp 50 = .ok (.ldc2_w 45, 3) := by decide +kernel
theorem dX6_splitUp_53 : decode cX6_splitUp 53 = .ok (.lcmp, 1) := by decide +kernel
theorem dX6_splitUp_54 : decode cX6_splitUp 54 = .ok (.ifCond .lt 43, 3) := by decide +kernel
theorem dX6_splitUp_57 : decode cX6_splitUp 57 = .ok (.lload 7, 2) := by decide +kernel
theorem dX6_splitUp_59 : decode cX6_splitUp 59 = .ok (.lload 7, 2) := by decide +kernel
theorem dX6_splitUp_61 : decode cX6_splitUp 61 = .ok (.lmul, 1) := by decide +kernel
theorem dX6_splitUp_62 : decode cX6_splitUp 62 = .ok (.lload 4, 2) := by decide +kernel
theorem dX6_splitUp_64 : decode cX6_splitUp 64 = .ok (.lcmp, 1) := by decide +kernel
theorem dX6_splitUp_65 : decode cX6_splitUp 65 = .ok (.ifCond .le 6, 3) := by decide +kernel
theorem dX6_splitUp_68 : decode cX6_splitUp 68 = .ok (.goto 29, 3) := by decide +kernel
theorem dX6_splitUp_71 : decode cX6_splitUp 71 = .ok (.lload 4, 2) := by decide +kernel
theorem dX6_splitUp_73 : decode cX6_splitUp 73 = .ok (.lload 7, 2) := by decide +kernel
theorem dX6_splitUp_75 : decode cX6_splitUp 75 = .ok (.lrem, 1) := by decide +kernel
theorem dX6_splitUp_76 : decode cX6_splitUp 76 = .ok (.lconst 0, 1) := by decide +kernel
theorem dX6_splitUp_77 : decode cX6_splitUp 77 = .ok (.lcmp, 1) := by decide +kernel
theorem dX6_splitUp_78 : decode cX6_splitUp 78 = .ok (.ifCond .ne 13, 3) := by decide +kernel
theorem dX6_splitUp_81 : decode cX6_splitUp 81 = .ok (.aload_n 0, 1) := by decide +kernel
theorem dX6_splitUp_82 : decode cX6_splitUp 82 = .ok (.lload 7, 2) := by decide +kernel
theorem dX6_splitUp_84 : decode cX6_splitUp 84 = .ok (.lload 4, 2) := by decide +kernel
theorem dX6_splitUp_86 : decode cX6_splitUp 86 = .ok (.invokevirtual 47, 3) := by decide +kernel
theorem dX6_splitUp_89 : decode cX6_splitUp 89 = .ok (.lstore 4, 2) := by decide +kernel
theorem dX6_splitUp_91 : decode cX6_splitUp 91 = .ok (.iinc 6 1, 3) := by decide +kernel
theorem dX6_splitUp_94 : decode cX6_splitUp 94 = .ok (.goto (-60), 3) := by decide +kernel
theorem dX6_splitUp_97 : decode cX6_splitUp 97 = .ok (.lload 4, 2) := by decide +kernel
theorem dX6_splitUp_99 : decode cX6_splitUp 99 = .ok (.lconst 1, 1) := by decide +kernel
theorem dX6_splitUp_100 : decode cX6_splitUp 100 = .ok (.lcmp, 1) := by decide +kernel
theorem dX6_splitUp_101 : decode cX6_splitUp 101 = .ok (.ifCond .le 12, 3) := by decide +kernel
theorem dX6_splitUp_104 : decode cX6_splitUp 104 = .ok (.aload_n 0, 1) := by decide +kernel
theorem dX6_splitUp_105 : decode cX6_splitUp 105 = .ok (.lload 4, 2) := by decide +kernel
theorem dX6_splitUp_107 : decode cX6_splitUp 107 = .ok (.lload 4, 2) := by decide +kernel
theorem dX6_splitUp_109 : decode cX6_splitUp 109 = .ok (.invokevirtual 47, 3) := by decide +kernel
theorem dX6_splitUp_112 : decode cX6_splitUp 112 = .ok (.pop2, 1) := by decide +kernel
theorem dX6_splitUp_113 : decode cX6_splitUp 113 = .ok (.return_, 1) := by decide +kernel
theorem dX6_takeOut_0 : decode cX6_takeOut 0 = .ok (.lload_n 3, 1) := by decide +kernel
theorem dX6_takeOut_1 : decode cX6_takeOut 1 = .ok (.lstore 5, 2) := by decide +kernel
theorem dX6_takeOut_3 : decode cX6_takeOut 3 = .ok (.iconst 0, 1) := by decide +kernel
theorem dX6_takeOut_4 : decode cX6_takeOut 4 = .ok (.istore 7, 2) := by decide +kernel
theorem dX6_takeOut_6 : decode cX6_takeOut 6 = .ok (.iconst 0, 1) := by decide +kernel
theorem dX6_takeOut_7 : decode cX6_takeOut 7 = .ok (.istore 8, 2) := by decide +kernel
theorem dX6_takeOut_9 : decode cX6_takeOut 9 = .ok (.iload 8, 2) := by decide +kernel
theorem dX6_takeOut_11 : decode cX6_takeOut 11 = .ok (.bipush 64, 2) := by decide +kernel
theorem dX6_takeOut_13 : decode cX6_takeOut 13 = .ok (.if_icmp .ge 33, 3) := by decide +kernel
theorem dX6_takeOut_16 : decode cX6_takeOut 16 = .ok (.lload_n 1, 1) := by decide +kernel
theorem dX6_takeOut_17 : decode cX6_takeOut 17 = .ok (.lconst 1, 1) := by decide +kernel
theorem dX6_takeOut_18 : decode cX6_takeOut 18 = .ok (.lcmp, 1) := by decide +kernel
theorem dX6_takeOut_19 : decode cX6_takeOut 19 = .ok (.ifCond .le 27, 3) := by decide +kernel
theorem dX6_takeOut_22 : decode cX6_takeOut 22 = .ok (.lload 5, 2) := by decide +kernel
theorem dX6_takeOut_24 : decode cX6_takeOut 24 = .ok (.lload_n 1, 1) := by decide +kernel
theorem dX6_takeOut_25 : decode cX6_takeOut 25 = .ok (.lrem, 1) := by decide +kernel
theorem dX6_takeOut_26 : decode cX6_takeOut 26 = .ok (.lconst 0, 1) := by decide +kernel
theorem dX6_takeOut_27 : decode cX6_takeOut 27 = .ok (.lcmp, 1) := by decide +kernel
theorem dX6_takeOut_28 : decode cX6_takeOut 28 = .ok (.ifCond .ne 18, 3) := by decide +kernel
theorem dX6_takeOut_31 : decode cX6_takeOut 31 = .ok (.lload 5, 2) := by decide +kernel
theorem dX6_takeOut_33 : decode cX6_takeOut 33 = .ok (.lload_n 1, 1) := by decide +kernel
theorem dX6_takeOut_34 : decode cX6_takeOut 34 = .ok (.ldiv, 1) := by decide +kernel
theorem dX6_takeOut_35 : decode cX6_takeOut 35 = .ok (.lstore 5, 2) := by decide +kernel
theorem dX6_takeOut_37 : decode cX6_takeOut 37 = .ok (.iinc 7 1, 3) := by decide +kernel
theorem dX6_takeOut_40 : decode cX6_takeOut 40 = .ok (.iinc 8 1, 3) := by decide +kernel
theorem dX6_takeOut_43 : decode cX6_takeOut 43 = .ok (.goto (-34), 3) := by decide +kernel
theorem dX6_takeOut_46 : decode cX6_takeOut 46 = .ok (.aload_n 0, 1) := by decide +kernel
theorem dX6_takeOut_47 : decode cX6_takeOut 47 = .ok (.getfield 19, 3) := by decide +kernel
theorem dX6_takeOut_50 : decode cX6_takeOut 50 = .ok (.bipush 12, 2) := by decide +kernel
theorem dX6_takeOut_52 : decode cX6_takeOut 52 = .ok (.if_icmp .ge 34, 3) := by decide +kernel
theorem dX6_takeOut_55 : decode cX6_takeOut 55 = .ok (.aload_n 0, 1) := by decide +kernel
theorem dX6_takeOut_56 : decode cX6_takeOut 56 = .ok (.getfield 11, 3) := by decide +kernel
theorem dX6_takeOut_59 : decode cX6_takeOut 59 = .ok (.aload_n 0, 1) := by decide +kernel
theorem dX6_takeOut_60 : decode cX6_takeOut 60 = .ok (.getfield 19, 3) := by decide +kernel
theorem dX6_takeOut_63 : decode cX6_takeOut 63 = .ok (.lload_n 1, 1) := by decide +kernel
theorem dX6_takeOut_64 : decode cX6_takeOut 64 = .ok (.lastore, 1) := by decide +kernel
theorem dX6_takeOut_65 : decode cX6_takeOut 65 = .ok (.aload_n 0, 1) := by decide +kernel
theorem dX6_takeOut_66 : decode cX6_takeOut 66 = .ok (.getfield 15, 3) := by decide +kernel
theorem dX6_takeOut_69 : decode cX6_takeOut 69 = .ok (.aload_n 0, 1) := by decide +kernel
theorem dX6_takeOut_70 : decode cX6_takeOut 70 = .ok (.getfield 19, 3) := by decide +kernel
theorem dX6_takeOut_73 : decode cX6_takeOut 73 = .ok (.iload 7, 2) := by decide +kernel
theorem dX6_takeOut_75 : decode cX6_takeOut 75 = .ok (.iastore, 1) := by decide +kernel
theorem dX6_takeOut_76 : decode cX6_takeOut 76 = .ok (.aload_n 0, 1) := by decide +kernel
theorem dX6_takeOut_77 : decode cX6_takeOut 77 = .ok (.dup, 1) := by decide +kernel
theorem dX6_takeOut_78 : decode cX6_takeOut 78 = .ok (.getfield 19, 3) := by decide +kernel
theorem dX6_takeOut_81 : decode cX6_takeOut 81 = .ok (.iconst 1, 1) := by decide +kernel
theorem dX6_takeOut_82 : decode cX6_takeOut 82 = .ok (.iadd, 1) := by decide +kernel
theorem dX6_takeOut_83 : decode cX6_takeOut 83 = .ok (.putfield 19, 3) := by decide +kernel
theorem dX6_takeOut_86 : decode cX6_takeOut 86 = .ok (.lload 5, 2) := by decide +kernel
theorem dX6_takeOut_88 : decode cX6_takeOut 88 = .ok (.lreturn, 1) := by decide +kernel
set_option maxRecDepth 20000 in
theorem ggX6_summed_X6_splitUp : GoodIn wsX6_summed wsX6_splitUp := goodIn_r _ [5, 6, 7, 8, 9, 10, 11, 12, 4, 13, 14, 15, 24, 25, 26, 27, 28, 29, 30, 31, 32, 33] rfl (by decide +kernel)
set_option maxRecDepth 20000 in
theorem gX6_summed_X6_splitUp : GoodIn wsX6_summed (wsV RX6 51 RX6 yX6_splitUp wsX6_splitUp) := goodIn_app (goodIn_sub (List.forall_mem_cons.mpr ⟨List.mem_of_getElem? (i := 1) rfl, List.forall_mem_cons.mpr ⟨List.mem_of_getElem? (i := 2) rfl, List.forall_mem_cons.mpr ⟨List.mem_of_getElem? (i := 3) rfl, List.forall_mem_cons.mpr ⟨List.mem_of_getElem? (i := 4) rfl, fun _ h => absurd h List.not_mem_nil⟩⟩⟩⟩) (by decide +kernel)) ggX6_summed_X6_splitUp
set_option maxRecDepth 20000 in
theorem ggX6_summed_X6_sumOfAll : GoodIn wsX6_summed wsX6_sumOfAll := goodIn_r _ [19, 7, 15, 14, 24, 25, 26, 27, 28, 29, 30, 31] rfl (by decide +kernel)
set_option maxRecDepth 20000 in
theorem gX6_summed_X6_sumOfAll : GoodIn wsX6_summed (wsV RX6 55 RX6 yX6_sumOfAll wsX6_sumOfAll) := goodIn_app (goodIn_sub (List.forall_mem_cons.mpr ⟨List.mem_of_getElem? (i := 16) rfl, List.forall_mem_cons.mpr ⟨List.mem_of_getElem? (i := 17) rfl, List.forall_mem_cons.mpr ⟨List.mem_of_getElem? (i := 18) rfl, List.forall_mem_cons.mpr ⟨List.mem_of_getElem? (i := 4) rfl, fun _ h => absurd h List.not_mem_nil⟩⟩⟩⟩) (by decide +kernel)) ggX6_summed_X6_sumOfAll
set_option maxRecDepth 20000 in
theorem ggX6_summed_X6_sumOfApart : GoodIn wsX6_summed wsX6_sumOfApart := goodIn_r _ [23, 7, 15, 14, 24, 25, 26, 27, 28, 29, 30, 31] rfl (by decide +kernel)
set_option maxRecDepth 20000 in
theorem gX6_summed_X6_sumOfApart : GoodIn wsX6_summed (wsV RX6 59 RX6 yX6_sumOfApart wsX6_sumOfApart) := goodIn_app (goodIn_sub (List.forall_mem_cons.mpr ⟨List.mem_of_getElem? (i := 20) rfl, List.forall_mem_cons.mpr ⟨List.mem_of_getElem? (i := 21) rfl, List.forall_mem_cons.mpr ⟨List.mem_of_getElem? (i := 22) rfl, List.forall_mem_cons.mpr ⟨List.mem_of_getElem? (i := 4) rfl, fun _ h => absurd h List.not_mem_nil⟩⟩⟩⟩) (by decide +kernel)) ggX6_summed_X6_sumOfApart
theorem dX6_summed_0 : decode cX6_summed 0 = .ok (.aload_n 0, 1) := by decide +kernel
theorem dX6_summed_1 : decode cX6_summed 1 = .ok (.lload_n 2, 1) := by decide +kernel
theorem dX6_summed_2 : decode cX6_summed 2 = .ok (.invokevirtual 51, 3) := by decide +kernel
theorem dX6_summed_5 : decode cX6_summed 5 = .ok (.iload_n 1, 1) := by decide +kernel
theorem dX6_summed_6 : decode cX6_summed 6 = .ok (.tableswitch 45 0 2 #[26, 31, 38], 26) := by decide +kernel
theorem dX6_summed_32 : decode cX6_summed 32 = .ok (.aload_n 0, 1) := by decide +kernel
theorem dX6_summed_33 : decode cX6_summed 33 = .ok (.invokevirtual 55, 3) := by decide +kernel
theorem dX6_summed_36 : decode cX6_summed 36 = .ok (.lreturn, 1) := by decide +kernel
theorem dX6_summed_37 : decode cX6_summed 37 = .ok (.aload_n 0, 1) := by decide +kernel
theorem dX6_summed_38 : decode cX6_summed 38 = .ok (.invokevirtual 55, 3) := by decide +kernel
theorem dX6_summed_41 : decode cX6_summed 41 = .ok (.lload_n 2, 1) := by decide +kernel
theorem dX6_summed_42 : decode cX6_summed 42 = .ok (.lsub, 1) := by decide +kernel
theorem dX6_summed_43 : decode cX6_summed 43 = .ok (.lreturn, 1) := by decide +kernel
theorem dX6_summed_44 : decode cX6_summed 44 = .ok (.aload_n 0, 1) := by decide +kernel
theorem dX6_summed_45 : decode cX6_summed 45 = .ok (.invokevirtual 59, 3) := by decide +kernel
theorem dX6_summed_48 : decode cX6_summed 48 = .ok (.lload_n 2, 1) := by decide +kernel
theorem dX6_summed_49 : decode cX6_summed 49 = .ok (.lsub, 1) := by decide +kernel
theorem dX6_summed_50 : decode cX6_summed 50 = .ok (.lreturn, 1) := by decide +kernel
theorem dX6_summed_51 : decode cX6_summed 51 = .ok (.lload_n 2, 1) := by decide +kernel
theorem dX6_summed_52 : decode cX6_summed 52 = .ok (.lconst 1, 1) := by decide +kernel
theorem dX6_summed_53 : decode cX6_summed 53 = .ok (.lcmp, 1) := by decide +kernel
theorem dX6_summed_54 : decode cX6_summed 54 = .ok (.ifCond .ne 7, 3) := by decide +kernel
theorem dX6_summed_57 : decode cX6_summed 57 = .ok (.lconst 0, 1) := by decide +kernel
theorem dX6_summed_58 : decode cX6_summed 58 = .ok (.goto 11, 3) := by decide +kernel
theorem dX6_summed_61 : decode cX6_summed 61 = .ok (.aload_n 0, 1) := by decide +kernel
theorem dX6_summed_62 : decode cX6_summed 62 = .ok (.invokevirtual 55, 3) := by decide +kernel
theorem dX6_summed_65 : decode cX6_summed 65 = .ok (.lload_n 2, 1) := by decide +kernel
theorem dX6_summed_66 : decode cX6_summed 66 = .ok (.lsub, 1) := by decide +kernel
theorem dX6_summed_67 : decode cX6_summed 67 = .ok (.lconst 1, 1) := by decide +kernel
theorem dX6_summed_68 : decode cX6_summed 68 = .ok (.lsub, 1) := by decide +kernel
theorem dX6_summed_69 : decode cX6_summed 69 = .ok (.lreturn, 1) := by decide +kernel
