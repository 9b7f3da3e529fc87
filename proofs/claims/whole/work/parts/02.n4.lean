theorem dX11_within_0 : decode cX11_within 0 = .ok (.iload_n 0, 1) := by decide +kernel
theorem dX11_within_1 : decode cX11_within 1 = .ok (.iload_n 1, 1) := by decide +kernel
theorem dX11_within_2 : decode cX11_within 2 = .ok (.if_icmp .lt 12, 3) := by decide +kernel
theorem dX11_within_5 : decode cX11_within 5 = .ok (.iload_n 0, 1) := by decide +kernel
theorem dX11_within_6 : decode cX11_within 6 = .ok (.iload_n 2, 1) := by decide +kernel
theorem dX11_within_7 : decode cX11_within 7 = .ok (.if_icmp .gt 7, 3) := by decide +kernel
theorem dX11_within_10 : decode cX11_within 10 = .ok (.iconst 1, 1) := by decide +kernel
theorem dX11_within_11 : decode cX11_within 11 = .ok (.goto 4, 3) := by decide +kernel
theorem dX11_within_14 : decode cX11_within 14 = .ok (.iconst 0, 1) := by decide +kernel
theorem dX11_within_15 : decode cX11_within 15 = .ok (.ireturn, 1) := by decide +kernel
theorem dX11_isNumber_0 : decode cX11_isNumber 0 = .ok (.lload_n 0, 1) := by decide +kernel
theorem dX11_isNumber_1 : decode cX11_isNumber 1 = .ok (.lconst 1, 1) := by decide +kernel
theorem dX11_isNumber_2 : decode cX11_isNumber 2 = .ok (.lcmp, 1) := by decide +kernel
theorem dX11_isNumber_3 : decode cX11_isNumber 3 = .ok (.ifCond .lt 15, 3) := by decide +kernel
theorem dX11_isNumber_6 : decode cX11_isNumber 6 = .ok (.lload_n 0, 1) := by decide +kernel
theorem dX11_isNumber_7 : decode cX11_isNumber 7 = .ok (.ldc2_w 220, 3) := by decide +kernel
theorem dX11_isNumber_10 : decode cX11_isNumber 10 = .ok (.lcmp, 1) := by decide +kernel
theorem dX11_isNumber_11 : decode cX11_isNumber 11 = .ok (.ifCond .gt 7, 3) := by decide +kernel
theorem dX11_isNumber_14 : decode cX11_isNumber 14 = .ok (.iconst 1, 1) := by decide +kernel
theorem dX11_isNumber_15 : decode cX11_isNumber 15 = .ok (.goto 4, 3) := by decide +kernel
theorem dX11_isNumber_18 : decode cX11_isNumber 18 = .ok (.iconst 0, 1) := by decide +kernel
theorem dX11_isNumber_19 : decode cX11_isNumber 19 = .ok (.ireturn, 1) := by decide +kernel
set_option maxRecDepth 20000 in
theorem ggX11_isBound_X11_within : GoodIn wsX11_isBound wsX11_within := goodIn_r _ [5] rfl (by decide +kernel)
set_option maxRecDepth 20000 in
theorem gX11_isBound_X11_within : GoodIn wsX11_isBound (va_wsS RX11 91 yX11_within wsX11_within) := goodIn_app (goodIn_sub (List.forall_mem_cons.mpr ⟨List.mem_of_getElem? (i := 2) rfl, List.forall_mem_cons.mpr ⟨List.mem_of_getElem? (i := 3) rfl, List.forall_mem_cons.mpr ⟨List.mem_of_getElem? (i := 4) rfl, fun _ h => absurd h List.not_mem_nil⟩⟩⟩) (by decide +kernel)) ggX11_isBound_X11_within
theorem dX11_isBound_0 : decode cX11_isBound 0 = .ok (.iload_n 0, 1) := by decide +kernel
theorem dX11_isBound_1 : decode cX11_isBound 1 = .ok (.iconst 1, 1) := by decide +kernel
theorem dX11_isBound_2 : decode cX11_isBound 2 = .ok (.ldc 222, 2) := by decide +kernel
theorem dX11_isBound_4 : decode cX11_isBound 4 = .ok (.invokestatic 91, 3) := by decide +kernel
theorem dX11_isBound_7 : decode cX11_isBound 7 = .ok (.ireturn, 1) := by decide +kernel
set_option maxRecDepth 20000 in
theorem ggX11_prepareTraits_X3_prepare : GoodIn wsX11_prepareTraits wsX3_prepare := goodIn_r _ [8, 9, 10, 11, 12, 13, 14, 15, 16, 17, 18, 19, 20, 21, 22, 23, 24, 25, 26, 27, 28, 29, 7, 30, 149, 150, 151] rfl (by decide +kernel)
set_option maxRecDepth 20000 in
theorem gX11_prepareTraits_X3_prepare : GoodIn wsX11_prepareTraits (wsV RX11 101 RX3 yX3_prepare wsX3_prepare) := goodIn_app (goodIn_sub (List.forall_mem_cons.mpr ⟨List.mem_of_getElem? (i := 4) rfl, List.forall_mem_cons.mpr ⟨List.mem_of_getElem? (i := 5) rfl, List.forall_mem_cons.mpr ⟨List.mem_of_getElem? (i := 6) rfl, List.forall_mem_cons.mpr ⟨List.mem_of_getElem? (i := 7) rfl, fun _ h => absurd h List.not_mem_nil⟩⟩⟩⟩) (by decide +kernel)) ggX11_prepareTraits_X3_prepare
set_option maxRecDepth 20000 in
theorem ggX11_prepareTraits_X7_prepare : GoodIn wsX11_prepareTraits wsX7_prepare := goodIn_r _ [35, 36, 37, 10, 38, 39, 40, 41, 34, 42, 43, 44, 14, 15, 16, 17, 18, 19, 20, 21, 22, 23, 24, 25, 26, 27, 45, 46, 47, 48, 152, 153, 154, 151] rfl (by decide +kernel)
set_option maxRecDepth 20000 in
theorem gX11_prepareTraits_X7_prepare : GoodIn wsX11_prepareTraits (wsV RX11 151 RX7 yX7_prepare wsX7_prepare) := goodIn_app (goodIn_sub (List.forall_mem_cons.mpr ⟨List.mem_of_getElem? (i := 31) rfl, List.forall_mem_cons.mpr ⟨List.mem_of_getElem? (i := 32) rfl, List.forall_mem_cons.mpr ⟨List.mem_of_getElem? (i := 33) rfl, List.forall_mem_cons.mpr ⟨List.mem_of_getElem? (i := 34) rfl, fun _ h => absurd h List.not_mem_nil⟩⟩⟩⟩) (by decide +kernel)) ggX11_prepareTraits_X7_prepare
set_option maxRecDepth 20000 in
theorem ggX11_prepareTraits_X8_prepare : GoodIn wsX11_prepareTraits wsX8_prepare := goodIn_r _ [53, 54, 10, 55, 56, 57, 58, 59, 60, 61, 62, 63, 64, 65, 66, 67, 68, 69, 70, 71, 72, 73, 52, 74, 75, 76, 77, 78, 79, 80, 81, 34, 82, 36, 38, 83, 84, 85, 86, 87, 88, 89, 90, 91, 92, 93, 94, 95, 96, 97, 98, 99, 100, 101, 102, 103, 104, 105, 106, 107, 108, 109, 110, 111, 112, 113, 114, 115, 116, 117, 118, 119, 120, 121, 122, 123, 124, 19, 20, 16, 21, 22, 23, 125, 126, 127, 128, 129, 130, 131, 132, 133, 134, 135, 136, 137, 138, 139, 155, 156, 157, 158, 159, 160, 161, 162, 163, 164, 165, 166, 149, 150, 152, 153, 154, 167, 168, 151] rfl (by decide +kernel)
set_option maxRecDepth 20000 in
theorem gX11_prepareTraits_X8_prepare : GoodIn wsX11_prepareTraits (wsV RX11 223 RX8 yX8_prepare wsX8_prepare) := goodIn_app (goodIn_sub (List.forall_mem_cons.mpr ⟨List.mem_of_getElem? (i := 49) rfl, List.forall_mem_cons.mpr ⟨List.mem_of_getElem? (i := 50) rfl, List.forall_mem_cons.mpr ⟨List.mem_of_getElem? (i := 51) rfl, List.forall_mem_cons.mpr ⟨List.mem_of_getElem? (i := 52) rfl, fun _ h => absurd h List.not_mem_nil⟩⟩⟩⟩) (by decide +kernel)) ggX11_prepareTraits_X8_prepare
theorem dX11_prepareTraits_0 : decode cX11_prepareTraits 0 = .ok (.aload_n 0, 1) := by decide +kernel
theorem dX11_prepareTraits_1 : decode cX11_prepareTraits 1 = .ok (.getfield 15, 3) := by decide +kernel
theorem dX11_prepareTraits_4 : decode cX11_prepareTraits 4 = .ok (.invokevirtual 101, 3) := by decide +kernel
theorem dX11_prepareTraits_7 : decode cX11_prepareTraits 7 = .ok (.aload_n 0, 1) := by decide +kernel
theorem dX11_prepareTraits_8 : decode cX11_prepareTraits 8 = .ok (.getfield 42, 3) := by decide +kernel
theorem dX11_prepareTraits_11 : decode cX11_prepareTraits 11 = .ok (.invokevirtual 151, 3) := by decide +kernel
theorem dX11_prepareTraits_14 : decode cX11_prepareTraits 14 = .ok (.aload_n 0, 1) := by decide +kernel
theorem dX11_prepareTraits_15 : decode cX11_prepareTraits 15 = .ok (.getfield 78, 3) := by decide +kernel
theorem dX11_prepareTraits_18 : decode cX11_prepareTraits 18 = .ok (.invokevirtual 223, 3) := by decide +kernel
theorem dX11_prepareTraits_21 : decode cX11_prepareTraits 21 = .ok (.return_, 1) := by decide +kernel
theorem dX11_commonPart_0 : decode cX11_commonPart 0 = .ok (.lload_n 0, 1) := by decide +kernel
theorem dX11_commonPart_1 : decode cX11_commonPart 1 = .ok (.lstore 4, 2) := by decide +kernel
theorem dX11_commonPart_3 : decode cX11_commonPart 3 = .ok (.lload_n 2, 1) := by decide +kernel
theorem dX11_commonPart_4 : decode cX11_commonPart 4 = .ok (.lstore 6, 2) := by decide +kernel
theorem dX11_commonPart_6 : decode cX11_commonPart 6 = .ok (.iconst 0, 1) := by decide +kernel
theorem dX11_commonPart_7 : decode cX11_commonPart 7 = .ok (.istore 8, 2) := by decide +kernel
theorem dX11_commonPart_9 : decode cX11_commonPart 9 = .ok (.iload 8, 2) := by decide +kernel
theorem dX11_commonPart_11 : decode cX11_commonPart 11 = .ok (.sipush 200, 3) := by decide +kernel
theorem dX11_commonPart_14 : decode cX11_commonPart 14 = .ok (.if_icmp .ge 31, 3) := by decide +kernel
theorem dX11_commonPart_17 : decode cX11_commonPart 17 = .ok (.lload 6, 2) := by decide +kernel
theorem dX11_commonPart_19 : decode cX11_commonPart 19 = .ok (.lconst 0, 1) := by decide +kernel
theorem dX11_commonPart_20 : decode cX11_commonPart 20 = .ok (.lcmp, 1) := by decide +kernel
theorem dX11_commonPart_21 : decode cX11_commonPart 21 = .ok (.ifCond .eq 24, 3) := by decide +kernel
theorem dX11_commonPart_24 : decode cX11_commonPart 24 = .ok (.lload 4, 2) := by decide +kernel
theorem dX11_commonPart_26 : decode cX11_commonPart 26 = .ok (.lload 6, 2) := by decide +kernel
theorem dX11_commonPart_28 : decode cX11_commonPart 28 = .ok (.lrem, 1) := by decide +kernel
theorem dX11_commonPart_29 : decode cX11_commonPart 29 = .ok (.lstore 9, 2) := by decide +kernel
theorem dX11_commonPart_31 : decode cX11_commonPart 31 = .ok (.lload 6, 2) := by decide +kernel
theorem dX11_commonPart_33 : decode cX11_commonPart 33 = .ok (.lstore 4, 2) := by decide +kernel
theorem dX11_commonPart_35 : decode cX11_commonPart 35 = .ok (.lload 9, 2) := by decide +kernel
theorem dX11_commonPart_37 : decode cX11_commonPart 37 = .ok (.lstore 6, 2) := by decide +kernel
theorem dX11_commonPart_39 : decode cX11_commonPart 39 = .ok (.iinc 8 1, 3) := by decide +kernel
theorem dX11_commonPart_42 : decode cX11_commonPart 42 = .ok (.goto (-33), 3) := by decide +kernel
theorem dX11_commonPart_45 : decode cX11_commonPart 45 = .ok (.lload 4, 2) := by decide +kernel
theorem dX11_commonPart_47 : decode cX11_commonPart 47 = .ok (.lreturn, 1) := by decide +kernel
set_option maxRecDepth 20000 in
theorem ggX11_hasRichPart_X6_splitUp : GoodIn wsX11_hasRichPart wsX6_splitUp := goodIn_r _ [7, 8, 9, 10, 11, 12, 13, 14, 6, 15, 16, 17, 38, 39, 40, 41, 42, 43, 44, 45, 46, 47] rfl (by decide +kernel)
set_option maxRecDepth 20000 in
theorem gX11_hasRichPart_X6_splitUp : GoodIn wsX11_hasRichPart (wsV RX11 108 RX6 yX6_splitUp wsX6_splitUp) := goodIn_app (goodIn_sub (List.forall_mem_cons.mpr ⟨List.mem_of_getElem? (i := 3) rfl, List.forall_mem_cons.mpr ⟨List.mem_of_getElem? (i := 4) rfl, List.forall_mem_cons.mpr ⟨List.mem_of_getElem? (i := 5) rfl, List.forall_mem_cons.mpr ⟨List.mem_of_getElem? (i := 6) rfl, fun _ h => absurd h List.not_mem_nil⟩⟩⟩⟩) (by decide +kernel)) ggX11_hasRichPart_X6_splitUp
set_option maxRecDepth 20000 in
theorem ggX11_hasRichPart_X6_without : GoodIn wsX11_hasRichPart wsX6_without := goodIn_r _ [21, 9, 16, 11, 8, 38, 39, 40, 41, 42, 43, 44, 45] rfl (by decide +kernel)
set_option maxRecDepth 20000 in
theorem gX11_hasRichPart_X6_without : GoodIn wsX11_hasRichPart (wsV RX11 227 RX6 yX6_without wsX6_without) := goodIn_app (goodIn_sub (List.forall_mem_cons.mpr ⟨List.mem_of_getElem? (i := 18) rfl, List.forall_mem_cons.mpr ⟨List.mem_of_getElem? (i := 19) rfl, List.forall_mem_cons.mpr ⟨List.mem_of_getElem? (i := 20) rfl, List.forall_mem_cons.mpr ⟨List.mem_of_getElem? (i := 6) rfl, fun _ h => absurd h List.not_mem_nil⟩⟩⟩⟩) (by decide +kernel)) ggX11_hasRichPart_X6_without
set_option maxRecDepth 20000 in
theorem ggX11_hasRichPart_X7_summed : GoodIn wsX11_hasRichPart wsX7_summed := goodIn_r _ [26, 27, 28, 48, 49, 50] rfl (by decide +kernel)
set_option maxRecDepth 20000 in
theorem gX11_hasRichPart_X7_summed : GoodIn wsX11_hasRichPart (wsV RX11 184 RX7 yX7_summed wsX7_summed) := goodIn_app (goodIn_sub (List.forall_mem_cons.mpr ⟨List.mem_of_getElem? (i := 22) rfl, List.forall_mem_cons.mpr ⟨List.mem_of_getElem? (i := 23) rfl, List.forall_mem_cons.mpr ⟨List.mem_of_getElem? (i := 24) rfl, List.forall_mem_cons.mpr ⟨List.mem_of_getElem? (i := 25) rfl, fun _ h => absurd h List.not_mem_nil⟩⟩⟩⟩) (by decide +kernel)) ggX11_hasRichPart_X7_summed
theorem dX11_hasRichPart_0 : decode cX11_hasRichPart 0 = .ok (.aload_n 0, 1) := by decide +kernel
theorem dX11_hasRichPart_1 : decode cX11_hasRichPart 1 = .ok (.getfield 26, 3) := by decide +kernel
theorem dX11_hasRichPart_4 : decode cX11_hasRichPart 4 = .ok (.iload_n 1, 1) := by decide +kernel
theorem dX11_hasRichPart_5 : decode cX11_hasRichPart 5 = .ok (.i2l, 1) := by decide +kernel
theorem dX11_hasRichPart_6 : decode cX11_hasRichPart 6 = .ok (.invokevirtual 108, 3) := by decide +kernel
theorem dX11_hasRichPart_9 : decode cX11_hasRichPart 9 = .ok (.iconst 0, 1) := by decide +kernel
theorem dX11_hasRichPart_10 : decode cX11_hasRichPart 10 = .ok (.istore_n 2, 1) := by decide +kernel
theorem dX11_hasRichPart_11 : decode cX11_hasRichPart 11 = .ok (.iload_n 2, 1) := by decide +kernel
theorem dX11_hasRichPart_12 : decode cX11_hasRichPart 12 = .ok (.aload_n 0, 1) := by decide +kernel
theorem dX11_hasRichPart_13 : decode cX11_hasRichPart 13 = .ok (.getfield 26, 3) := by decide +kernel
theorem dX11_hasRichPart_16 : decode cX11_hasRichPart 16 = .ok (.getfield 224, 3) := by decide +kernel
theorem dX11_hasRichPart_19 : decode cX11_hasRichPart 19 = .ok (.if_icmp .ge 34, 3) := by decide +kernel
theorem dX11_hasRichPart_22 : decode cX11_hasRichPart 22 = .ok (.aload_n 0, 1) := by decide +kernel
theorem dX11_hasRichPart_23 : decode cX11_hasRichPart 23 = .ok (.getfield 26, 3) := by decide +kernel
theorem dX11_hasRichPart_26 : decode cX11_hasRichPart 26 = .ok (.iload_n 2, 1) := by decide +kernel
theorem dX11_hasRichPart_27 : decode cX11_hasRichPart 27 = .ok (.invokevirtual 227, 3) := by decide +kernel
theorem dX11_hasRichPart_30 : decode cX11_hasRichPart 30 = .ok (.l2i, 1) := by decide +kernel
theorem dX11_hasRichPart_31 : decode cX11_hasRichPart 31 = .ok (.istore_n 3, 1) := by decide +kernel
theorem dX11_hasRichPart_32 : decode cX11_hasRichPart 32 = .ok (.aload_n 0, 1) := by decide +kernel
theorem dX11_hasRichPart_33 : decode cX11_hasRichPart 33 = .ok (.getfield 42, 3) := by decide +kernel
theorem dX11_hasRichPart_36 : decode cX11_hasRichPart 36 = .ok (.iconst 1, 1) := by decide +kernel
theorem dX11_hasRichPart_37 : decode cX11_hasRichPart 37 = .ok (.iload_n 3, 1) := by decide +kernel
theorem dX11_hasRichPart_38 : decode cX11_hasRichPart 38 = .ok (.invokevirtual 184, 3) := by decide +kernel
theorem dX11_hasRichPart_41 : decode cX11_hasRichPart 41 = .ok (.iload_n 3, 1) := by decide +kernel
theorem dX11_hasRichPart_42 : decode cX11_hasRichPart 42 = .ok (.if_icmp .le 5, 3) := by decide +kernel
theorem dX11_hasRichPart_45 : decode cX11_hasRichPart 45 = .ok (.iconst 1, 1) := by decide +kernel
theorem dX11_hasRichPart_46 : decode cX11_hasRichPart 46 = .ok (.ireturn, 1) := by decide +kernel
theorem dX11_hasRichPart_47 : decode cX11_hasRichPart 47 = .ok (.iinc 2 1, 3) := by decide +kernel
theorem dX11_hasRichPart_50 : decode cX11_hasRichPart 50 = .ok (.goto (-39), 3) := by decide +kernel
theorem dX11_hasRichPart_53 : decode cX11_hasRichPart 53 = .ok (.iconst 0, 1) := by decide +kernel
theorem dX11_hasRichPart_54 : decode cX11_hasRichPart 54 = .ok (.ireturn, 1) := by decide +kernel
theorem dX11_putInOrder_0 : decode cX11_putInOrder 0 = .ok (.sipush 1093, 3) := by decide +kernel
theorem dX11_putInOrder_3 : decode cX11_putInOrder 3 = .ok (.istore_n 2, 1) := by decide +kernel
theorem dX11_putInOrder_4 : decode cX11_putInOrder 4 = .ok (.iload_n 2, 1) := by decide +kernel
theorem dX11_putInOrder_5 : decode cX11_putInOrder 5 = .ok (.iconst 1, 1) := by decide +kernel
theorem dX11_putInOrder_6 : decode cX11_putInOrder 6 = .ok (.if_icmp .lt 84, 3) := by decide +kernel
theorem dX11_putInOrder_9 : decode cX11_putInOrder 9 = .ok (.iload_n 2, 1) := by decide +kernel
theorem dX11_putInOrder_10 : decode cX11_putInOrder 10 = .ok (.istore_n 3, 1) := by decide +kernel
theorem dX11_putInOrder_11 : decode cX11_putInOrder 11 = .ok (.iload_n 3, 1) := by decide +kernel
theorem dX11_putInOrder_12 : decode cX11_putInOrder 12 = .ok (.iload_n 1, 1) := by decide +kernel
theorem dX11_putInOrder_13 : decode cX11_putInOrder 13 = .ok (.if_icmp .ge 70, 3) := by decide +kernel
theorem dX11_putInOrder_16 : decode cX11_putInOrder 16 = .ok (.iload_n 3, 1) := by decide +kernel
theorem dX11_putInOrder_17 : decode cX11_putInOrder 17 = .ok (.aload_n 0, 1) := by decide +kernel
theorem dX11_putInOrder_18 : decode cX11_putInOrder 18 = .ok (.arraylength, 1) := by decide +kernel
theorem dX11_putInOrder_19 : decode cX11_putInOrder 19 = .ok (.if_icmp .ge 64, 3) := by decide +kernel
theorem dX11_putInOrder_22 : decode cX11_putInOrder 22 = .ok (.aload_n 0, 1) := by decide +kernel
theorem dX11_putInOrder_23 : decode cX11_putInOrder 23 = .ok (.iload_n 3, 1) := by decide +kernel
theorem dX11_putInOrder_24 : decode cX11_putInOrder 24 = .ok (.laload, 1) := by decide +kernel
theorem dX11_putInOrder_25 : decode cX11_putInOrder 25 = .ok (.lstore 4, 2) := by decide +kernel
theorem dX11_putInOrder_27 : decode cX11_putInOrder 27 = .ok (.iload_n 3, 1) := by decide +kernel
theorem dX11_putInOrder_28 : decode cX11_putInOrder 28 = .ok (.istore 6, 2) := by decide +kernel
theorem dX11_putInOrder_30 : decode cX11_putInOrder 30 = .ok (.iload_n 3, 1) := by decide +kernel
theorem dX11_putInOrder_31 : decode cX11_putInOrder 31 = .ok (.iload_n 2, 1) := by decide +kernel
theorem dX11_putInOrder_32 : decode cX11_putInOrder 32 = .ok (.isub, 1) := by decide +kernel
theorem dX11_putInOrder_33 : decode cX11_putInOrder 33 = .ok (.istore 7, 2) := by decide +kernel
theorem dX11_putInOrder_35 : decode cX11_putInOrder 35 = .ok (.iload 7, 2) := by decide +kernel
theorem dX11_putInOrder_37 : decode cX11_putInOrder 37 = .ok (.ifCond .lt 34, 3) := by decide +kernel
theorem dX11_putInOrder_40 : decode cX11_putInOrder 40 = .ok (.aload_n 0, 1) := by decide +kernel
theorem dX11_putInOrder_41 : decode cX11_putInOrder 41 = .ok (.iload 7, 2) := by decide +kernel
theorem dX11_putInOrder_43 : decode cX11_putInOrder 43 = .ok (.laload, 1) := by decide +kernel
theorem dX11_putInOrder_44 : decode cX11_putInOrder 44 = .ok (.lload 4, 2) := by decide +kernel
theorem dX11_putInOrder_46 : decode cX11_putInOrder 46 = .ok (.lcmp, 1) := by decide +kernel
theorem dX11_putInOrder_47 : decode cX11_putInOrder 47 = .ok (.ifCond .le 24, 3) := by decide +kernel
theorem dX11_putInOrder_50 : decode cX11_putInOrder 50 = .ok (.aload_n 0, 1) := by decide +kernel
theorem dX11_putInOrder_51 : decode cX11_putInOrder 51 = .ok (.iload 6, 2) := by decide +kernel
theorem dX11_putInOrder_53 : decode cX11_putInOrder 53 = .ok (.aload_n 0, 1) := by decide +kernel
theorem dX11_putInOrder_54 : decode cX11_putInOrder 54 = .ok (.iload 7, 2) := by decide +kernel
theorem dX11_putInOrder_56 : decode cX11_putInOrder 56 = .ok (.laload, 1) := by decide +kernel
theorem dX11_putInOrder_57 : decode cX11_putInOrder 57 = .ok (.lastore, 1) := by decide +kernel
theorem dX11_putInOrder_58 : decode cX11_putInOrder 58 = .ok (.iload 7, 2) := by decide +kernel
theorem dX11_putInOrder_60 : decode cX11_putInOrder 60 = .ok (.istore 6, 2) := by decide +kernel
theorem dX11_putInOrder_62 : decode cX11_putInOrder 62 = .ok (.iload 7, 2) := by decide +kernel
theorem dX11_putInOrder_64 : decode cX11_putInOrder 64 = .ok (.iload_n 2, 1) := by decide +kernel
theorem dX11_putInOrder_65 : decode cX11_putInOrder 65 = .ok (.isub, 1) := by decide +kernel
theorem dX11_putInOrder_66 : decode cX11_putInOrder 66 = .ok (.istore 7, 2) := by decide +kernel
theorem dX11_putInOrder_68 : decode cX11_putInOrder 68 = .ok (.goto (-33), 3) := by decide +kernel
theorem dX11_putInOrder_71 : decode cX11_putInOrder 71 = .ok (.aload_n 0, 1) := by decide +kernel
theorem dX11_putInOrder_72 : decode cX11_putInOrder 72 = .ok (.iload 6, 2) := by decide +kernel
theorem dX11_putInOrder_74 : decode cX11_putInOrder 74 = .ok (.lload 4, 2) := by decide +kernel
theorem dX11_putInOrder_76 : decode cX11_putInOrder 76 = .ok (.lastore, 1) := by decide +kernel
theorem dX11_putInOrder_77 : decode cX11_putInOrder 77 = .ok (.iinc 3 1, 3) := by decide +kernel
theorem dX11_putInOrder_80 : decode cX11_putInOrder 80 = .ok (.goto (-69), 3) := by decide +kernel
theorem dX11_putInOrder_83 : decode cX11_putInOrder 83 = .ok (.iload_n 2, 1) := by decide +kernel
theorem dX11_putInOrder_84 : decode cX11_putInOrder 84 = .ok (.iconst 3, 1) := by decide +kernel
theorem dX11_putInOrder_85 : decode cX11_putInOrder 85 = .ok (.idiv, 1) := by decide +kernel
theorem dX11_putInOrder_86 : decode cX11_putInOrder 86 = .ok (.istore_n 2, 1) := by decide +kernel
theorem dX11_putInOrder_87 : decode cX11_putInOrder 87 = .ok (.goto (-83), 3) := by decide +kernel
theorem dX11_putInOrder_90 : decode cX11_putInOrder 90 = .ok (.return_, 1) := by decide +kernel
theorem dX12_init_0 : decode cX12_init 0 = .ok (.aload_n 0, 1) := by decide +kernel
theorem dX12_init_1 : decode cX12_init 1 = .ok (.invokespecial 1, 3) := by decide +kernel
theorem dX12_init_4 : decode cX12_init 4 = .ok (.aload_n 0, 1) := by decide +kernel
theorem dX12_init_5 : decode cX12_init 5 = .ok (.bipush 60, 2) := by decide +kernel
theorem dX12_init_7 : decode cX12_init 7 = .ok (.newarray .int, 2) := by decide +kernel
theorem dX12_init_9 : decode cX12_init 9 = .ok (.putfield 7, 3) := by decide +kernel
theorem dX12_init_12 : decode cX12_init 12 = .ok (.aload_n 0, 1) := by decide +kernel
theorem dX12_init_13 : decode cX12_init 13 = .ok (.bipush 40, 2) := by decide +kernel
theorem dX12_init_15 : decode cX12_init 15 = .ok (.newarray .long, 2) := by decide +kernel
theorem dX12_init_17 : decode cX12_init 17 = .ok (.putfield 13, 3) := by decide +kernel
theorem dX12_init_20 : decode cX12_init 20 = .ok (.aload_n 0, 1) := by decide +kernel
theorem dX12_init_21 : decode cX12_init 21 = .ok (.sipush 201, 3) := by decide +kernel
theorem dX12_init_24 : decode cX12_init 24 = .ok (.newarray .long, 2) := by decide +kernel
theorem dX12_init_26 : decode cX12_init 26 = .ok (.putfield 17, 3) := by decide +kernel
theorem dX12_init_29 : decode cX12_init 29 = .ok (.aload_n 0, 1) := by decide +kernel
theorem dX12_init_30 : decode cX12_init 30 = .ok (.ldc 20, 2) := by decide +kernel
theorem dX12_init_32 : decode cX12_init 32 = .ok (.newarray .int, 2) := by decide +kernel
theorem dX12_init_34 : decode cX12_init 34 = .ok (.putfield 21, 3) := by decide +kernel
theorem dX12_init_37 : decode cX12_init 37 = .ok (.aload_n 0, 1) := by decide +kernel
theorem dX12_init_38 : decode cX12_init 38 = .ok (.sipush 1000, 3) := by decide +kernel
theorem dX12_init_41 : decode cX12_init 41 = .ok (.newarray .long, 2) := by decide +kernel
theorem dX12_init_43 : decode cX12_init 43 = .ok (.putfield 24, 3) := by decide +kernel
theorem dX12_init_46 : decode cX12_init 46 = .ok (.aload_n 0, 1) := by decide +kernel
theorem dX12_init_47 : decode cX12_init 47 = .ok (.sipush 5001, 3) := by decide +kernel
theorem dX12_init_50 : decode cX12_init 50 = .ok (.newarray .int, 2) := by decide +kernel
theorem dX12_init_52 : decode cX12_init 52 = .ok (.putfield 27, 3) := by decide +kernel
theorem dX12_init_55 : decode cX12_init 55 = .ok (.aload_n 0, 1) := by decide +kernel
theorem dX12_init_56 : decode cX12_init 56 = .ok (.sipush 5001, 3) := by decide +kernel
theorem dX12_init_59 : decode cX12_init 59 = .ok (.newarray .boolean, 2) := by decide +kernel
theorem dX12_init_61 : decode cX12_init 61 = .ok (.putfield 30, 3) := by decide +kernel
theorem dX12_init_64 : decode cX12_init 64 = .ok (.aload_n 0, 1) := by decide +kernel
theorem dX12_init_65 : decode cX12_init 65 = .ok (.sipush 5001, 3) := by decide +kernel
theorem dX12_init_68 : decode cX12_init 68 = .ok (.newarray .boolean, 2) := by decide +kernel
theorem dX12_init_70 : decode cX12_init 70 = .ok (.putfield 34, 3) := by decide +kernel
theorem dX12_init_73 : decode cX12_init 73 = .ok (.aload_n 0, 1) := by decide +kernel
theorem dX12_init_74 : decode cX12_init 74 = .ok (.sipush 5001, 3) := by decide +kernel
theorem dX12_init_77 : decode cX12_init 77 = .ok (.newarray .boolean, 2) := by decide +kernel
theorem dX12_init_79 : decode cX12_init 79 = .ok (.putfield 37, 3) := by decide +kernel
theorem dX12_init_82 : decode cX12_init 82 = .ok (.aload_n 0, 1) := by decide +kernel
theorem dX12_init_83 : decode cX12_init 83 = .ok (.bipush 80, 2) := by decide +kernel
theorem dX12_init_85 : decode cX12_init 85 = .ok (.newarray .long, 2) := by decide +kernel
theorem dX12_init_87 : decode cX12_init 87 = .ok (.putfield 40, 3) := by decide +kernel
theorem dX12_init_90 : decode cX12_init 90 = .ok (.aload_n 0, 1) := by decide +kernel
theorem dX12_init_91 : decode cX12_init 91 = .ok (.bipush 9, 2) := by decide +kernel
theorem dX12_init_93 : decode cX12_init 93 = .ok (.newarray .boolean, 2) := by decide +kernel
theorem dX12_init_95 : decode cX12_init 95 = .ok (.putfield 43, 3) := by decide +kernel
theorem dX12_init_98 : decode cX12_init 98 = .ok (.aload_n 0, 1) := by decide +kernel
theorem dX12_init_99 : decode cX12_init 99 = .ok (.bipush (-4), 2) := by decide +kernel
theorem dX12_init_101 : decode cX12_init 101 = .ok (.putfield 46, 3) := by decide +kernel
theorem dX12_init_104 : decode cX12_init 104 = .ok (.return_, 1) := by decide +kernel
theorem dX12_in_0 : decode cX12_in 0 = .ok (.lload_n 0, 1) := by decide +kernel
theorem dX12_in_1 : decode cX12_in 1 = .ok (.lload_n 2, 1) := by decide +kernel
theorem dX12_in_2 : decode cX12_in 2 = .ok (.lcmp, 1) := by decide +kernel
theorem dX12_in_3 : decode cX12_in 3 = .ok (.ifCond .lt 14, 3) := by decide +kernel
theorem dX12_in_6 : decode cX12_in 6 = .ok (.lload_n 0, 1) := by decide +kernel
theorem dX12_in_7 : decode cX12_in 7 = .ok (.lload 4, 2) := by decide +kernel
theorem dX12_in_9 : decode cX12_in 9 = .ok (.lcmp, 1) := by decide +kernel
theorem dX12_in_10 : decode cX12_in 10 = .ok (.ifCond .gt 7, 3) := by decide +kernel
theorem dX12_in_13 : decode cX12_in 13 = .ok (.iconst 1, 1) := by decide +kernel
theorem dX12_in_14 : decode cX12_in 14 = .ok (.goto 4, 3) := by decide +kernel
theorem dX12_in_17 : decode cX12_in 17 = .ok (.iconst 0, 1) := by decide +kernel
theorem dX12_in_18 : decode cX12_in 18 = .ok (.ireturn, 1) := by decide +kernel
theorem dX12_common_0 : decode cX12_common 0 = .ok (.lload_n 0, 1) := by decide +kernel
theorem dX12_common_1 : decode cX12_common 1 = .ok (.lstore 4, 2) := by decide +kernel
theorem dX12_common_3 : decode cX12_common 3 = .ok (.lload_n 2, 1) := by decide +kernel
theorem dX12_common_4 : decode cX12_common 4 = .ok (.lstore 6, 2) := by decide +kernel
theorem dX12_common_6 : decode cX12_common 6 = .ok (.lload 6, 2) := by decide +kernel
theorem dX12_common_8 : decode cX12_common 8 = .ok (.lconst 0, 1) := by decide +kernel
theorem dX12_common_9 : decode cX12_common 9 = .ok (.lcmp, 1) := by decide +kernel
theorem dX12_common_10 : decode cX12_common 10 = .ok (.ifCond .eq 21, 3) := by decide +kernel
theorem dX12_common_13 : decode cX12_common 13 = .ok (.lload 4, 2) := by decide +kernel
theorem dX12_common_15 : decode cX12_common 15 = .ok (.lload 6, 2) := by decide +kernel
theorem dX12_common_17 : decode cX12_common 17 = .ok (.lrem, 1) := by decide +kernel
theorem dX12_common_18 : decode cX12_common 18 = .ok (.lstore 8, 2) := by decide +kernel
theorem dX12_common_20 : decode cX12_common 20 = .ok (.lload 6, 2) := by decide +kernel
theorem dX12_common_22 : decode cX12_common 22 = .ok (.lstore 4, 2) := by decide +kernel
theorem dX12_common_24 : decode cX12_common 24 = .ok (.lload 8, 2) := by decide +kernel
theorem dX12_common_26 : decode cX12_common 26 = .ok (.lstore 6, 2) := by decide +kernel
theorem dX12_common_28 : decode cX12_common 28 = .ok (.goto (-22), 3) := by decide +kernel
theorem dX12_common_31 : decode cX12_common 31 = .ok (.lload 4, 2) := by decide +kernel
theorem dX12_common_33 : decode cX12_common 33 = .ok (.lreturn, 1) := by decide +kernel
theorem dX12_layPrimes_0 : decode cX12_layPrimes 0 = .ok (.aload_n 0, 1) := by decide +kernel
theorem dX12_layPrimes_1 : decode cX12_layPrimes 1 = .ok (.iconst 0, 1) := by decide +kernel
theorem dX12_layPrimes_2 : decode cX12_layPrimes 2 = .ok (.putfield 50, 3) := by decide +kernel
theorem dX12_layPrimes_5 : decode cX12_layPrimes 5 = .ok (.lload_n 1, 1) := by decide +kernel
theorem dX12_layPrimes_6 : decode cX12_layPrimes 6 = .ok (.lstore_n 3, 1) := by decide +kernel
theorem dX12_layPrimes_7 : decode cX12_layPrimes 7 = .ok (.ldc2_w 53, 3) := by decide +kernel
theorem dX12_layPrimes_10 : decode cX12_layPrimes 10 = .ok (.lstore 5, 2) := by decide +kernel
theorem dX12_layPrimes_12 : decode cX12_layPrimes 12 = .ok (.lload 5, 2) := by decide +kernel
theorem dX12_layPrimes_14 : decode cX12_layPrimes 14 = .ok (.lload 5, 2) := by decide +kernel
theorem dX12_layPrimes_16 : decode cX12_layPrimes 16 = .ok (.lmul, 1) := by decide +kernel
theorem dX12_layPrimes_17 : decode cX12_layPrimes 17 = .ok (.lload_n 3, 1) := by decide +kernel
theorem dX12_layPrimes_18 : decode cX12_layPrimes 18 = .ok (.lcmp, 1) := by decide +kernel
theorem dX12_layPrimes_19 : decode cX12_layPrimes 19 = .ok (.ifCond .gt 50, 3) := by decide +kernel
theorem dX12_layPrimes_22 : decode cX12_layPrimes 22 = .ok (.lload_n 3, 1) := by decide +kernel
theorem dX12_layPrimes_23 : decode cX12_layPrimes 23 = .ok (.lload 5, 2) := by decide +kernel
theorem dX12_layPrimes_25 : decode cX12_layPrimes 25 = .ok (.lrem, 1) := by decide +kernel
theorem dX12_layPrimes_26 : decode cX12_layPrimes 26 = .ok (.lconst 0, 1) := by decide +kernel
theorem dX12_layPrimes_27 : decode cX12_layPrimes 27 = .ok (.lcmp, 1) := by decide +kernel
theorem dX12_layPrimes_28 : decode cX12_layPrimes 28 = .ok (.ifCond .ne 32, 3) := by decide +kernel
theorem dX12_layPrimes_31 : decode cX12_layPrimes 31 = .ok (.aload_n 0, 1) := by decide +kernel
theorem dX12_layPrimes_32 : decode cX12_layPrimes 32 = .ok (.getfield 13, 3) := by decide +kernel
theorem dX12_layPrimes_35 : decode cX12_layPrimes 35 = .ok (.aload_n 0, 1) := by decide +kernel
theorem dX12_layPrimes_36 : decode cX12_layPrimes 36 = .ok (.getfield 50, 3) := by decide +kernel
theorem dX12_layPrimes_39 : decode cX12_layPrimes 39 = .ok (.lload 5, 2) := by decide +kernel
theorem dX12_layPrimes_41 : decode cX12_layPrimes 41 = .ok (.lastore, 1) := by decide +kernel
theorem dX12_layPrimes_42 : decode cX12_layPrimes 42 = .ok (.aload_n 0, 1) := by decide +kernel
theorem dX12_layPrimes_43 : decode cX12_layPrimes 43 = .ok (.dup, 1) := by decide +kernel
theorem dX12_layPrimes_44 : decode cX12_layPrimes 44 = .ok (.getfield 50, 3) := by decide +kernel
theorem dX12_layPrimes_47 : decode cX12_layPrimes 47 = .ok (.iconst 1, 1) := by decide +kernel
theorem dX12_layPrimes_48 : decode cX12_layPrimes 48 = .ok (.iadd, 1) := by decide +kernel
theorem dX12_layPrimes_49 : decode cX12_layPrimes 49 = .ok (.putfield 50, 3) := by decide +kernel
theorem dX12_layPrimes_52 : decode cX12_layPrimes 52 = .ok (.lload_n 3, 1) := by decide +kernel
theorem dX12_layPrimes_53 : decode cX12_layPrimes 53 = .ok (.lload 5, 2) := by decide +kernel
theorem dX12_layPrimes_55 : decode cX12_layPrimes 55 = .ok (.ldiv, 1) := by decide +kernel
theorem dX12_layPrimes_56 : decode cX12_layPrimes 56 = .ok (.lstore_n 3, 1) := by decide +kernel
theorem dX12_layPrimes_57 : decode cX12_layPrimes 57 = .ok (.goto (-35), 3) := by decide +kernel
theorem dX12_layPrimes_60 : decode cX12_layPrimes 60 = .ok (.lload 5, 2) := by decide +kernel
theorem dX12_layPrimes_62 : decode cX12_layPrimes 62 = .ok (.lconst 1, 1) := by decide +kernel
theorem dX12_layPrimes_63 : decode cX12_layPrimes 63 = .ok (.ladd, 1) := by decide +kernel
theorem dX12_layPrimes_64 : decode cX12_layPrimes 64 = .ok (.lstore 5, 2) := by decide +kernel
theorem dX12_layPrimes_66 : decode cX12_layPrimes 66 = .ok (.goto (-54), 3) := by decide +kernel
theorem dX12_layPrimes_69 : decode cX12_layPrimes 69 = .ok (.lload_n 3, 1) := by decide +kernel
theorem dX12_layPrimes_70 : decode cX12_layPrimes 70 = .ok (.lconst 1, 1) := by decide +kernel
theorem dX12_layPrimes_71 : decode cX12_layPrimes 71 = .ok (.lcmp, 1) := by decide +kernel
theorem dX12_layPrimes_72 : decode cX12_layPrimes 72 = .ok (.ifCond .le 23, 3) := by decide +kernel
theorem dX12_layPrimes_75 : decode cX12_layPrimes 75 = .ok (.aload_n 0, 1) := by decide +kernel
theorem dX12_layPrimes_76 : decode cX12_layPrimes 76 = .ok (.getfield 13, 3) := by decide +kernel
theorem dX12_layPrimes_79 : decode cX12_layPrimes 79 = .ok (.aload_n 0, 1) := by decide +kernel
theorem dX12_layPrimes_80 : decode cX12_layPrimes 80 = .ok (.getfield 50, 3) := by decide +kernel
theorem dX12_layPrimes_83 : decode cX12_layPrimes 83 = .ok (.lload_n 3, 1) := by decide +kernel
theorem dX12_layPrimes_84 : decode cX12_layPrimes 84 = .ok (.lastore, 1) := by decide +kernel
theorem dX12_layPrimes_85 : decode cX12_layPrimes 85 = .ok (.aload_n 0, 1) := by decide +kernel
theorem dX12_layPrimes_86 : decode cX12_layPrimes 86 = .ok (.dup, 1) := by decide +kernel
theorem dX12_layPrimes_87 : decode cX12_layPrimes 87 = .ok (.getfield 50, 3) := by decide +kernel
theorem dX12_layPrimes_90 : decode cX12_layPrimes 90 = .ok (.iconst 1, 1) := by decide +kernel
theorem dX12_layPrimes_91 : decode cX12_layPrimes 91 = .ok (.iadd, 1) := by decide +kernel
theorem dX12_layPrimes_92 : decode cX12_layPrimes 92 = .ok (.putfield 50, 3) := by decide +kernel
theorem dX12_layPrimes_95 : decode cX12_layPrimes 95 = .ok (.return_, 1) := by decide +kernel
set_option maxRecDepth 20000 in
theorem ggX12_wholeSum_X12_layPrimes : GoodIn wsX12_wholeSum wsX12_layPrimes := goodIn_r _ [7, 1, 8, 2, 9, 10, 11, 12, 13, 14, 15, 16, 17, 18, 19, 20, 21, 22, 23, 24, 25, 26, 27, 28, 29] rfl (by decide +kernel)
set_option maxRecDepth 20000 in
theorem gX12_wholeSum_X12_layPrimes : GoodIn wsX12_wholeSum (wsV RX12 55 RX12 yX12_layPrimes wsX12_layPrimes) := goodIn_app (goodIn_sub (List.forall_mem_cons.mpr ⟨List.mem_of_getElem? (i := 3) rfl, List.forall_mem_cons.mpr ⟨List.mem_of_getElem? (i := 4) rfl, List.forall_mem_cons.mpr ⟨List.mem_of_getElem? (i := 5) rfl, List.forall_mem_cons.mpr ⟨List.mem_of_getElem? (i := 6) rfl, fun _ h => absurd h List.not_mem_nil⟩⟩⟩⟩) (by decide +kernel)) ggX12_wholeSum_X12_layPrimes
theorem dX12_wholeSum_0 : decode cX12_wholeSum 0 = .ok (.aload_n 0, 1) := by decide +kernel
theorem dX12_wholeSum_1 : decode cX12_wholeSum 1 = .ok (.lload_n 1, 1) := by decide +kernel
theorem dX12_wholeSum_2 : decode cX12_wholeSum 2 = .ok (.invokevirtual 55, 3) := by decide +kernel
theorem dX12_wholeSum_5 : decode cX12_wholeSum 5 = .ok (.lconst 1, 1) := by decide +kernel
theorem dX12_wholeSum_6 : decode cX12_wholeSum 6 = .ok (.lstore 4, 2) := by decide +kernel
theorem dX12_wholeSum_8 : decode cX12_wholeSum 8 = .ok (.iconst 0, 1) := by decide +kernel
theorem dX12_wholeSum_9 : decode cX12_wholeSum 9 = .ok (.istore 6, 2) := by decide +kernel
theorem dX12_wholeSum_11 : decode cX12_wholeSum 11 = .ok (.iload 6, 2) := by decide +kernel
theorem dX12_wholeSum_13 : decode cX12_wholeSum 13 = .ok (.aload_n 0, 1) := by decide +kernel
theorem dX12_wholeSum_14 : decode cX12_wholeSum 14 = .ok (.getfield 50, 3) := by decide +kernel
theorem dX12_wholeSum_17 : decode cX12_wholeSum 17 = .ok (.if_icmp .ge 81, 3) := by decide +kernel
theorem dX12_wholeSum_20 : decode cX12_wholeSum 20 = .ok (.aload_n 0, 1) := by decide +kernel
theorem dX12_wholeSum_21 : decode cX12_wholeSum 21 = .ok (.getfield 13, 3) := by decide +kernel
theorem dX12_wholeSum_24 : decode cX12_wholeSum 24 = .ok (.iload 6, 2) := by decide +kernel
theorem dX12_wholeSum_26 : decode cX12_wholeSum 26 = .ok (.laload, 1) := by decide +kernel
theorem dX12_wholeSum_27 : decode cX12_wholeSum 27 = .ok (.lstore 7, 2) := by decide +kernel
theorem dX12_wholeSum_29 : decode cX12_wholeSum 29 = .ok (.lconst 1, 1) := by decide +kernel
theorem dX12_wholeSum_30 : decode cX12_wholeSum 30 = .ok (.lstore 9, 2) := by decide +kernel
theorem dX12_wholeSum_32 : decode cX12_wholeSum 32 = .ok (.lconst 1, 1) := by decide +kernel
theorem dX12_wholeSum_33 : decode cX12_wholeSum 33 = .ok (.lstore 11, 2) := by decide +kernel
theorem dX12_wholeSum_35 : decode cX12_wholeSum 35 = .ok (.iload 6, 2) := by decide +kernel
theorem dX12_wholeSum_37 : decode cX12_wholeSum 37 = .ok (.aload_n 0, 1) := by decide +kernel
theorem dX12_wholeSum_38 : decode cX12_wholeSum 38 = .ok (.getfield 50, 3) := by decide +kernel
theorem dX12_wholeSum_41 : decode cX12_wholeSum 41 = .ok (.if_icmp .ge 36, 3) := by decide +kernel
theorem dX12_wholeSum_44 : decode cX12_wholeSum 44 = .ok (.aload_n 0, 1) := by decide +kernel
theorem dX12_wholeSum_45 : decode cX12_wholeSum 45 = .ok (.getfield 13, 3) := by decide +kernel
theorem dX12_wholeSum_48 : decode cX12_wholeSum 48 = .ok (.iload 6, 2) := by decide +kernel
theorem dX12_wholeSum_50 : decode cX12_wholeSum 50 = .ok (.laload, 1) := by decide +kernel
theorem dX12_wholeSum_51 : decode cX12_wholeSum 51 = .ok (.lload 7, 2) := by decide +kernel
theorem dX12_wholeSum_53 : decode cX12_wholeSum 53 = .ok (.lcmp, 1) := by decide +kernel
theorem dX12_wholeSum_54 : decode cX12_wholeSum 54 = .ok (.ifCond .ne 23, 3) := by decide +kernel
theorem dX12_wholeSum_57 : decode cX12_wholeSum 57 = .ok (.lload 9, 2) := by decide +kernel
theorem dX12_wholeSum_59 : decode cX12_wholeSum 59 = .ok (.lload 7, 2) := by decide +kernel
theorem dX12_wholeSum_61 : decode cX12_wholeSum 61 = .ok (.lmul, 1) := by decide +kernel
theorem dX12_wholeSum_62 : decode cX12_wholeSum 62 = .ok (.lstore 9, 2) := by decide +kernel
theorem dX12_wholeSum_64 : decode cX12_wholeSum 64 = .ok (.lload 11, 2) := by decide +kernel
theorem dX12_wholeSum_66 : decode cX12_wholeSum 66 = .ok (.lload 9, 2) := by decide +kernel
theorem dX12_wholeSum_68 : decode cX12_wholeSum 68 = .ok (.ladd, 1) := by decide +kernel
theorem dX12_wholeSum_69 : decode cX12_wholeSum 69 = .ok (.lstore 11, 2) := by decide +kernel
theorem dX12_wholeSum_71 : decode cX12_wholeSum 71 = .ok (.iinc 6 1, 3) := by decide +kernel
theorem dX12_wholeSum_74 : decode cX12_wholeSum 74 = .ok (.goto (-39), 3) := by decide +kernel
theorem dX12_wholeSum_77 : decode cX12_wholeSum 77 = .ok (.lload 4, 2) := by decide +kernel
theorem dX12_wholeSum_79 : decode cX12_wholeSum 79 = .ok (.iload_n 3, 1) := by decide +kernel
theorem dX12_wholeSum_80 : decode cX12_wholeSum 80 = .ok (.ifCond .eq 10, 3) := by decide +kernel
theorem dX12_wholeSum_83 : decode cX12_wholeSum 83 = .ok (.lconst 1, 1) := by decide +kernel
theorem dX12_wholeSum_84 : decode cX12_wholeSum 84 = .ok (.lload 9, 2) := by decide +kernel
theorem dX12_wholeSum_86 : decode cX12_wholeSum 86 = .ok (.ladd, 1) := by decide +kernel
theorem dX12_wholeSum_87 : decode cX12_wholeSum 87 = .ok (.goto 5, 3) := by decide +kernel
theorem dX12_wholeSum_90 : decode cX12_wholeSum 90 = .ok (.lload 11, 2) := by decide +kernel
theorem dX12_wholeSum_92 : decode cX12_wholeSum 92 = .ok (.lmul, 1) := by decide +kernel
theorem dX12_wholeSum_93 : decode cX12_wholeSum 93 = .ok (.lstore 4, 2) := by decide +kernel
theorem dX12_wholeSum_95 : decode cX12_wholeSum 95 = .ok (.goto (-84), 3) := by decide +kernel
theorem dX12_wholeSum_98 : decode cX12_wholeSum 98 = .ok (.lload 4, 2) := by decide +kernel
theorem dX12_wholeSum_100 : decode cX12_wholeSum 100 = .ok (.lreturn, 1) := by decide +kernel
set_option maxRecDepth 20000 in
theorem ggX12_sumOf_X12_wholeSum : GoodIn wsX12_sumOf wsX12_wholeSum := goodIn_r _ [5, 6, 7, 8, 9, 10, 4, 11, 12, 13, 14, 15, 16, 17, 18, 19, 20, 21, 22, 23, 24, 25, 26, 27, 28, 29, 30, 31, 32, 33] rfl (by decide +kernel)
set_option maxRecDepth 20000 in
theorem gX12_sumOf_X12_wholeSum : GoodIn wsX12_sumOf (wsV RX12 59 RX12 yX12_wholeSum wsX12_wholeSum) := goodIn_app (goodIn_sub (List.forall_mem_cons.mpr ⟨List.mem_of_getElem? (i := 1) rfl, List.forall_mem_cons.mpr ⟨List.mem_of_getElem? (i := 2) rfl, List.forall_mem_cons.mpr ⟨List.mem_of_getElem? (i := 3) rfl, List.forall_mem_cons.mpr ⟨List.mem_of_getElem? (i := 4) rfl, fun _ h => absurd h List.not_mem_nil⟩⟩⟩⟩) (by decide +kernel)) ggX12_sumOf_X12_wholeSum
theorem dX12_sumOf_0 : decode cX12_sumOf 0 = .ok (.lload_n 2, 1) := by decide +kernel
theorem dX12_sumOf_1 : decode cX12_sumOf 1 = .ok (.lconst 1, 1) := by decide +kernel
theorem dX12_sumOf_2 : decode cX12_sumOf 2 = .ok (.lcmp, 1) := by decide +kernel
theorem dX12_sumOf_3 : decode cX12_sumOf 3 = .ok (.ifCond .ne 13, 3) := by decide +kernel
theorem dX12_sumOf_6 : decode cX12_sumOf 6 = .ok (.iload_n 1, 1) := by decide +kernel
theorem dX12_sumOf_7 : decode cX12_sumOf 7 = .ok (.ifCond .ne 7, 3) := by decide +kernel
theorem dX12_sumOf_10 : decode cX12_sumOf 10 = .ok (.lconst 1, 1) := by decide +kernel
theorem dX12_sumOf_11 : decode cX12_sumOf 11 = .ok (.goto 4, 3) := by decide +kernel
theorem dX12_sumOf_14 : decode cX12_sumOf 14 = .ok (.lconst 0, 1) := by decide +kernel
theorem dX12_sumOf_15 : decode cX12_sumOf 15 = .ok (.lreturn, 1) := by decide +kernel
theorem dX12_sumOf_16 : decode cX12_sumOf 16 = .ok (.aload_n 0, 1) := by decide +kernel
theorem dX12_sumOf_17 : decode cX12_sumOf 17 = .ok (.lload_n 2, 1) := by decide +kernel
theorem dX12_sumOf_18 : decode cX12_sumOf 18 = .ok (.iload_n 1, 1) := by decide +kernel
theorem dX12_sumOf_19 : decode cX12_sumOf 19 = .ok (.iconst 2, 1) := by decide +kernel
theorem dX12_sumOf_20 : decode cX12_sumOf 20 = .ok (.if_icmp .ne 7, 3) := by decide +kernel
theorem dX12_sumOf_23 : decode cX12_sumOf 23 = .ok (.iconst 1, 1) := by decide +kernel
theorem dX12_sumOf_24 : decode cX12_sumOf 24 = .ok (.goto 4, 3) := by decide +kernel
theorem dX12_sumOf_27 : decode cX12_sumOf 27 = .ok (.iconst 0, 1) := by decide +kernel
theorem dX12_sumOf_28 : decode cX12_sumOf 28 = .ok (.invokevirtual 59, 3) := by decide +kernel
theorem dX12_sumOf_31 : decode cX12_sumOf 31 = .ok (.lstore 4, 2) := by decide +kernel
theorem dX12_sumOf_33 : decode cX12_sumOf 33 = .ok (.iload_n 1, 1) := by decide +kernel
theorem dX12_sumOf_34 : decode cX12_sumOf 34 = .ok (.ifCond .ne 8, 3) := by decide +kernel
theorem dX12_sumOf_37 : decode cX12_sumOf 37 = .ok (.lload 4, 2) := by decide +kernel
theorem dX12_sumOf_39 : decode cX12_sumOf 39 = .ok (.goto 21, 3) := by decide +kernel
theorem dX12_sumOf_42 : decode cX12_sumOf 42 = .ok (.iload_n 1, 1) := by decide +kernel
theorem dX12_sumOf_43 : decode cX12_sumOf 43 = .ok (.iconst 3, 1) := by decide +kernel
theorem dX12_sumOf_44 : decode cX12_sumOf 44 = .ok (.if_icmp .ge 10, 3) := by decide +kernel
theorem dX12_sumOf_47 : decode cX12_sumOf 47 = .ok (.lload 4, 2) := by decide +kernel
theorem dX12_sumOf_49 : decode cX12_sumOf 49 = .ok (.lload_n 2, 1) := by decide +kernel
theorem dX12_sumOf_50 : decode cX12_sumOf 50 = .ok (.lsub, 1) := by decide +kernel
theorem dX12_sumOf_51 : decode cX12_sumOf 51 = .ok (.goto 9, 3) := by decide +kernel
theorem dX12_sumOf_54 : decode cX12_sumOf 54 = .ok (.lload 4, 2) := by decide +kernel
theorem dX12_sumOf_56 : decode cX12_sumOf 56 = .ok (.lload_n 2, 1) := by decide +kernel
theorem dX12_sumOf_57 : decode cX12_sumOf 57 = .ok (.lsub, 1) := by decide +kernel
theorem dX12_sumOf_58 : decode cX12_sumOf 58 = .ok (.lconst 1, 1) := by decide +kernel
theorem dX12_sumOf_59 : decode cX12_sumOf 59 = .ok (.lsub, 1) := by decide +kernel
theorem dX12_sumOf_60 : decode cX12_sumOf 60 = .ok (.lreturn, 1) := by decide +kernel
set_option maxRecDepth 20000 in
theorem ggX12_isNumber_X12_in : GoodIn wsX12_isNumber wsX12_in := goodIn_r _ [5] rfl (by decide +kernel)
set_option maxRecDepth 20000 in
theorem gX12_isNumber_X12_in : GoodIn wsX12_isNumber (va_wsS RX12 65 yX12_in wsX12_in) := goodIn_app (goodIn_sub (List.forall_mem_cons.mpr ⟨List.mem_of_getElem? (i := 2) rfl, List.forall_mem_cons.mpr ⟨List.mem_of_getElem? (i := 3) rfl, List.forall_mem_cons.mpr ⟨List.mem_of_getElem? (i := 4) rfl, fun _ h => absurd h List.not_mem_nil⟩⟩⟩) (by decide +kernel)) ggX12_isNumber_X12_in
theorem dX12_isNumber_0 : decode cX12_isNumber 0 = .ok (.lload_n 0, 1) := by decide +kernel
theorem dX12_isNumber_1 : decode cX12_isNumber 1 = .ok (.lconst 1, 1) := by decide +kernel
theorem dX12_isNumber_2 : decode cX12_isNumber 2 = .ok (.ldc2_w 63, 3) := by decide +kernel
theorem dX12_isNumber_5 : decode cX12_isNumber 5 = .ok (.invokestatic 65, 3) := by decide +kernel
theorem dX12_isNumber_8 : decode cX12_isNumber 8 = .ok (.ireturn, 1) := by decide +kernel
set_option maxRecDepth 20000 in
theorem ggX12_sum_X12_in : GoodIn wsX12_sum wsX12_in := goodIn_r _ [6] rfl (by decide +kernel)
set_option maxRecDepth 20000 in
theorem gX12_sum_X12_in : GoodIn wsX12_sum (va_wsS RX12 65 yX12_in wsX12_in) := goodIn_app (goodIn_sub (List.forall_mem_cons.mpr ⟨List.mem_of_getElem? (i := 3) rfl, List.forall_mem_cons.mpr ⟨List.mem_of_getElem? (i := 4) rfl, List.forall_mem_cons.mpr ⟨List.mem_of_getElem? (i := 5) rfl, fun _ h => absurd h List.not_mem_nil⟩⟩⟩) (by decide +kernel)) ggX12_sum_X12_in
set_option maxRecDepth 20000 in
theorem ggX12_sum_X12_isNumber : GoodIn wsX12_sum wsX12_isNumber := goodIn_r _ [9, 10, 3, 4, 5, 6] rfl (by decide +kernel)
set_option maxRecDepth 20000 in
theorem gX12_sum_X12_isNumber : GoodIn wsX12_sum (va_wsS RX12 71 yX12_isNumber wsX12_isNumber) := goodIn_app (goodIn_sub (List.forall_mem_cons.mpr ⟨List.mem_of_getElem? (i := 7) rfl, List.forall_mem_cons.mpr ⟨List.mem_of_getElem? (i := 8) rfl, List.forall_mem_cons.mpr ⟨List.mem_of_getElem? (i := 5) rfl, fun _ h => absurd h List.not_mem_nil⟩⟩⟩) (by decide +kernel)) ggX12_sum_X12_isNumber
set_option maxRecDepth 20000 in
theorem ggX12_sum_X12_sumOf : GoodIn wsX12_sum wsX12_sumOf := goodIn_r _ [14, 15, 16, 17, 5, 18, 19, 20, 21, 22, 23, 24, 25, 26, 27, 28, 29, 30, 31, 32, 33, 34, 35, 36, 37, 38, 39, 40, 41, 42, 43, 44, 45, 46] rfl (by decide +kernel)
set_option maxRecDepth 20000 in
theorem gX12_sum_X12_sumOf : GoodIn wsX12_sum (wsV RX12 75 RX12 yX12_sumOf wsX12_sumOf) := goodIn_app (goodIn_sub (List.forall_mem_cons.mpr ⟨List.mem_of_getElem? (i := 11) rfl, List.forall_mem_cons.mpr ⟨List.mem_of_getElem? (i := 12) rfl, List.forall_mem_cons.mpr ⟨List.mem_of_getElem? (i := 13) rfl, List.forall_mem_cons.mpr ⟨List.mem_of_getElem? (i := 5) rfl, fun _ h => absurd h List.not_mem_nil⟩⟩⟩⟩) (by decide +kernel)) ggX12_sum_X12_sumOf
theorem dX12_sum_0 : decode cX12_sum 0 = .ok (.iload_n 1, 1) := by decide +kernel
theorem dX12_sum_1 : decode cX12_sum 1 = .ok (.i2l, 1) := by decide +kernel
theorem dX12_sum_2 : decode cX12_sum 2 = .ok (.lconst 0, 1) := by decide +kernel
theorem dX12_sum_3 : decode cX12_sum 3 = .ok (.ldc2_w 69, 3) := by decide +kernel
theorem dX12_sum_6 : decode cX12_sum 6 = .ok (.invokestatic 65, 3) := by decide +kernel
theorem dX12_sum_9 : decode cX12_sum 9 = .ok (.ifCond .eq 19, 3) := by decide +kernel
theorem dX12_sum_12 : decode cX12_sum 12 = .ok (.lload_n 2, 1) := by decide +kernel
theorem dX12_sum_13 : decode cX12_sum 13 = .ok (.invokestatic 71, 3) := by decide +kernel
theorem dX12_sum_16 : decode cX12_sum 16 = .ok (.ifCond .eq 12, 3) := by decide +kernel
theorem dX12_sum_19 : decode cX12_sum 19 = .ok (.aload_n 0, 1) := by decide +kernel
theorem dX12_sum_20 : decode cX12_sum 20 = .ok (.iload_n 1, 1) := by decide +kernel
theorem dX12_sum_21 : decode cX12_sum 21 = .ok (.lload_n 2, 1) := by decide +kernel
theorem dX12_sum_22 : decode cX12_sum 22 = .ok (.invokevirtual 75, 3) := by decide +kernel
theorem dX12_sum_25 : decode cX12_sum 25 = .ok (.goto 6, 3) := by decide +kernel
theorem dX12_sum_28 : decode cX12_sum 28 = .ok (.ldc2_w 79, 3) := by decide +kernel
theorem dX12_sum_31 : decode cX12_sum 31 = .ok (.lreturn, 1) := by decide +kernel
set_option maxRecDepth 20000 in
theorem ggX12_part_X12_isNumber : GoodIn wsX12_part wsX12_isNumber := goodIn_r _ [6, 7, 8, 9, 5, 10] rfl (by decide +kernel)
set_option maxRecDepth 20000 in
theorem gX12_part_X12_isNumber : GoodIn wsX12_part (va_wsS RX12 71 yX12_isNumber wsX12_isNumber) := goodIn_app (goodIn_sub (List.forall_mem_cons.mpr ⟨List.mem_of_getElem? (i := 3) rfl, List.forall_mem_cons.mpr ⟨List.mem_of_getElem? (i := 4) rfl, List.forall_mem_cons.mpr ⟨List.mem_of_getElem? (i := 5) rfl, fun _ h => absurd h List.not_mem_nil⟩⟩⟩) (by decide +kernel)) ggX12_part_X12_isNumber
set_option maxRecDepth 20000 in
theorem ggX12_part_X12_root : GoodIn wsX12_part wsX12_root := goodIn_r _ [13, 14, 15] rfl (by decide +kernel)
set_option maxRecDepth 20000 in
theorem gX12_part_X12_root : GoodIn wsX12_part (va_wsS RX12 81 yX12_root wsX12_root) := goodIn_app (goodIn_sub (List.forall_mem_cons.mpr ⟨List.mem_of_getElem? (i := 11) rfl, List.forall_mem_cons.mpr ⟨List.mem_of_getElem? (i := 12) rfl, List.forall_mem_cons.mpr ⟨List.mem_of_getElem? (i := 5) rfl, fun _ h => absurd h List.not_mem_nil⟩⟩⟩) (by decide +kernel)) ggX12_part_X12_root
theorem dX12_part_0 : decode cX12_part 0 = .ok (.lload_n 1, 1) := by decide +kernel
theorem dX12_part_1 : decode cX12_part 1 = .ok (.invokestatic 71, 3) := by decide +kernel
theorem dX12_part_4 : decode cX12_part 4 = .ok (.ifCond .eq 8, 3) := by decide +kernel
theorem dX12_part_7 : decode cX12_part 7 = .ok (.iload_n 3, 1) := by decide +kernel
theorem dX12_part_8 : decode cX12_part 8 = .ok (.iconst (-1), 1) := by decide +kernel
theorem dX12_part_9 : decode cX12_part 9 = .ok (.if_icmp .ge 7, 3) := by decide +kernel
theorem dX12_part_12 : decode cX12_part 12 = .ok (.ldc2_w 79, 3) := by decide +kernel
theorem dX12_part_15 : decode cX12_part 15 = .ok (.lreturn, 1) := by decide +kernel
theorem dX12_part_16 : decode cX12_part 16 = .ok (.iconst 0, 1) := by decide +kernel
theorem dX12_part_17 : decode cX12_part 17 = .ok (.istore 4, 2) := by decide +kernel
theorem dX12_part_19 : decode cX12_part 19 = .ok (.lconst 1, 1) := by decide +kernel
theorem dX12_part_20 : decode cX12_part 20 = .ok (.lstore 5, 2) := by decide +kernel
theorem dX12_part_22 : decode cX12_part 22 = .ok (.lload 5, 2) := by decide +kernel
theorem dX12_part_24 : decode cX12_part 24 = .ok (.lload 5, 2) := by decide +kernel
theorem dX12_part_26 : decode cX12_part 26 = .ok (.lmul, 1) := by decide +kernel
theorem dX12_part_27 : decode cX12_part 27 = .ok (.lload_n 1, 1) := by decide +kernel
theorem dX12_part_28 : decode cX12_part 28 = .ok (.lcmp, 1) := by decide +kernel
theorem dX12_part_29 : decode cX12_part 29 = .ok (.ifCond .gt 33, 3) := by decide +kernel
theorem dX12_part_32 : decode cX12_part 32 = .ok (.lload_n 1, 1) := by decide +kernel
theorem dX12_part_33 : decode cX12_part 33 = .ok (.lload 5, 2) := by decide +kernel
theorem dX12_part_35 : decode cX12_part 35 = .ok (.lrem, 1) := by decide +kernel
theorem dX12_part_36 : decode cX12_part 36 = .ok (.lconst 0, 1) := by decide +kernel
theorem dX12_part_37 : decode cX12_part 37 = .ok (.lcmp, 1) := by decide +kernel
theorem dX12_part_38 : decode cX12_part 38 = .ok (.ifCond .ne 15, 3) := by decide +kernel
theorem dX12_part_41 : decode cX12_part 41 = .ok (.iload 4, 2) := by decide +kernel
theorem dX12_part_43 : decode cX12_part 43 = .ok (.iload_n 3, 1) := by decide +kernel
theorem dX12_part_44 : decode cX12_part 44 = .ok (.if_icmp .ne 6, 3) := by decide +kernel
theorem dX12_part_47 : decode cX12_part 47 = .ok (.lload 5, 2) := by decide +kernel
theorem dX12_part_49 : decode cX12_part 49 = .ok (.lreturn, 1) := by decide +kernel
theorem dX12_part_50 : decode cX12_part 50 = .ok (.iinc 4 1, 3) := by decide +kernel
theorem dX12_part_53 : decode cX12_part 53 = .ok (.lload 5, 2) := by decide +kernel
theorem dX12_part_55 : decode cX12_part 55 = .ok (.lconst 1, 1) := by decide +kernel
theorem dX12_part_56 : decode cX12_part 56 = .ok (.ladd, 1) := by decide +kernel
theorem dX12_part_57 : decode cX12_part 57 = .ok (.lstore 5, 2) := by decide +kernel
theorem dX12_part_59 : decode cX12_part 59 = .ok (.goto (-37), 3) := by decide +kernel
theorem dX12_part_62 : decode cX12_part 62 = .ok (.lload_n 1, 1) := by decide +kernel
theorem dX12_part_63 : decode cX12_part 63 = .ok (.invokestatic 81, 3) := by decide +kernel
theorem dX12_part_66 : decode cX12_part 66 = .ok (.lstore 5, 2) := by decide +kernel
theorem dX12_part_68 : decode cX12_part 68 = .ok (.lload 5, 2) := by decide +kernel
theorem dX12_part_70 : decode cX12_part 70 = .ok (.lconst 0, 1) := by decide +kernel
theorem dX12_part_71 : decode cX12_part 71 = .ok (.lcmp, 1) := by decide +kernel
theorem dX12_part_72 : decode cX12_part 72 = .ok (.ifCond .le 45, 3) := by decide +kernel
theorem dX12_part_75 : decode cX12_part 75 = .ok (.lload_n 1, 1) := by decide +kernel
theorem dX12_part_76 : decode cX12_part 76 = .ok (.lload 5, 2) := by decide +kernel
theorem dX12_part_78 : decode cX12_part 78 = .ok (.lrem, 1) := by decide +kernel
theorem dX12_part_79 : decode cX12_part 79 = .ok (.lconst 0, 1) := by decide +kernel
theorem dX12_part_80 : decode cX12_part 80 = .ok (.lcmp, 1) := by decide +kernel
theorem dX12_part_81 : decode cX12_part 81 = .ok (.ifCond .ne 27, 3) := by decide +kernel
theorem dX12_part_84 : decode cX12_part 84 = .ok (.lload 5, 2) := by decide +kernel
theorem dX12_part_86 : decode cX12_part 86 = .ok (.lload 5, 2) := by decide +kernel
theorem dX12_part_88 : decode cX12_part 88 = .ok (.lmul, 1) := by decide +kernel
theorem dX12_part_89 : decode cX12_part 89 = .ok (.lload_n 1, 1) := by decide +kernel
theorem dX12_part_90 : decode cX12_part 90 = .ok (.lcmp, 1) := by decide +kernel
theorem dX12_part_91 : decode cX12_part 91 = .ok (.ifCond .eq 17, 3) := by decide +kernel
theorem dX12_part_94 : decode cX12_part 94 = .ok (.iload 4, 2) := by decide +kernel
theorem dX12_part_96 : decode cX12_part 96 = .ok (.iload_n 3, 1) := by decide +kernel
theorem dX12_part_97 : decode cX12_part 97 = .ok (.if_icmp .ne 8, 3) := by decide +kernel
theorem dX12_part_100 : decode cX12_part 100 = .ok (.lload_n 1, 1) := by decide +kernel
theorem dX12_part_101 : decode cX12_part 101 = .ok (.lload 5, 2) := by decide +kernel
theorem dX12_part_103 : decode cX12_part 103 = .ok (.ldiv, 1) := by decide +kernel
theorem dX12_part_104 : decode cX12_part 104 = .ok (.lreturn, 1) := by decide +kernel
theorem dX12_part_105 : decode cX12_part 105 = .ok (.iinc 4 1, 3) := by decide +kernel
theorem dX12_part_108 : decode cX12_part 108 = .ok (.lload 5, 2) := by decide +kernel
theorem dX12_part_110 : decode cX12_part 110 = .ok (.lconst 1, 1) := by decide +kernel
theorem dX12_part_111 : decode cX12_part 111 = .ok (.lsub, 1) := by decide +kernel
theorem dX12_part_112 : decode cX12_part 112 = .ok (.lstore 5, 2) := by decide +kernel
theorem dX12_part_114 : decode cX12_part 114 = .ok (.goto (-46), 3) := by decide +kernel
theorem dX12_part_117 : decode cX12_part 117 = .ok (.iload_n 3, 1) := by decide +kernel
theorem dX12_part_118 : decode cX12_part 118 = .ok (.ifCond .ge 9, 3) := by decide +kernel
theorem dX12_part_121 : decode cX12_part 121 = .ok (.iload 4, 2) := by decide +kernel
theorem dX12_part_123 : decode cX12_part 123 = .ok (.i2l, 1) := by decide +kernel
theorem dX12_part_124 : decode cX12_part 124 = .ok (.goto 6, 3) := by decide +kernel
theorem dX12_part_127 : decode cX12_part 127 = .ok (.ldc2_w 85, 3) := by decide +kernel
theorem dX12_part_130 : decode cX12_part 130 = .ok (.lreturn, 1) := by decide +kernel
theorem dX12_root_0 : decode cX12_root 0 = .ok (.lconst 0, 1) := by decide +kernel
theorem dX12_root_1 : decode cX12_root 1 = .ok (.lstore_n 2, 1) := by decide +kernel
theorem dX12_root_2 : decode cX12_root 2 = .ok (.ldc2_w 87, 3) := by decide +kernel
theorem dX12_root_5 : decode cX12_root 5 = .ok (.lstore 4, 2) := by decide +kernel
theorem dX12_root_7 : decode cX12_root 7 = .ok (.lload_n 2, 1) := by decide +kernel
theorem dX12_root_8 : decode cX12_root 8 = .ok (.lload 4, 2) := by decide +kernel
theorem dX12_root_10 : decode cX12_root 10 = .ok (.lcmp, 1) := by decide +kernel
theorem dX12_root_11 : decode cX12_root 11 = .ok (.ifCond .ge 40, 3) := by decide +kernel
theorem dX12_root_14 : decode cX12_root 14 = .ok (.lload_n 2, 1) := by decide +kernel
theorem dX12_root_15 : decode cX12_root 15 = .ok (.lload 4, 2) := by decide +kernel
theorem dX12_root_17 : decode cX12_root 17 = .ok (.ladd, 1) := by decide +kernel
theorem dX12_root_18 : decode cX12_root 18 = .ok (.lconst 1, 1) := by decide +kernel
theorem dX12_root_19 : decode cX12_root 19 = .ok (.ladd, 1) := by decide +kernel
theorem dX12_root_20 : decode cX12_root 20 = .ok (.ldc2_w 53, 3) := by decide +kernel
theorem dX12_root_23 : decode cX12_root 23 = .ok (.ldiv, 1) := by decide +kernel
theorem dX12_root_24 : decode cX12_root 24 = .ok (.lstore 6, 2) := by decide +kernel
theorem dX12_root_26 : decode cX12_root 26 = .ok (.lload 6, 2) := by decide +kernel
theorem dX12_root_28 : decode cX12_root 28 = .ok (.lload 6, 2) := by decide +kernel
theorem dX12_root_30 : decode cX12_root 30 = .ok (.lmul, 1) := by decide +kernel
theorem dX12_root_31 : decode cX12_root 31 = .ok (.lload_n 0, 1) := by decide +kernel
theorem dX12_root_32 : decode cX12_root 32 = .ok (.lcmp, 1) := by decide +kernel
theorem dX12_root_33 : decode cX12_root 33 = .ok (.ifCond .gt 9, 3) := by decide +kernel
theorem dX12_root_36 : decode cX12_root 36 = .ok (.lload 6, 2) := by decide +kernel
theorem dX12_root_38 : decode cX12_root 38 = .ok (.lstore_n 2, 1) := by decide +kernel
theorem dX12_root_39 : decode cX12_root 39 = .ok (.goto 9, 3) := by decide +kernel
theorem dX12_root_42 : decode cX12_root 42 = .ok (.lload 6, 2) := by decide +kernel
theorem dX12_root_44 : decode cX12_root 44 = .ok (.lconst 1, 1) := by decide +kernel
theorem dX12_root_45 : decode cX12_root 45 = .ok (.lsub, 1) := by decide +kernel
theorem dX12_root_46 : decode cX12_root 46 = .ok (.lstore 4, 2) := by decide +kernel
theorem dX12_root_48 : decode cX12_root 48 = .ok (.goto (-41), 3) := by decide +kernel
theorem dX12_root_51 : decode cX12_root 51 = .ok (.lload_n 2, 1) := by decide +kernel
theorem dX12_root_52 : decode cX12_root 52 = .ok (.lreturn, 1) := by decide +kernel
set_option maxRecDepth 20000 in
theorem ggX12_prime_X12_isNumber : GoodIn wsX12_prime wsX12_isNumber := goodIn_r _ [8, 9, 10, 11, 7, 12] rfl (by decide +kernel)
set_option maxRecDepth 20000 in
theorem gX12_prime_X12_isNumber : GoodIn wsX12_prime (va_wsS RX12 71 yX12_isNumber wsX12_isNumber) := goodIn_app (goodIn_sub (List.forall_mem_cons.mpr ⟨List.mem_of_getElem? (i := 5) rfl, List.forall_mem_cons.mpr ⟨List.mem_of_getElem? (i := 6) rfl, List.forall_mem_cons.mpr ⟨List.mem_of_getElem? (i := 7) rfl, fun _ h => absurd h List.not_mem_nil⟩⟩⟩) (by decide +kernel)) ggX12_prime_X12_isNumber
set_option maxRecDepth 20000 in
theorem ggX12_prime_X12_layPrimes : GoodIn wsX12_prime wsX12_layPrimes := goodIn_r _ [16, 2, 17, 3, 18, 19, 20, 21, 22, 23, 24, 25, 26, 27, 28, 29, 30, 31, 32, 33, 34, 35, 36, 37, 38] rfl (by decide +kernel)
set_option maxRecDepth 20000 in
theorem gX12_prime_X12_layPrimes : GoodIn wsX12_prime (wsV RX12 55 RX12 yX12_layPrimes wsX12_layPrimes) := goodIn_app (goodIn_sub (List.forall_mem_cons.mpr ⟨List.mem_of_getElem? (i := 13) rfl, List.forall_mem_cons.mpr ⟨List.mem_of_getElem? (i := 14) rfl, List.forall_mem_cons.mpr ⟨List.mem_of_getElem? (i := 15) rfl, List.forall_mem_cons.mpr ⟨List.mem_of_getElem? (i := 7) rfl, fun _ h => absurd h List.not_mem_nil⟩⟩⟩⟩) (by decide +kernel)) ggX12_prime_X12_layPrimes
theorem dX12_prime_0 : decode cX12_prime 0 = .ok (.lload_n 1, 1) := by decide +kernel
theorem dX12_prime_1 : decode cX12_prime 1 = .ok (.invokestatic 71, 3) := by decide +kernel
theorem dX12_prime_4 : decode cX12_prime 4 = .ok (.ifCond .eq 8, 3) := by decide +kernel
theorem dX12_prime_7 : decode cX12_prime 7 = .ok (.iload_n 3, 1) := by decide +kernel
theorem dX12_prime_8 : decode cX12_prime 8 = .ok (.iconst (-1), 1) := by decide +kernel
theorem dX12_prime_9 : decode cX12_prime 9 = .ok (.if_icmp .ge 7, 3) := by decide +kernel
theorem dX12_prime_12 : decode cX12_prime 12 = .ok (.ldc2_w 79, 3) := by decide +kernel
theorem dX12_prime_15 : decode cX12_prime 15 = .ok (.lreturn, 1) := by decide +kernel
theorem dX12_prime_16 : decode cX12_prime 16 = .ok (.aload_n 0, 1) := by decide +kernel
theorem dX12_prime_17 : decode cX12_prime 17 = .ok (.lload_n 1, 1) := by decide +kernel
theorem dX12_prime_18 : decode cX12_prime 18 = .ok (.invokevirtual 55, 3) := by decide +kernel
theorem dX12_prime_21 : decode cX12_prime 21 = .ok (.iload_n 3, 1) := by decide +kernel
theorem dX12_prime_22 : decode cX12_prime 22 = .ok (.ifCond .ge 11, 3) := by decide +kernel
theorem dX12_prime_25 : decode cX12_prime 25 = .ok (.aload_n 0, 1) := by decide +kernel
theorem dX12_prime_26 : decode cX12_prime 26 = .ok (.getfield 50, 3) := by decide +kernel
theorem dX12_prime_29 : decode cX12_prime 29 = .ok (.i2l, 1) := by decide +kernel
theorem dX12_prime_30 : decode cX12_prime 30 = .ok (.goto 23, 3) := by decide +kernel
theorem dX12_prime_33 : decode cX12_prime 33 = .ok (.iload_n 3, 1) := by decide +kernel
theorem dX12_prime_34 : decode cX12_prime 34 = .ok (.aload_n 0, 1) := by decide +kernel
theorem dX12_prime_35 : decode cX12_prime 35 = .ok (.getfield 50, 3) := by decide +kernel
theorem dX12_prime_38 : decode cX12_prime 38 = .ok (.if_icmp .ge 12, 3) := by decide +kernel
theorem dX12_prime_41 : decode cX12_prime 41 = .ok (.aload_n 0, 1) := by decide +kernel
theorem dX12_prime_42 : decode cX12_prime 42 = .ok (.getfield 13, 3) := by decide +kernel
theorem dX12_prime_45 : decode cX12_prime 45 = .ok (.iload_n 3, 1) := by decide +kernel
theorem dX12_prime_46 : decode cX12_prime 46 = .ok (.laload, 1) := by decide +kernel
theorem dX12_prime_47 : decode cX12_prime 47 = .ok (.goto 6, 3) := by decide +kernel
theorem dX12_prime_50 : decode cX12_prime 50 = .ok (.ldc2_w 85, 3) := by decide +kernel
theorem dX12_prime_53 : decode cX12_prime 53 = .ok (.lreturn, 1) := by decide +kernel
set_option maxRecDepth 20000 in
theorem ggX12_layChain_X12_sumOf : GoodIn wsX12_layChain wsX12_sumOf := goodIn_r _ [11, 12, 13, 14, 10, 15, 16, 17, 18, 19, 20, 21, 22, 23, 24, 25, 26, 27, 28, 29, 30, 31, 32, 33, 34, 35, 36, 37, 38, 39, 40, 41, 42, 43] rfl (by decide +kernel)
set_option maxRecDepth 20000 in
theorem gX12_layChain_X12_sumOf : GoodIn wsX12_layChain (wsV RX12 75 RX12 yX12_sumOf wsX12_sumOf) := goodIn_app (goodIn_sub (List.forall_mem_cons.mpr ⟨List.mem_of_getElem? (i := 7) rfl, List.forall_mem_cons.mpr ⟨List.mem_of_getElem? (i := 8) rfl, List.forall_mem_cons.mpr ⟨List.mem_of_getElem? (i := 9) rfl, List.forall_mem_cons.mpr ⟨List.mem_of_getElem? (i := 10) rfl, fun _ h => absurd h List.not_mem_nil⟩⟩⟩⟩) (by decide +kernel)) ggX12_layChain_X12_sumOf
theorem dX12_layChain_0 : decode cX12_layChain 0 = .ok (.aload_n 0, 1) := by decide +kernel
theorem dX12_layChain_1 : decode cX12_layChain 1 = .ok (.getfield 17, 3) := by decide +kernel
theorem dX12_layChain_4 : decode cX12_layChain 4 = .ok (.iconst 0, 1) := by decide +kernel
theorem dX12_layChain_5 : decode cX12_layChain 5 = .ok (.lload_n 2, 1) := by decide +kernel
theorem dX12_layChain_6 : decode cX12_layChain 6 = .ok (.lastore, 1) := by decide +kernel
theorem dX12_layChain_7 : decode cX12_layChain 7 = .ok (.aload_n 0, 1) := by decide +kernel
theorem dX12_layChain_8 : decode cX12_layChain 8 = .ok (.iconst 1, 1) := by decide +kernel
theorem dX12_layChain_9 : decode cX12_layChain 9 = .ok (.putfield 89, 3) := by decide +kernel
theorem dX12_layChain_12 : decode cX12_layChain 12 = .ok (.aload_n 0, 1) := by decide +kernel
theorem dX12_layChain_13 : decode cX12_layChain 13 = .ok (.bipush (-4), 2) := by decide +kernel
theorem dX12_layChain_15 : decode cX12_layChain 15 = .ok (.putfield 92, 3) := by decide +kernel
theorem dX12_layChain_18 : decode cX12_layChain 18 = .ok (.aload_n 0, 1) := by decide +kernel
theorem dX12_layChain_19 : decode cX12_layChain 19 = .ok (.iconst 0, 1) := by decide +kernel
theorem dX12_layChain_20 : decode cX12_layChain 20 = .ok (.putfield 95, 3) := by decide +kernel
theorem dX12_layChain_23 : decode cX12_layChain 23 = .ok (.aload_n 0, 1) := by decide +kernel
theorem dX12_layChain_24 : decode cX12_layChain 24 = .ok (.getfield 92, 3) := by decide +kernel
theorem dX12_layChain_27 : decode cX12_layChain 27 = .ok (.bipush (-4), 2) := by decide +kernel
theorem dX12_layChain_29 : decode cX12_layChain 29 = .ok (.if_icmp .ne 190, 3) := by decide +kernel
theorem dX12_layChain_32 : decode cX12_layChain 32 = .ok (.aload_n 0, 1) := by decide +kernel
theorem dX12_layChain_33 : decode cX12_layChain 33 = .ok (.getfield 89, 3) := by decide +kernel
theorem dX12_layChain_36 : decode cX12_layChain 36 = .ok (.sipush 201, 3) := by decide +kernel
theorem dX12_layChain_39 : decode cX12_layChain 39 = .ok (.if_icmp .ne 19, 3) := by decide +kernel
theorem dX12_layChain_42 : decode cX12_layChain 42 = .ok (.aload_n 0, 1) := by decide +kernel
theorem dX12_layChain_43 : decode cX12_layChain 43 = .ok (.iconst 2, 1) := by decide +kernel
theorem dX12_layChain_44 : decode cX12_layChain 44 = .ok (.putfield 92, 3) := by decide +kernel
theorem dX12_layChain_47 : decode cX12_layChain 47 = .ok (.aload_n 0, 1) := by decide +kernel
theorem dX12_layChain_48 : decode cX12_layChain 48 = .ok (.aload_n 0, 1) := by decide +kernel
theorem dX12_layChain_49 : decode cX12_layChain 49 = .ok (.getfield 89, 3) := by decide +kernel
theorem dX12_layChain_52 : decode cX12_layChain 52 = .ok (.putfield 98, 3) := by decide +kernel
theorem dX12_layChain_55 : decode cX12_layChain 55 = .ok (.goto (-32), 3) := by decide +kernel
theorem dX12_layChain_58 : decode cX12_layChain 58 = .ok (.aload_n 0, 1) := by decide +kernel
theorem dX12_layChain_59 : decode cX12_layChain 59 = .ok (.iload_n 1, 1) := by decide +kernel
theorem dX12_layChain_60 : decode cX12_layChain 60 = .ok (.aload_n 0, 1) := by decide +kernel
theorem dX12_layChain_61 : decode cX12_layChain 61 = .ok (.getfield 17, 3) := by decide +kernel
theorem dX12_layChain_64 : decode cX12_layChain 64 = .ok (.aload_n 0, 1) := by decide +kernel
theorem dX12_layChain_65 : decode cX12_layChain 65 = .ok (.getfield 89, 3) := by decide +kernel
theorem dX12_layChain_68 : decode cX12_layChain 68 = .ok (.iconst 1, 1) := by decide +kernel
theorem dX12_layChain_69 : decode cX12_layChain 69 = .ok (.isub, 1) := by decide +kernel
theorem dX12_layChain_70 : decode cX12_layChain 70 = .ok (.laload, 1) := by decide +kernel
theorem dX12_layChain_71 : decode cX12_layChain 71 = .ok (.invokevirtual 75, 3) := by decide +kernel
theorem dX12_layChain_74 : decode cX12_layChain 74 = .ok (.lstore 4, 2) := by decide +kernel
theorem dX12_layChain_76 : decode cX12_layChain 76 = .ok (.bipush (-4), 2) := by decide +kernel
theorem dX12_layChain_78 : decode cX12_layChain 78 = .ok (.istore 6, 2) := by decide +kernel
theorem dX12_layChain_80 : decode cX12_layChain 80 = .ok (.iconst 0, 1) := by decide +kernel
theorem dX12_layChain_81 : decode cX12_layChain 81 = .ok (.istore 7, 2) := by decide +kernel
theorem dX12_layChain_83 : decode cX12_layChain 83 = .ok (.iload 7, 2) := by decide +kernel
theorem dX12_layChain_85 : decode cX12_layChain 85 = .ok (.aload_n 0, 1) := by decide +kernel
theorem dX12_layChain_86 : decode cX12_layChain 86 = .ok (.getfield 89, 3) := by decide +kernel
theorem dX12_layChain_89 : decode cX12_layChain 89 = .ok (.if_icmp .ge 31, 3) := by decide +kernel
theorem dX12_layChain_92 : decode cX12_layChain 92 = .ok (.aload_n 0, 1) := by decide +kernel
theorem dX12_layChain_93 : decode cX12_layChain 93 = .ok (.getfield 17, 3) := by decide +kernel
theorem dX12_layChain_96 : decode cX12_layChain 96 = .ok (.iload 7, 2) := by decide +kernel
theorem dX12_layChain_98 : decode cX12_layChain 98 = .ok (.laload, 1) := by decide +kernel
theorem dX12_layChain_99 : decode cX12_layChain 99 = .ok (.lload 4, 2) := by decide +kernel
theorem dX12_layChain_101 : decode cX12_layChain 101 = .ok (.lcmp, 1) := by decide +kernel
theorem dX12_layChain_102 : decode cX12_layChain 102 = .ok (.ifCond .ne 8, 3) := by decide +kernel
theorem dX12_layChain_105 : decode cX12_layChain 105 = .ok (.iload 7, 2) := by decide +kernel
theorem dX12_layChain_107 : decode cX12_layChain 107 = .ok (.goto 5, 3) := by decide +kernel
theorem dX12_layChain_110 : decode cX12_layChain 110 = .ok (.iload 6, 2) := by decide +kernel
theorem dX12_layChain_112 : decode cX12_layChain 112 = .ok (.istore 6, 2) := by decide +kernel
theorem dX12_layChain_114 : decode cX12_layChain 114 = .ok (.iinc 7 1, 3) := by decide +kernel
theorem dX12_layChain_117 : decode cX12_layChain 117 = .ok (.goto (-34), 3) := by decide +kernel
theorem dX12_layChain_120 : decode cX12_layChain 120 = .ok (.lload 4, 2) := by decide +kernel
theorem dX12_layChain_122 : decode cX12_layChain 122 = .ok (.lconst 0, 1) := by decide +kernel
theorem dX12_layChain_123 : decode cX12_layChain 123 = .ok (.lcmp, 1) := by decide +kernel
theorem dX12_layChain_124 : decode cX12_layChain 124 = .ok (.ifCond .eq 12, 3) := by decide +kernel
theorem dX12_layChain_127 : decode cX12_layChain 127 = .ok (.lload 4, 2) := by decide +kernel
theorem dX12_layChain_129 : decode cX12_layChain 129 = .ok (.ldc2_w 63, 3) := by decide +kernel
theorem dX12_layChain_132 : decode cX12_layChain 132 = .ok (.lcmp, 1) := by decide +kernel
theorem dX12_layChain_133 : decode cX12_layChain 133 = .ok (.ifCond .le 30, 3) := by decide +kernel
theorem dX12_layChain_136 : decode cX12_layChain 136 = .ok (.aload_n 0, 1) := by decide +kernel
theorem dX12_layChain_137 : decode cX12_layChain 137 = .ok (.lload 4, 2) := by decide +kernel
theorem dX12_layChain_139 : decode cX12_layChain 139 = .ok (.lconst 0, 1) := by decide +kernel
theorem dX12_layChain_140 : decode cX12_layChain 140 = .ok (.lcmp, 1) := by decide +kernel
theorem dX12_layChain_141 : decode cX12_layChain 141 = .ok (.ifCond .ne 7, 3) := by decide +kernel
theorem dX12_layChain_144 : decode cX12_layChain 144 = .ok (.iconst 0, 1) := by decide +kernel
theorem dX12_layChain_145 : decode cX12_layChain 145 = .ok (.goto 4, 3) := by decide +kernel
theorem dX12_layChain_148 : decode cX12_layChain 148 = .ok (.iconst 2, 1) := by decide +kernel
theorem dX12_layChain_149 : decode cX12_layChain 149 = .ok (.putfield 92, 3) := by decide +kernel
theorem dX12_layChain_152 : decode cX12_layChain 152 = .ok (.aload_n 0, 1) := by decide +kernel
theorem dX12_layChain_153 : decode cX12_layChain 153 = .ok (.aload_n 0, 1) := by decide +kernel
theorem dX12_layChain_154 : decode cX12_layChain 154 = .ok (.getfield 89, 3) := by decide +kernel
theorem dX12_layChain_157 : decode cX12_layChain 157 = .ok (.putfield 98, 3) := by decide +kernel
theorem dX12_layChain_160 : decode cX12_layChain 160 = .ok (.goto 56, 3) := by decide +kernel
theorem dX12_layChain_163 : decode cX12_layChain 163 = .ok (.iload 6, 2) := by decide +kernel
theorem dX12_layChain_165 : decode cX12_layChain 165 = .ok (.bipush (-4), 2) := by decide +kernel
theorem dX12_layChain_167 : decode cX12_layChain 167 = .ok (.if_icmp .eq 28, 3) := by decide +kernel
theorem dX12_layChain_170 : decode cX12_layChain 170 = .ok (.aload_n 0, 1) := by decide +kernel
theorem dX12_layChain_171 : decode cX12_layChain 171 = .ok (.iconst 1, 1) := by decide +kernel
theorem dX12_layChain_172 : decode cX12_layChain 172 = .ok (.putfield 92, 3) := by decide +kernel
theorem dX12_layChain_175 : decode cX12_layChain 175 = .ok (.aload_n 0, 1) := by decide +kernel
theorem dX12_layChain_176 : decode cX12_layChain 176 = .ok (.iload 6, 2) := by decide +kernel
theorem dX12_layChain_178 : decode cX12_layChain 178 = .ok (.putfield 98, 3) := by decide +kernel
theorem dX12_layChain_181 : decode cX12_layChain 181 = .ok (.aload_n 0, 1) := by decide +kernel
theorem dX12_layChain_182 : decode cX12_layChain 182 = .ok (.aload_n 0, 1) := by decide +kernel
theorem dX12_layChain_183 : decode cX12_layChain 183 = .ok (.getfield 89, 3) := by decide +kernel
theorem dX12_layChain_186 : decode cX12_layChain 186 = .ok (.iload 6, 2) := by decide +kernel
theorem dX12_layChain_188 : decode cX12_layChain 188 = .ok (.isub, 1) := by decide +kernel
theorem dX12_layChain_189 : decode cX12_layChain 189 = .ok (.putfield 95, 3) := by decide +kernel
theorem dX12_layChain_192 : decode cX12_layChain 192 = .ok (.goto 24, 3) := by decide +kernel
theorem dX12_layChain_195 : decode cX12_layChain 195 = .ok (.aload_n 0, 1) := by decide +kernel
theorem dX12_layChain_196 : decode cX12_layChain 196 = .ok (.getfield 17, 3) := by decide +kernel
theorem dX12_layChain_199 : decode cX12_layChain 199 = .ok (.aload_n 0, 1) := by decide +kernel
theorem dX12_layChain_200 : decode cX12_layChain 200 = .ok (.getfield 89, 3) := by decide +kernel
theorem dX12_layChain_203 : decode cX12_layChain 203 = .ok (.lload 4, 2) := by decide +kernel
theorem dX12_layChain_205 : decode cX12_layChain 205 = .ok (.lastore, 1) := by decide +kernel
theorem dX12_layChain_206 : decode cX12_layChain 206 = .ok (.aload_n 0, 1) := by decide +kernel
theorem dX12_layChain_207 : decode cX12_layChain 207 = .ok (.dup, 1) := by decide +kernel
theorem dX12_layChain_208 : decode cX12_layChain 208 = .ok (.getfield 89, 3) := by decide +kernel
theorem dX12_layChain_211 : decode cX12_layChain 211 = .ok (.iconst 1, 1) := by decide +kernel
theorem dX12_layChain_212 : decode cX12_layChain 212 = .ok (.iadd, 1) := by decide +kernel
theorem dX12_layChain_213 : decode cX12_layChain 213 = .ok (.putfield 89, 3) := by decide +kernel
theorem dX12_layChain_216 : decode cX12_layChain 216 = .ok (.goto (-193), 3) := by decide +kernel
theorem dX12_layChain_219 : decode cX12_layChain 219 = .ok (.return_, 1) := by decide +kernel
set_option maxRecDepth 20000 in
theorem ggX12_chain_X12_in : GoodIn wsX12_chain wsX12_in := goodIn_r _ [11] rfl (by decide +kernel)
set_option maxRecDepth 20000 in
theorem gX12_chain_X12_in : GoodIn wsX12_chain (va_wsS RX12 65 yX12_in wsX12_in) := goodIn_app (goodIn_sub (List.forall_mem_cons.mpr ⟨List.mem_of_getElem? (i := 8) rfl, List.forall_mem_cons.mpr ⟨List.mem_of_getElem? (i := 9) rfl, List.forall_mem_cons.mpr ⟨List.mem_of_getElem? (i := 10) rfl, fun _ h => absurd h List.not_mem_nil⟩⟩⟩) (by decide +kernel)) ggX12_chain_X12_in
set_option maxRecDepth 20000 in
theorem ggX12_chain_X12_isNumber : GoodIn wsX12_chain wsX12_isNumber := goodIn_r _ [14, 15, 8, 9, 10, 11] rfl (by decide +kernel)
set_option maxRecDepth 20000 in
theorem gX12_chain_X12_isNumber : GoodIn wsX12_chain (va_wsS RX12 71 yX12_isNumber wsX12_isNumber) := goodIn_app (goodIn_sub (List.forall_mem_cons.mpr ⟨List.mem_of_getElem? (i := 12) rfl, List.forall_mem_cons.mpr ⟨List.mem_of_getElem? (i := 13) rfl, List.forall_mem_cons.mpr ⟨List.mem_of_getElem? (i := 10) rfl, fun _ h => absurd h List.not_mem_nil⟩⟩⟩) (by decide +kernel)) ggX12_chain_X12_isNumber
set_option maxRecDepth 20000 in
theorem ggX12_chain_X12_layChain : GoodIn wsX12_chain wsX12_layChain := goodIn_r _ [19, 7, 6, 3, 5, 4, 15, 20, 21, 22, 10, 23, 24, 25, 26, 27, 28, 29, 30, 31, 32, 33, 34, 35, 36, 37, 38, 39, 40, 41, 42, 43, 44, 45, 46, 47, 48, 49, 50, 51, 52, 53, 54, 55] rfl (by decide +kernel)
set_option maxRecDepth 20000 in
theorem gX12_chain_X12_layChain : GoodIn wsX12_chain (wsV RX12 101 RX12 yX12_layChain wsX12_layChain) := goodIn_app (goodIn_sub (List.forall_mem_cons.mpr ⟨List.mem_of_getElem? (i := 16) rfl, List.forall_mem_cons.mpr ⟨List.mem_of_getElem? (i := 17) rfl, List.forall_mem_cons.mpr ⟨List.mem_of_getElem? (i := 18) rfl, List.forall_mem_cons.mpr ⟨List.mem_of_getElem? (i := 10) rfl, fun _ h => absurd h List.not_mem_nil⟩⟩⟩⟩) (by decide +kernel)) ggX12_chain_X12_layChain
theorem dX12_chain_0 : decode cX12_chain 0 = .ok (.iload_n 1, 1) := by decide +kernel
theorem dX12_chain_1 : decode cX12_chain 1 = .ok (.i2l, 1) := by decide +kernel
theorem dX12_chain_2 : decode cX12_chain 2 = .ok (.lconst 1, 1) := by decide +kernel
theorem dX12_chain_3 : decode cX12_chain 3 = .ok (.ldc2_w 69, 3) := by decide +kernel
theorem dX12_chain_6 : decode cX12_chain 6 = .ok (.invokestatic 65, 3) := by decide +kernel
theorem dX12_chain_9 : decode cX12_chain 9 = .ok (.ifCond .eq 23, 3) := by decide +kernel
theorem dX12_chain_12 : decode cX12_chain 12 = .ok (.lload_n 2, 1) := by decide +kernel
theorem dX12_chain_13 : decode cX12_chain 13 = .ok (.invokestatic 71, 3) := by decide +kernel
theorem dX12_chain_16 : decode cX12_chain 16 = .ok (.ifCond .eq 16, 3) := by decide +kernel
theorem dX12_chain_19 : decode cX12_chain 19 = .ok (.iload 4, 2) := by decide +kernel
theorem dX12_chain_21 : decode cX12_chain 21 = .ok (.i2l, 1) := by decide +kernel
theorem dX12_chain_22 : decode cX12_chain 22 = .ok (.lconst 0, 1) := by decide +kernel
theorem dX12_chain_23 : decode cX12_chain 23 = .ok (.ldc2_w 69, 3) := by decide +kernel
theorem dX12_chain_26 : decode cX12_chain 26 = .ok (.invokestatic 65, 3) := by decide +kernel
theorem dX12_chain_29 : decode cX12_chain 29 = .ok (.ifCond .ne 7, 3) := by decide +kernel
theorem dX12_chain_32 : decode cX12_chain 32 = .ok (.ldc2_w 79, 3) := by decide +kernel
theorem dX12_chain_35 : decode cX12_chain 35 = .ok (.lreturn, 1) := by decide +kernel
theorem dX12_chain_36 : decode cX12_chain 36 = .ok (.aload_n 0, 1) := by decide +kernel
theorem dX12_chain_37 : decode cX12_chain 37 = .ok (.iload_n 1, 1) := by decide +kernel
theorem dX12_chain_38 : decode cX12_chain 38 = .ok (.lload_n 2, 1) := by decide +kernel
theorem dX12_chain_39 : decode cX12_chain 39 = .ok (.invokevirtual 101, 3) := by decide +kernel
theorem dX12_chain_42 : decode cX12_chain 42 = .ok (.iload 4, 2) := by decide +kernel
theorem dX12_chain_44 : decode cX12_chain 44 = .ok (.iconst 3, 1) := by decide +kernel
theorem dX12_chain_45 : decode cX12_chain 45 = .ok (.if_icmp .ge 36, 3) := by decide +kernel
theorem dX12_chain_48 : decode cX12_chain 48 = .ok (.iload 4, 2) := by decide +kernel
theorem dX12_chain_50 : decode cX12_chain 50 = .ok (.ifCond .ne 11, 3) := by decide +kernel
theorem dX12_chain_53 : decode cX12_chain 53 = .ok (.aload_n 0, 1) := by decide +kernel
theorem dX12_chain_54 : decode cX12_chain 54 = .ok (.getfield 92, 3) := by decide +kernel
theorem dX12_chain_57 : decode cX12_chain 57 = .ok (.i2l, 1) := by decide +kernel
theorem dX12_chain_58 : decode cX12_chain 58 = .ok (.goto 22, 3) := by decide +kernel
theorem dX12_chain_61 : decode cX12_chain 61 = .ok (.iload 4, 2) := by decide +kernel
theorem dX12_chain_63 : decode cX12_chain 63 = .ok (.iconst 1, 1) := by decide +kernel
theorem dX12_chain_64 : decode cX12_chain 64 = .ok (.if_icmp .ne 11, 3) := by decide +kernel
theorem dX12_chain_67 : decode cX12_chain 67 = .ok (.aload_n 0, 1) := by decide +kernel
theorem dX12_chain_68 : decode cX12_chain 68 = .ok (.getfield 98, 3) := by decide +kernel
theorem dX12_chain_71 : decode cX12_chain 71 = .ok (.i2l, 1) := by decide +kernel
theorem dX12_chain_72 : decode cX12_chain 72 = .ok (.goto 8, 3) := by decide +kernel
theorem dX12_chain_75 : decode cX12_chain 75 = .ok (.aload_n 0, 1) := by decide +kernel
theorem dX12_chain_76 : decode cX12_chain 76 = .ok (.getfield 95, 3) := by decide +kernel
theorem dX12_chain_79 : decode cX12_chain 79 = .ok (.i2l, 1) := by decide +kernel
theorem dX12_chain_80 : decode cX12_chain 80 = .ok (.lreturn, 1) := by decide +kernel
theorem dX12_chain_81 : decode cX12_chain 81 = .ok (.lconst 0, 1) := by decide +kernel
theorem dX12_chain_82 : decode cX12_chain 82 = .ok (.lstore 5, 2) := by decide +kernel
theorem dX12_chain_84 : decode cX12_chain 84 = .ok (.iconst 0, 1) := by decide +kernel
theorem dX12_chain_85 : decode cX12_chain 85 = .ok (.istore 7, 2) := by decide +kernel
theorem dX12_chain_87 : decode cX12_chain 87 = .ok (.iload 7, 2) := by decide +kernel
theorem dX12_chain_89 : decode cX12_chain 89 = .ok (.aload_n 0, 1) := by decide +kernel
theorem dX12_chain_90 : decode cX12_chain 90 = .ok (.getfield 89, 3) := by decide +kernel
theorem dX12_chain_93 : decode cX12_chain 93 = .ok (.if_icmp .ge 36, 3) := by decide +kernel
theorem dX12_chain_96 : decode cX12_chain 96 = .ok (.aload_n 0, 1) := by decide +kernel
theorem dX12_chain_97 : decode cX12_chain 97 = .ok (.getfield 17, 3) := by decide +kernel
theorem dX12_chain_100 : decode cX12_chain 100 = .ok (.iload 7, 2) := by decide +kernel
theorem dX12_chain_102 : decode cX12_chain 102 = .ok (.laload, 1) := by decide +kernel
theorem dX12_chain_103 : decode cX12_chain 103 = .ok (.lload 5, 2) := by decide +kernel
theorem dX12_chain_105 : decode cX12_chain 105 = .ok (.lcmp, 1) := by decide +kernel
theorem dX12_chain_106 : decode cX12_chain 106 = .ok (.ifCond .le 13, 3) := by decide +kernel
theorem dX12_chain_109 : decode cX12_chain 109 = .ok (.aload_n 0, 1) := by decide +kernel
theorem dX12_chain_110 : decode cX12_chain 110 = .ok (.getfield 17, 3) := by decide +kernel
theorem dX12_chain_113 : decode cX12_chain 113 = .ok (.iload 7, 2) := by decide +kernel
theorem dX12_chain_115 : decode cX12_chain 115 = .ok (.laload, 1) := by decide +kernel
theorem dX12_chain_116 : decode cX12_chain 116 = .ok (.goto 5, 3) := by decide +kernel
theorem dX12_chain_119 : decode cX12_chain 119 = .ok (.lload 5, 2) := by decide +kernel
theorem dX12_chain_121 : decode cX12_chain 121 = .ok (.lstore 5, 2) := by decide +kernel
theorem dX12_chain_123 : decode cX12_chain 123 = .ok (.iinc 7 1, 3) := by decide +kernel
theorem dX12_chain_126 : decode cX12_chain 126 = .ok (.goto (-39), 3) := by decide +kernel
theorem dX12_chain_129 : decode cX12_chain 129 = .ok (.lload 5, 2) := by decide +kernel
theorem dX12_chain_131 : decode cX12_chain 131 = .ok (.lreturn, 1) := by decide +kernel
set_option maxRecDepth 20000 in
theorem ggX12_step_X12_in : GoodIn wsX12_step wsX12_in := goodIn_r _ [12] rfl (by decide +kernel)
set_option maxRecDepth 20000 in
theorem gX12_step_X12_in : GoodIn wsX12_step (va_wsS RX12 65 yX12_in wsX12_in) := goodIn_app (goodIn_sub (List.forall_mem_cons.mpr ⟨List.mem_of_getElem? (i := 9) rfl, List.forall_mem_cons.mpr ⟨List.mem_of_getElem? (i := 10) rfl, List.forall_mem_cons.mpr ⟨List.mem_of_getElem? (i := 11) rfl, fun _ h => absurd h List.not_mem_nil⟩⟩⟩) (by decide +kernel)) ggX12_step_X12_in
set_option maxRecDepth 20000 in
theorem ggX12_step_X12_isNumber : GoodIn wsX12_step wsX12_isNumber := goodIn_r _ [15, 16, 9, 10, 11, 12] rfl (by decide +kernel)
set_option maxRecDepth 20000 in
theorem gX12_step_X12_isNumber : GoodIn wsX12_step (va_wsS RX12 71 yX12_isNumber wsX12_isNumber) := goodIn_app (goodIn_sub (List.forall_mem_cons.mpr ⟨List.mem_of_getElem? (i := 13) rfl, List.forall_mem_cons.mpr ⟨List.mem_of_getElem? (i := 14) rfl, List.forall_mem_cons.mpr ⟨List.mem_of_getElem? (i := 11) rfl, fun _ h => absurd h List.not_mem_nil⟩⟩⟩) (by decide +kernel)) ggX12_step_X12_isNumber
set_option maxRecDepth 20000 in
theorem ggX12_step_X12_layChain : GoodIn wsX12_step wsX12_layChain := goodIn_r _ [20, 4, 3, 5, 7, 6, 16, 21, 22, 23, 11, 24, 25, 26, 27, 28, 29, 30, 31, 32, 33, 34, 35, 36, 37, 38, 39, 40, 41, 42, 43, 44, 45, 46, 47, 48, 49, 50, 51, 52, 53, 54, 55, 56] rfl (by decide +kernel)
set_option maxRecDepth 20000 in
theorem gX12_step_X12_layChain : GoodIn wsX12_step (wsV RX12 101 RX12 yX12_layChain wsX12_layChain) := goodIn_app (goodIn_sub (List.forall_mem_cons.mpr ⟨List.mem_of_getElem? (i := 17) rfl, List.forall_mem_cons.mpr ⟨List.mem_of_getElem? (i := 18) rfl, List.forall_mem_cons.mpr ⟨List.mem_of_getElem? (i := 19) rfl, List.forall_mem_cons.mpr ⟨List.mem_of_getElem? (i := 11) rfl, fun _ h => absurd h List.not_mem_nil⟩⟩⟩⟩) (by decide +kernel)) ggX12_step_X12_layChain
theorem dX12_step_0 : decode cX12_step 0 = .ok (.iload_n 1, 1) := by decide +kernel
theorem dX12_step_1 : decode cX12_step 1 = .ok (.i2l, 1) := by decide +kernel
theorem dX12_step_2 : decode cX12_step 2 = .ok (.lconst 1, 1) := by decide +kernel
theorem dX12_step_3 : decode cX12_step 3 = .ok (.ldc2_w 69, 3) := by decide +kernel
theorem dX12_step_6 : decode cX12_step 6 = .ok (.invokestatic 65, 3) := by decide +kernel
theorem dX12_step_9 : decode cX12_step 9 = .ok (.ifCond .eq 15, 3) := by decide +kernel
theorem dX12_step_12 : decode cX12_step 12 = .ok (.lload_n 2, 1) := by decide +kernel
theorem dX12_step_13 : decode cX12_step 13 = .ok (.invokestatic 71, 3) := by decide +kernel
theorem dX12_step_16 : decode cX12_step 16 = .ok (.ifCond .eq 8, 3) := by decide +kernel
theorem dX12_step_19 : decode cX12_step 19 = .ok (.iload 4, 2) := by decide +kernel
theorem dX12_step_21 : decode cX12_step 21 = .ok (.ifCond .ge 7, 3) := by decide +kernel
theorem dX12_step_24 : decode cX12_step 24 = .ok (.ldc2_w 79, 3) := by decide +kernel
theorem dX12_step_27 : decode cX12_step 27 = .ok (.lreturn, 1) := by decide +kernel
theorem dX12_step_28 : decode cX12_step 28 = .ok (.aload_n 0, 1) := by decide +kernel
theorem dX12_step_29 : decode cX12_step 29 = .ok (.iload_n 1, 1) := by decide +kernel
theorem dX12_step_30 : decode cX12_step 30 = .ok (.lload_n 2, 1) := by decide +kernel
theorem dX12_step_31 : decode cX12_step 31 = .ok (.invokevirtual 101, 3) := by decide +kernel
theorem dX12_step_34 : decode cX12_step 34 = .ok (.iload 4, 2) := by decide +kernel
theorem dX12_step_36 : decode cX12_step 36 = .ok (.aload_n 0, 1) := by decide +kernel
theorem dX12_step_37 : decode cX12_step 37 = .ok (.getfield 89, 3) := by decide +kernel
theorem dX12_step_40 : decode cX12_step 40 = .ok (.if_icmp .ge 11, 3) := by decide +kernel
theorem dX12_step_43 : decode cX12_step 43 = .ok (.aload_n 0, 1) := by decide +kernel
theorem dX12_step_44 : decode cX12_step 44 = .ok (.getfield 17, 3) := by decide +kernel
theorem dX12_step_47 : decode cX12_step 47 = .ok (.iload 4, 2) := by decide +kernel
theorem dX12_step_49 : decode cX12_step 49 = .ok (.laload, 1) := by decide +kernel
theorem dX12_step_50 : decode cX12_step 50 = .ok (.lreturn, 1) := by decide +kernel
theorem dX12_step_51 : decode cX12_step 51 = .ok (.aload_n 0, 1) := by decide +kernel
theorem dX12_step_52 : decode cX12_step 52 = .ok (.getfield 92, 3) := by decide +kernel
theorem dX12_step_55 : decode cX12_step 55 = .ok (.iconst 1, 1) := by decide +kernel
theorem dX12_step_56 : decode cX12_step 56 = .ok (.if_icmp .ne 26, 3) := by decide +kernel
theorem dX12_step_59 : decode cX12_step 59 = .ok (.aload_n 0, 1) := by decide +kernel
theorem dX12_step_60 : decode cX12_step 60 = .ok (.getfield 17, 3) := by decide +kernel
theorem dX12_step_63 : decode cX12_step 63 = .ok (.aload_n 0, 1) := by decide +kernel
theorem dX12_step_64 : decode cX12_step 64 = .ok (.getfield 98, 3) := by decide +kernel
theorem dX12_step_67 : decode cX12_step 67 = .ok (.iload 4, 2) := by decide +kernel
theorem dX12_step_69 : decode cX12_step 69 = .ok (.aload_n 0, 1) := by decide +kernel
theorem dX12_step_70 : decode cX12_step 70 = .ok (.getfield 98, 3) := by decide +kernel
theorem dX12_step_73 : decode cX12_step 73 = .ok (.isub, 1) := by decide +kernel
theorem dX12_step_74 : decode cX12_step 74 = .ok (.aload_n 0, 1) := by decide +kernel
theorem dX12_step_75 : decode cX12_step 75 = .ok (.getfield 95, 3) := by decide +kernel
theorem dX12_step_78 : decode cX12_step 78 = .ok (.irem, 1) := by decide +kernel
theorem dX12_step_79 : decode cX12_step 79 = .ok (.iadd, 1) := by decide +kernel
theorem dX12_step_80 : decode cX12_step 80 = .ok (.laload, 1) := by decide +kernel
theorem dX12_step_81 : decode cX12_step 81 = .ok (.lreturn, 1) := by decide +kernel
theorem dX12_step_82 : decode cX12_step 82 = .ok (.aload_n 0, 1) := by decide +kernel
theorem dX12_step_83 : decode cX12_step 83 = .ok (.getfield 92, 3) := by decide +kernel
theorem dX12_step_86 : decode cX12_step 86 = .ok (.ifCond .ne 16, 3) := by decide +kernel
theorem dX12_step_89 : decode cX12_step 89 = .ok (.iload 4, 2) := by decide +kernel
theorem dX12_step_91 : decode cX12_step 91 = .ok (.aload_n 0, 1) := by decide +kernel
theorem dX12_step_92 : decode cX12_step 92 = .ok (.getfield 89, 3) := by decide +kernel
theorem dX12_step_95 : decode cX12_step 95 = .ok (.if_icmp .ne 7, 3) := by decide +kernel
theorem dX12_step_98 : decode cX12_step 98 = .ok (.lconst 0, 1) := by decide +kernel
theorem dX12_step_99 : decode cX12_step 99 = .ok (.goto 6, 3) := by decide +kernel
theorem dX12_step_102 : decode cX12_step 102 = .ok (.ldc2_w 85, 3) := by decide +kernel
theorem dX12_step_105 : decode cX12_step 105 = .ok (.lreturn, 1) := by decide +kernel
set_option maxRecDepth 20000 in
theorem ggX12_layTable_X12_sumOf : GoodIn wsX12_layTable wsX12_sumOf := goodIn_r _ [8, 9, 10, 11, 7, 12, 13, 14, 15, 16, 17, 18, 19, 20, 21, 22, 23, 24, 25, 26, 27, 28, 29, 30, 31, 32, 33, 34, 35, 36, 37, 38, 39, 40] rfl (by decide +kernel)
set_option maxRecDepth 20000 in
theorem gX12_layTable_X12_sumOf : GoodIn wsX12_layTable (wsV RX12 75 RX12 yX12_sumOf wsX12_sumOf) := goodIn_app (goodIn_sub (List.forall_mem_cons.mpr ⟨List.mem_of_getElem? (i := 4) rfl, List.forall_mem_cons.mpr ⟨List.mem_of_getElem? (i := 5) rfl, List.forall_mem_cons.mpr ⟨List.mem_of_getElem? (i := 6) rfl, List.forall_mem_cons.mpr ⟨List.mem_of_getElem? (i := 7) rfl, fun _ h => absurd h List.not_mem_nil⟩⟩⟩⟩) (by decide +kernel)) ggX12_layTable_X12_sumOf
theorem dX12_layTable_0 : decode cX12_layTable 0 = .ok (.aload_n 0, 1) := by decide +kernel
theorem dX12_layTable_1 : decode cX12_layTable 1 = .ok (.getfield 46, 3) := by decide +kernel
theorem dX12_layTable_4 : decode cX12_layTable 4 = .ok (.iload_n 1, 1) := by decide +kernel
theorem dX12_layTable_5 : decode cX12_layTable 5 = .ok (.if_icmp .ne 4, 3) := by decide +kernel
theorem dX12_layTable_8 : decode cX12_layTable 8 = .ok (.return_, 1) := by decide +kernel
theorem dX12_layTable_9 : decode cX12_layTable 9 = .ok (.aload_n 0, 1) := by decide +kernel
theorem dX12_layTable_10 : decode cX12_layTable 10 = .ok (.iload_n 1, 1) := by decide +kernel
theorem dX12_layTable_11 : decode cX12_layTable 11 = .ok (.putfield 46, 3) := by decide +kernel
theorem dX12_layTable_14 : decode cX12_layTable 14 = .ok (.aload_n 0, 1) := by decide +kernel
theorem dX12_layTable_15 : decode cX12_layTable 15 = .ok (.getfield 21, 3) := by decide +kernel
theorem dX12_layTable_18 : decode cX12_layTable 18 = .ok (.iconst 0, 1) := by decide +kernel
theorem dX12_layTable_19 : decode cX12_layTable 19 = .ok (.iconst 0, 1) := by decide +kernel
theorem dX12_layTable_20 : decode cX12_layTable 20 = .ok (.iastore, 1) := by decide +kernel
theorem dX12_layTable_21 : decode cX12_layTable 21 = .ok (.iconst 1, 1) := by decide +kernel
theorem dX12_layTable_22 : decode cX12_layTable 22 = .ok (.istore_n 2, 1) := by decide +kernel
theorem dX12_layTable_23 : decode cX12_layTable 23 = .ok (.iload_n 2, 1) := by decide +kernel
theorem dX12_layTable_24 : decode cX12_layTable 24 = .ok (.ldc 105, 2) := by decide +kernel
theorem dX12_layTable_26 : decode cX12_layTable 26 = .ok (.if_icmp .gt 32, 3) := by decide +kernel
theorem dX12_layTable_29 : decode cX12_layTable 29 = .ok (.aload_n 0, 1) := by decide +kernel
theorem dX12_layTable_30 : decode cX12_layTable 30 = .ok (.getfield 21, 3) := by decide +kernel
theorem dX12_layTable_33 : decode cX12_layTable 33 = .ok (.iload_n 2, 1) := by decide +kernel
theorem dX12_layTable_34 : decode cX12_layTable 34 = .ok (.iload_n 1, 1) := by decide +kernel
theorem dX12_layTable_35 : decode cX12_layTable 35 = .ok (.iconst 2, 1) := by decide +kernel
theorem dX12_layTable_36 : decode cX12_layTable 36 = .ok (.if_icmp .ne 14, 3) := by decide +kernel
theorem dX12_layTable_39 : decode cX12_layTable 39 = .ok (.aload_n 0, 1) := by decide +kernel
theorem dX12_layTable_40 : decode cX12_layTable 40 = .ok (.iconst 2, 1) := by decide +kernel
theorem dX12_layTable_41 : decode cX12_layTable 41 = .ok (.iload_n 2, 1) := by decide +kernel
theorem dX12_layTable_42 : decode cX12_layTable 42 = .ok (.i2l, 1) := by decide +kernel
theorem dX12_layTable_43 : decode cX12_layTable 43 = .ok (.invokevirtual 75, 3) := by decide +kernel
theorem dX12_layTable_46 : decode cX12_layTable 46 = .ok (.l2i, 1) := by decide +kernel
theorem dX12_layTable_47 : decode cX12_layTable 47 = .ok (.goto 4, 3) := by decide +kernel
theorem dX12_layTable_50 : decode cX12_layTable 50 = .ok (.iconst 0, 1) := by decide +kernel
theorem dX12_layTable_51 : decode cX12_layTable 51 = .ok (.iastore, 1) := by decide +kernel
theorem dX12_layTable_52 : decode cX12_layTable 52 = .ok (.iinc 2 1, 3) := by decide +kernel
theorem dX12_layTable_55 : decode cX12_layTable 55 = .ok (.goto (-32), 3) := by decide +kernel
theorem dX12_layTable_58 : decode cX12_layTable 58 = .ok (.iload_n 1, 1) := by decide +kernel
theorem dX12_layTable_59 : decode cX12_layTable 59 = .ok (.iconst 2, 1) := by decide +kernel
theorem dX12_layTable_60 : decode cX12_layTable 60 = .ok (.if_icmp .ne 4, 3) := by decide +kernel
theorem dX12_layTable_63 : decode cX12_layTable 63 = .ok (.return_, 1) := by decide +kernel
theorem dX12_layTable_64 : decode cX12_layTable 64 = .ok (.iconst 1, 1) := by decide +kernel
theorem dX12_layTable_65 : decode cX12_layTable 65 = .ok (.istore_n 2, 1) := by decide +kernel
theorem dX12_layTable_66 : decode cX12_layTable 66 = .ok (.iload_n 2, 1) := by decide +kernel
theorem dX12_layTable_67 : decode cX12_layTable 67 = .ok (.ldc 105, 2) := by decide +kernel
theorem dX12_layTable_69 : decode cX12_layTable 69 = .ok (.if_icmp .gt 69, 3) := by decide +kernel
theorem dX12_layTable_72 : decode cX12_layTable 72 = .ok (.iload_n 2, 1) := by decide +kernel
theorem dX12_layTable_73 : decode cX12_layTable 73 = .ok (.istore_n 3, 1) := by decide +kernel
theorem dX12_layTable_74 : decode cX12_layTable 74 = .ok (.iload_n 3, 1) := by decide +kernel
theorem dX12_layTable_75 : decode cX12_layTable 75 = .ok (.ldc 105, 2) := by decide +kernel
theorem dX12_layTable_77 : decode cX12_layTable 77 = .ok (.if_icmp .gt 55, 3) := by decide +kernel
theorem dX12_layTable_80 : decode cX12_layTable 80 = .ok (.iload_n 1, 1) := by decide +kernel
theorem dX12_layTable_81 : decode cX12_layTable 81 = .ok (.ifCond .eq 18, 3) := by decide +kernel
theorem dX12_layTable_84 : decode cX12_layTable 84 = .ok (.iload_n 3, 1) := by decide +kernel
theorem dX12_layTable_85 : decode cX12_layTable 85 = .ok (.iload_n 2, 1) := by decide +kernel
theorem dX12_layTable_86 : decode cX12_layTable 86 = .ok (.if_icmp .eq 17, 3) := by decide +kernel
theorem dX12_layTable_89 : decode cX12_layTable 89 = .ok (.iload_n 1, 1) := by decide +kernel
theorem dX12_layTable_90 : decode cX12_layTable 90 = .ok (.iconst 1, 1) := by decide +kernel
theorem dX12_layTable_91 : decode cX12_layTable 91 = .ok (.if_icmp .eq 8, 3) := by decide +kernel
theorem dX12_layTable_94 : decode cX12_layTable 94 = .ok (.iload_n 2, 1) := by decide +kernel
theorem dX12_layTable_95 : decode cX12_layTable 95 = .ok (.iconst 1, 1) := by decide +kernel
theorem dX12_layTable_96 : decode cX12_layTable 96 = .ok (.if_icmp .le 7, 3) := by decide +kernel
theorem dX12_layTable_99 : decode cX12_layTable 99 = .ok (.iconst 1, 1) := by decide +kernel
theorem dX12_layTable_100 : decode cX12_layTable 100 = .ok (.goto 4, 3) := by decide +kernel
theorem dX12_layTable_103 : decode cX12_layTable 103 = .ok (.iconst 0, 1) := by decide +kernel
theorem dX12_layTable_104 : decode cX12_layTable 104 = .ok (.istore 4, 2) := by decide +kernel
theorem dX12_layTable_106 : decode cX12_layTable 106 = .ok (.aload_n 0, 1) := by decide +kernel
theorem dX12_layTable_107 : decode cX12_layTable 107 = .ok (.getfield 21, 3) := by decide +kernel
theorem dX12_layTable_110 : decode cX12_layTable 110 = .ok (.iload_n 3, 1) := by decide +kernel
theorem dX12_layTable_111 : decode cX12_layTable 111 = .ok (.dup2, 1) := by decide +kernel
theorem dX12_layTable_112 : decode cX12_layTable 112 = .ok (.iaload, 1) := by decide +kernel
theorem dX12_layTable_113 : decode cX12_layTable 113 = .ok (.iload 4, 2) := by decide +kernel
theorem dX12_layTable_115 : decode cX12_layTable 115 = .ok (.ifCond .eq 7, 3) := by decide +kernel
theorem dX12_layTable_118 : decode cX12_layTable 118 = .ok (.iload_n 2, 1) := by decide +kernel
theorem dX12_layTable_119 : decode cX12_layTable 119 = .ok (.goto 4, 3) := by decide +kernel
theorem dX12_layTable_122 : decode cX12_layTable 122 = .ok (.iconst 0, 1) := by decide +kernel
theorem dX12_layTable_123 : decode cX12_layTable 123 = .ok (.iadd, 1) := by decide +kernel
theorem dX12_layTable_124 : decode cX12_layTable 124 = .ok (.iastore, 1) := by decide +kernel
theorem dX12_layTable_125 : decode cX12_layTable 125 = .ok (.iload_n 3, 1) := by decide +kernel
theorem dX12_layTable_126 : decode cX12_layTable 126 = .ok (.iload_n 2, 1) := by decide +kernel
theorem dX12_layTable_127 : decode cX12_layTable 127 = .ok (.iadd, 1) := by decide +kernel
theorem dX12_layTable_128 : decode cX12_layTable 128 = .ok (.istore_n 3, 1) := by decide +kernel
theorem dX12_layTable_129 : decode cX12_layTable 129 = .ok (.goto (-55), 3) := by decide +kernel
theorem dX12_layTable_132 : decode cX12_layTable 132 = .ok (.iinc 2 1, 3) := by decide +kernel
theorem dX12_layTable_135 : decode cX12_layTable 135 = .ok (.goto (-69), 3) := by decide +kernel
theorem dX12_layTable_138 : decode cX12_layTable 138 = .ok (.return_, 1) := by decide +kernel
set_option maxRecDepth 20000 in
theorem ggX12_isBound_X12_in : GoodIn wsX12_isBound wsX12_in := goodIn_r _ [5] rfl (by decide +kernel)
set_option maxRecDepth 20000 in
theorem gX12_isBound_X12_in : GoodIn wsX12_isBound (va_wsS RX12 65 yX12_in wsX12_in) := goodIn_app (goodIn_sub (List.forall_mem_cons.mpr ⟨List.mem_of_getElem? (i := 2) rfl, List.forall_mem_cons.mpr ⟨List.mem_of_getElem? (i := 3) rfl, List.forall_mem_cons.mpr ⟨List.mem_of_getElem? (i := 4) rfl, fun _ h => absurd h List.not_mem_nil⟩⟩⟩) (by decide +kernel)) ggX12_isBound_X12_in
theorem dX12_isBound_0 : decode cX12_isBound 0 = .ok (.iload_n 0, 1) := by decide +kernel
theorem dX12_isBound_1 : decode cX12_isBound 1 = .ok (.i2l, 1) := by decide +kernel
theorem dX12_isBound_2 : decode cX12_isBound 2 = .ok (.lconst 1, 1) := by decide +kernel
theorem dX12_isBound_3 : decode cX12_isBound 3 = .ok (.ldc2_w 106, 3) := by decide +kernel
theorem dX12_isBound_6 : decode cX12_isBound 6 = .ok (.invokestatic 65, 3) := by decide +kernel
theorem dX12_isBound_9 : decode cX12_isBound 9 = .ok (.ireturn, 1) := by decide +kernel
theorem dX12_begins_0 : decode cX12_begins 0 = .ok (.iload_n 1, 1) := by decide +kernel
theorem dX12_begins_1 : decode cX12_begins 1 = .ok (.istore 4, 2) := by decide +kernel
theorem dX12_begins_3 : decode cX12_begins 3 = .ok (.iconst 1, 1) := by decide +kernel
theorem dX12_begins_4 : decode cX12_begins 4 = .ok (.istore 5, 2) := by decide +kernel
theorem dX12_begins_6 : decode cX12_begins 6 = .ok (.iload 5, 2) := by decide +kernel
theorem dX12_begins_8 : decode cX12_begins 8 = .ok (.iload_n 2, 1) := by decide +kernel
theorem dX12_begins_9 : decode cX12_begins 9 = .ok (.if_icmp .gt 44, 3) := by decide +kernel
theorem dX12_begins_12 : decode cX12_begins 12 = .ok (.aload_n 0, 1) := by decide +kernel
theorem dX12_begins_13 : decode cX12_begins 13 = .ok (.getfield 21, 3) := by decide +kernel
theorem dX12_begins_16 : decode cX12_begins 16 = .ok (.iload 4, 2) := by decide +kernel
theorem dX12_begins_18 : decode cX12_begins 18 = .ok (.iaload, 1) := by decide +kernel
theorem dX12_begins_19 : decode cX12_begins 19 = .ok (.istore 4, 2) := by decide +kernel
theorem dX12_begins_21 : decode cX12_begins 21 = .ok (.iload 4, 2) := by decide +kernel
theorem dX12_begins_23 : decode cX12_begins 23 = .ok (.iload_n 1, 1) := by decide +kernel
theorem dX12_begins_24 : decode cX12_begins 24 = .ok (.if_icmp .lt 21, 3) := by decide +kernel
theorem dX12_begins_27 : decode cX12_begins 27 = .ok (.iload 4, 2) := by decide +kernel
theorem dX12_begins_29 : decode cX12_begins 29 = .ok (.iload_n 3, 1) := by decide +kernel
theorem dX12_begins_30 : decode cX12_begins 30 = .ok (.if_icmp .gt 15, 3) := by decide +kernel
theorem dX12_begins_33 : decode cX12_begins 33 = .ok (.iload 4, 2) := by decide +kernel
theorem dX12_begins_35 : decode cX12_begins 35 = .ok (.iload_n 1, 1) := by decide +kernel
theorem dX12_begins_36 : decode cX12_begins 36 = .ok (.if_icmp .ne 11, 3) := by decide +kernel
theorem dX12_begins_39 : decode cX12_begins 39 = .ok (.iload 5, 2) := by decide +kernel
theorem dX12_begins_41 : decode cX12_begins 41 = .ok (.iload_n 2, 1) := by decide +kernel
theorem dX12_begins_42 : decode cX12_begins 42 = .ok (.if_icmp .ge 5, 3) := by decide +kernel
theorem dX12_begins_45 : decode cX12_begins 45 = .ok (.iconst 0, 1) := by decide +kernel
theorem dX12_begins_46 : decode cX12_begins 46 = .ok (.ireturn, 1) := by decide +kernel
theorem dX12_begins_47 : decode cX12_begins 47 = .ok (.iinc 5 1, 3) := by decide +kernel
theorem dX12_begins_50 : decode cX12_begins 50 = .ok (.goto (-44), 3) := by decide +kernel
theorem dX12_begins_53 : decode cX12_begins 53 = .ok (.iload 4, 2) := by decide +kernel
theorem dX12_begins_55 : decode cX12_begins 55 = .ok (.iload_n 1, 1) := by decide +kernel
theorem dX12_begins_56 : decode cX12_begins 56 = .ok (.if_icmp .ne 7, 3) := by decide +kernel
theorem dX12_begins_59 : decode cX12_begins 59 = .ok (.iconst 1, 1) := by decide +kernel
theorem dX12_begins_60 : decode cX12_begins 60 = .ok (.goto 4, 3) := by decide +kernel
theorem dX12_begins_63 : decode cX12_begins 63 = .ok (.iconst 0, 1) := by decide +kernel
theorem dX12_begins_64 : decode cX12_begins 64 = .ok (.ireturn, 1) := by decide +kernel
set_option maxRecDepth 20000 in
theorem ggX12_rings_X12_in : GoodIn wsX12_rings wsX12_in := goodIn_r _ [6] rfl (by decide +kernel)
set_option maxRecDepth 20000 in
theorem gX12_rings_X12_in : GoodIn wsX12_rings (va_wsS RX12 65 yX12_in wsX12_in) := goodIn_app (goodIn_sub (List.forall_mem_cons.mpr ⟨List.mem_of_getElem? (i := 3) rfl, List.forall_mem_cons.mpr ⟨List.mem_of_getElem? (i := 4) rfl, List.forall_mem_cons.mpr ⟨List.mem_of_getElem? (i := 5) rfl, fun _ h => absurd h List.not_mem_nil⟩⟩⟩) (by decide +kernel)) ggX12_rings_X12_in
set_option maxRecDepth 20000 in
theorem ggX12_rings_X12_isBound : GoodIn wsX12_rings wsX12_isBound := goodIn_r _ [9, 10, 3, 4, 5, 6] rfl (by decide +kernel)
set_option maxRecDepth 20000 in
theorem gX12_rings_X12_isBound : GoodIn wsX12_rings (va_wsS RX12 110 yX12_isBound wsX12_isBound) := goodIn_app (goodIn_sub (List.forall_mem_cons.mpr ⟨List.mem_of_getElem? (i := 7) rfl, List.forall_mem_cons.mpr ⟨List.mem_of_getElem? (i := 8) rfl, List.forall_mem_cons.mpr ⟨List.mem_of_getElem? (i := 5) rfl, fun _ h => absurd h List.not_mem_nil⟩⟩⟩) (by decide +kernel)) ggX12_rings_X12_isBound
set_option maxRecDepth 20000 in
theorem ggX12_rings_X12_layTable : GoodIn wsX12_rings wsX12_layTable := goodIn_r _ [14, 15, 16, 17, 18, 19, 20, 5, 21, 22, 23, 24, 25, 26, 27, 28, 29, 30, 31, 32, 37, 38, 39, 40, 41, 42, 43, 44, 45, 46, 47, 48, 49, 50, 51, 52, 53, 54, 55, 56, 57] rfl (by decide +kernel)
set_option maxRecDepth 20000 in
theorem gX12_rings_X12_layTable : GoodIn wsX12_rings (wsV RX12 114 RX12 yX12_layTable wsX12_layTable) := goodIn_app (goodIn_sub (List.forall_mem_cons.mpr ⟨List.mem_of_getElem? (i := 11) rfl, List.forall_mem_cons.mpr ⟨List.mem_of_getElem? (i := 12) rfl, List.forall_mem_cons.mpr ⟨List.mem_of_getElem? (i := 13) rfl, List.forall_mem_cons.mpr ⟨List.mem_of_getElem? (i := 5) rfl, fun _ h => absurd h List.not_mem_nil⟩⟩⟩⟩) (by decide +kernel)) ggX12_rings_X12_layTable
set_option maxRecDepth 20000 in
theorem ggX12_rings_X12_begins : GoodIn wsX12_rings wsX12_begins := goodIn_r _ [36, 16, 37, 38, 39, 40, 41, 42, 43, 44, 45, 46, 47, 48, 49, 50, 51, 52, 53, 54, 55, 56, 57] rfl (by decide +kernel)
set_option maxRecDepth 20000 in
theorem gX12_rings_X12_begins : GoodIn wsX12_rings (wsV RX12 118 RX12 yX12_begins wsX12_begins) := goodIn_app (goodIn_sub (List.forall_mem_cons.mpr ⟨List.mem_of_getElem? (i := 33) rfl, List.forall_mem_cons.mpr ⟨List.mem_of_getElem? (i := 34) rfl, List.forall_mem_cons.mpr ⟨List.mem_of_getElem? (i := 35) rfl, List.forall_mem_cons.mpr ⟨List.mem_of_getElem? (i := 5) rfl, fun _ h => absurd h List.not_mem_nil⟩⟩⟩⟩) (by decide +kernel)) ggX12_rings_X12_begins
theorem dX12_rings_0 : decode cX12_rings 0 = .ok (.iload_n 1, 1) := by decide +kernel
theorem dX12_rings_1 : decode cX12_rings 1 = .ok (.i2l, 1) := by decide +kernel
theorem dX12_rings_2 : decode cX12_rings 2 = .ok (.lconst 1, 1) := by decide +kernel
theorem dX12_rings_3 : decode cX12_rings 3 = .ok (.ldc2_w 69, 3) := by decide +kernel
theorem dX12_rings_6 : decode cX12_rings 6 = .ok (.invokestatic 65, 3) := by decide +kernel
theorem dX12_rings_9 : decode cX12_rings 9 = .ok (.ifCond .eq 28, 3) := by decide +kernel
theorem dX12_rings_12 : decode cX12_rings 12 = .ok (.iload_n 2, 1) := by decide +kernel
theorem dX12_rings_13 : decode cX12_rings 13 = .ok (.i2l, 1) := by decide +kernel
theorem dX12_rings_14 : decode cX12_rings 14 = .ok (.lconst 1, 1) := by decide +kernel
theorem dX12_rings_15 : decode cX12_rings 15 = .ok (.ldc2_w 108, 3) := by decide +kernel
theorem dX12_rings_18 : decode cX12_rings 18 = .ok (.invokestatic 65, 3) := by decide +kernel
theorem dX12_rings_21 : decode cX12_rings 21 = .ok (.ifCond .eq 16, 3) := by decide +kernel
theorem dX12_rings_24 : decode cX12_rings 24 = .ok (.iload_n 3, 1) := by decide +kernel
theorem dX12_rings_25 : decode cX12_rings 25 = .ok (.invokestatic 110, 3) := by decide +kernel
theorem dX12_rings_28 : decode cX12_rings 28 = .ok (.ifCond .eq 9, 3) := by decide +kernel
theorem dX12_rings_31 : decode cX12_rings 31 = .ok (.iload 4, 2) := by decide +kernel
theorem dX12_rings_33 : decode cX12_rings 33 = .ok (.iconst (-1), 1) := by decide +kernel
theorem dX12_rings_34 : decode cX12_rings 34 = .ok (.if_icmp .ge 5, 3) := by decide +kernel
theorem dX12_rings_37 : decode cX12_rings 37 = .ok (.iconst (-1), 1) := by decide +kernel
theorem dX12_rings_38 : decode cX12_rings 38 = .ok (.ireturn, 1) := by decide +kernel
theorem dX12_rings_39 : decode cX12_rings 39 = .ok (.aload_n 0, 1) := by decide +kernel
theorem dX12_rings_40 : decode cX12_rings 40 = .ok (.iload_n 1, 1) := by decide +kernel
theorem dX12_rings_41 : decode cX12_rings 41 = .ok (.invokevirtual 114, 3) := by decide +kernel
theorem dX12_rings_44 : decode cX12_rings 44 = .ok (.iconst 0, 1) := by decide +kernel
theorem dX12_rings_45 : decode cX12_rings 45 = .ok (.istore 5, 2) := by decide +kernel
theorem dX12_rings_47 : decode cX12_rings 47 = .ok (.iconst 1, 1) := by decide +kernel
theorem dX12_rings_48 : decode cX12_rings 48 = .ok (.istore 6, 2) := by decide +kernel
theorem dX12_rings_50 : decode cX12_rings 50 = .ok (.iload 6, 2) := by decide +kernel
theorem dX12_rings_52 : decode cX12_rings 52 = .ok (.iload_n 3, 1) := by decide +kernel
theorem dX12_rings_53 : decode cX12_rings 53 = .ok (.if_icmp .gt 33, 3) := by decide +kernel
theorem dX12_rings_56 : decode cX12_rings 56 = .ok (.aload_n 0, 1) := by decide +kernel
theorem dX12_rings_57 : decode cX12_rings 57 = .ok (.iload 6, 2) := by decide +kernel
theorem dX12_rings_59 : decode cX12_rings 59 = .ok (.iload_n 2, 1) := by decide +kernel
theorem dX12_rings_60 : decode cX12_rings 60 = .ok (.iload_n 3, 1) := by decide +kernel
theorem dX12_rings_61 : decode cX12_rings 61 = .ok (.invokevirtual 118, 3) := by decide +kernel
theorem dX12_rings_64 : decode cX12_rings 64 = .ok (.ifCond .eq 16, 3) := by decide +kernel
theorem dX12_rings_67 : decode cX12_rings 67 = .ok (.iload 5, 2) := by decide +kernel
theorem dX12_rings_69 : decode cX12_rings 69 = .ok (.iload 4, 2) := by decide +kernel
theorem dX12_rings_71 : decode cX12_rings 71 = .ok (.if_icmp .ne 6, 3) := by decide +kernel
theorem dX12_rings_74 : decode cX12_rings 74 = .ok (.iload 6, 2) := by decide +kernel
theorem dX12_rings_76 : decode cX12_rings 76 = .ok (.ireturn, 1) := by decide +kernel
theorem dX12_rings_77 : decode cX12_rings 77 = .ok (.iinc 5 1, 3) := by decide +kernel
theorem dX12_rings_80 : decode cX12_rings 80 = .ok (.iinc 6 1, 3) := by decide +kernel
theorem dX12_rings_83 : decode cX12_rings 83 = .ok (.goto (-33), 3) := by decide +kernel
theorem dX12_rings_86 : decode cX12_rings 86 = .ok (.iload 4, 2) := by decide +kernel
theorem dX12_rings_88 : decode cX12_rings 88 = .ok (.ifCond .ge 8, 3) := by decide +kernel
theorem dX12_rings_91 : decode cX12_rings 91 = .ok (.iload 5, 2) := by decide +kernel
theorem dX12_rings_93 : decode cX12_rings 93 = .ok (.goto 5, 3) := by decide +kernel
theorem dX12_rings_96 : decode cX12_rings 96 = .ok (.bipush (-4), 2) := by decide +kernel
theorem dX12_rings_98 : decode cX12_rings 98 = .ok (.ireturn, 1) := by decide +kernel
set_option maxRecDepth 20000 in
theorem ggX12_having_X12_in : GoodIn wsX12_having wsX12_in := goodIn_r _ [7] rfl (by decide +kernel)
set_option maxRecDepth 20000 in
theorem gX12_having_X12_in : GoodIn wsX12_having (va_wsS RX12 65 yX12_in wsX12_in) := goodIn_app (goodIn_sub (List.forall_mem_cons.mpr ⟨List.mem_of_getElem? (i := 4) rfl, List.forall_mem_cons.mpr ⟨List.mem_of_getElem? (i := 5) rfl, List.forall_mem_cons.mpr ⟨List.mem_of_getElem? (i := 6) rfl, fun _ h => absurd h List.not_mem_nil⟩⟩⟩) (by decide +kernel)) ggX12_having_X12_in
set_option maxRecDepth 20000 in
theorem ggX12_having_X12_isBound : GoodIn wsX12_having wsX12_isBound := goodIn_r _ [10, 11, 4, 5, 6, 7] rfl (by decide +kernel)
set_option maxRecDepth 20000 in
theorem gX12_having_X12_isBound : GoodIn wsX12_having (va_wsS RX12 110 yX12_isBound wsX12_isBound) := goodIn_app (goodIn_sub (List.forall_mem_cons.mpr ⟨List.mem_of_getElem? (i := 8) rfl, List.forall_mem_cons.mpr ⟨List.mem_of_getElem? (i := 9) rfl, List.forall_mem_cons.mpr ⟨List.mem_of_getElem? (i := 6) rfl, fun _ h => absurd h List.not_mem_nil⟩⟩⟩) (by decide +kernel)) ggX12_having_X12_isBound
set_option maxRecDepth 20000 in
theorem ggX12_having_X12_layTable : GoodIn wsX12_having wsX12_layTable := goodIn_r _ [15, 16, 3, 17, 18, 19, 20, 6, 21, 22, 23, 24, 25, 26, 27, 28, 29, 30, 31, 32, 33, 34, 35, 36, 37, 38, 39, 40, 41, 42, 43, 44, 45, 46, 47, 48, 49, 50, 51, 52, 53] rfl (by decide +kernel)
set_option maxRecDepth 20000 in
theorem gX12_having_X12_layTable : GoodIn wsX12_having (wsV RX12 114 RX12 yX12_layTable wsX12_layTable) := goodIn_app (goodIn_sub (List.forall_mem_cons.mpr ⟨List.mem_of_getElem? (i := 12) rfl, List.forall_mem_cons.mpr ⟨List.mem_of_getElem? (i := 13) rfl, List.forall_mem_cons.mpr ⟨List.mem_of_getElem? (i := 14) rfl, List.forall_mem_cons.mpr ⟨List.mem_of_getElem? (i := 6) rfl, fun _ h => absurd h List.not_mem_nil⟩⟩⟩⟩) (by decide +kernel)) ggX12_having_X12_layTable
theorem dX12_having_0 : decode cX12_having 0 = .ok (.iload_n 1, 1) := by decide +kernel
theorem dX12_having_1 : decode cX12_having 1 = .ok (.i2l, 1) := by decide +kernel
theorem dX12_having_2 : decode cX12_having 2 = .ok (.lconst 0, 1) := by decide +kernel
theorem dX12_having_3 : decode cX12_having 3 = .ok (.ldc2_w 69, 3) := by decide +kernel
theorem dX12_having_6 : decode cX12_having 6 = .ok (.invokestatic 65, 3) := by decide +kernel
theorem dX12_having_9 : decode cX12_having 9 = .ok (.ifCond .eq 28, 3) := by decide +kernel
theorem dX12_having_12 : decode cX12_having 12 = .ok (.iload_n 2, 1) := by decide +kernel
theorem dX12_having_13 : decode cX12_having 13 = .ok (.i2l, 1) := by decide +kernel
theorem dX12_having_14 : decode cX12_having 14 = .ok (.lconst 0, 1) := by decide +kernel
theorem dX12_having_15 : decode cX12_having 15 = .ok (.ldc2_w 87, 3) := by decide +kernel
theorem dX12_having_18 : decode cX12_having 18 = .ok (.invokestatic 65, 3) := by decide +kernel
theorem dX12_having_21 : decode cX12_having 21 = .ok (.ifCond .eq 16, 3) := by decide +kernel
theorem dX12_having_24 : decode cX12_having 24 = .ok (.iload_n 3, 1) := by decide +kernel
theorem dX12_having_25 : decode cX12_having 25 = .ok (.invokestatic 110, 3) := by decide +kernel
theorem dX12_having_28 : decode cX12_having 28 = .ok (.ifCond .eq 9, 3) := by decide +kernel
theorem dX12_having_31 : decode cX12_having 31 = .ok (.iload 4, 2) := by decide +kernel
theorem dX12_having_33 : decode cX12_having 33 = .ok (.iconst (-1), 1) := by decide +kernel
theorem dX12_having_34 : decode cX12_having 34 = .ok (.if_icmp .ge 5, 3) := by decide +kernel
theorem dX12_having_37 : decode cX12_having 37 = .ok (.iconst (-1), 1) := by decide +kernel
theorem dX12_having_38 : decode cX12_having 38 = .ok (.ireturn, 1) := by decide +kernel
theorem dX12_having_39 : decode cX12_having 39 = .ok (.aload_n 0, 1) := by decide +kernel
theorem dX12_having_40 : decode cX12_having 40 = .ok (.iload_n 1, 1) := by decide +kernel
theorem dX12_having_41 : decode cX12_having 41 = .ok (.invokevirtual 114, 3) := by decide +kernel
theorem dX12_having_44 : decode cX12_having 44 = .ok (.iconst 0, 1) := by decide +kernel
theorem dX12_having_45 : decode cX12_having 45 = .ok (.istore 5, 2) := by decide +kernel
theorem dX12_having_47 : decode cX12_having 47 = .ok (.iconst 1, 1) := by decide +kernel
theorem dX12_having_48 : decode cX12_having 48 = .ok (.istore 6, 2) := by decide +kernel
theorem dX12_having_50 : decode cX12_having 50 = .ok (.iload 6, 2) := by decide +kernel
theorem dX12_having_52 : decode cX12_having 52 = .ok (.iload_n 3, 1) := by decide +kernel
theorem dX12_having_53 : decode cX12_having 53 = .ok (.if_icmp .gt 33, 3) := by decide +kernel
theorem dX12_having_56 : decode cX12_having 56 = .ok (.aload_n 0, 1) := by decide +kernel
theorem dX12_having_57 : decode cX12_having 57 = .ok (.getfield 21, 3) := by decide +kernel
theorem dX12_having_60 : decode cX12_having 60 = .ok (.iload 6, 2) := by decide +kernel
theorem dX12_having_62 : decode cX12_having 62 = .ok (.iaload, 1) := by decide +kernel
theorem dX12_having_63 : decode cX12_having 63 = .ok (.iload_n 2, 1) := by decide +kernel
theorem dX12_having_64 : decode cX12_having 64 = .ok (.if_icmp .ne 16, 3) := by decide +kernel
theorem dX12_having_67 : decode cX12_having 67 = .ok (.iload 5, 2) := by decide +kernel
theorem dX12_having_69 : decode cX12_having 69 = .ok (.iload 4, 2) := by decide +kernel
theorem dX12_having_71 : decode cX12_having 71 = .ok (.if_icmp .ne 6, 3) := by decide +kernel
theorem dX12_having_74 : decode cX12_having 74 = .ok (.iload 6, 2) := by decide +kernel
theorem dX12_having_76 : decode cX12_having 76 = .ok (.ireturn, 1) := by decide +kernel
theorem dX12_having_77 : decode cX12_having 77 = .ok (.iinc 5 1, 3) := by decide +kernel
theorem dX12_having_80 : decode cX12_having 80 = .ok (.iinc 6 1, 3) := by decide +kernel
theorem dX12_having_83 : decode cX12_having 83 = .ok (.goto (-33), 3) := by decide +kernel
theorem dX12_having_86 : decode cX12_having 86 = .ok (.iload 4, 2) := by decide +kernel
theorem dX12_having_88 : decode cX12_having 88 = .ok (.ifCond .ge 8, 3) := by decide +kernel
theorem dX12_having_91 : decode cX12_having 91 = .ok (.iload 5, 2) := by decide +kernel
theorem dX12_having_93 : decode cX12_having 93 = .ok (.goto 5, 3) := by decide +kernel
theorem dX12_having_96 : decode cX12_having 96 = .ok (.bipush (-4), 2) := by decide +kernel
theorem dX12_having_98 : decode cX12_having 98 = .ok (.ireturn, 1) := by decide +kernel
theorem dX12_layStretch_0 : decode cX12_layStretch 0 = .ok (.iconst 0, 1) := by decide +kernel
theorem dX12_layStretch_1 : decode cX12_layStretch 1 = .ok (.istore_n 3, 1) := by decide +kernel
theorem dX12_layStretch_2 : decode cX12_layStretch 2 = .ok (.iload_n 3, 1) := by decide +kernel
theorem dX12_layStretch_3 : decode cX12_layStretch 3 = .ok (.sipush 1000, 3) := by decide +kernel
theorem dX12_layStretch_6 : decode cX12_layStretch 6 = .ok (.if_icmp .ge 16, 3) := by decide +kernel
theorem dX12_layStretch_9 : decode cX12_layStretch 9 = .ok (.aload_n 0, 1) := by decide +kernel
theorem dX12_layStretch_10 : decode cX12_layStretch 10 = .ok (.getfield 24, 3) := by decide +kernel
theorem dX12_layStretch_13 : decode cX12_layStretch 13 = .ok (.iload_n 3, 1) := by decide +kernel
theorem dX12_layStretch_14 : decode cX12_layStretch 14 = .ok (.lconst 0, 1) := by decide +kernel
theorem dX12_layStretch_15 : decode cX12_layStretch 15 = .ok (.lastore, 1) := by decide +kernel
theorem dX12_layStretch_16 : decode cX12_layStretch 16 = .ok (.iinc 3 1, 3) := by decide +kernel
theorem dX12_layStretch_19 : decode cX12_layStretch 19 = .ok (.goto (-17), 3) := by decide +kernel
theorem dX12_layStretch_22 : decode cX12_layStretch 22 = .ok (.lconst 1, 1) := by decide +kernel
theorem dX12_layStretch_23 : decode cX12_layStretch 23 = .ok (.lstore_n 3, 1) := by decide +kernel
theorem dX12_layStretch_24 : decode cX12_layStretch 24 = .ok (.lload_n 3, 1) := by decide +kernel
theorem dX12_layStretch_25 : decode cX12_layStretch 25 = .ok (.lload_n 3, 1) := by decide +kernel
theorem dX12_layStretch_26 : decode cX12_layStretch 26 = .ok (.lmul, 1) := by decide +kernel
theorem dX12_layStretch_27 : decode cX12_layStretch 27 = .ok (.lload_n 1, 1) := by decide +kernel
theorem dX12_layStretch_28 : decode cX12_layStretch 28 = .ok (.ldc2_w 122, 3) := by decide +kernel
theorem dX12_layStretch_31 : decode cX12_layStretch 31 = .ok (.ladd, 1) := by decide +kernel
theorem dX12_layStretch_32 : decode cX12_layStretch 32 = .ok (.lcmp, 1) := by decide +kernel
theorem dX12_layStretch_33 : decode cX12_layStretch 33 = .ok (.ifCond .ge 92, 3) := by decide +kernel
theorem dX12_layStretch_36 : decode cX12_layStretch 36 = .ok (.lload_n 1, 1) := by decide +kernel
theorem dX12_layStretch_37 : decode cX12_layStretch 37 = .ok (.lload_n 3, 1) := by decide +kernel
theorem dX12_layStretch_38 : decode cX12_layStretch 38 = .ok (.lload_n 1, 1) := by decide +kernel
theorem dX12_layStretch_39 : decode cX12_layStretch 39 = .ok (.lload_n 3, 1) := by decide +kernel
theorem dX12_layStretch_40 : decode cX12_layStretch 40 = .ok (.lrem, 1) := by decide +kernel
theorem dX12_layStretch_41 : decode cX12_layStretch 41 = .ok (.lsub, 1) := by decide +kernel
theorem dX12_layStretch_42 : decode cX12_layStretch 42 = .ok (.lload_n 3, 1) := by decide +kernel
theorem dX12_layStretch_43 : decode cX12_layStretch 43 = .ok (.lrem, 1) := by decide +kernel
theorem dX12_layStretch_44 : decode cX12_layStretch 44 = .ok (.ladd, 1) := by decide +kernel
theorem dX12_layStretch_45 : decode cX12_layStretch 45 = .ok (.lstore 5, 2) := by decide +kernel
theorem dX12_layStretch_47 : decode cX12_layStretch 47 = .ok (.lload 5, 2) := by decide +kernel
theorem dX12_layStretch_49 : decode cX12_layStretch 49 = .ok (.lload_n 3, 1) := by decide +kernel
theorem dX12_layStretch_50 : decode cX12_layStretch 50 = .ok (.lload_n 3, 1) := by decide +kernel
theorem dX12_layStretch_51 : decode cX12_layStretch 51 = .ok (.lmul, 1) := by decide +kernel
theorem dX12_layStretch_52 : decode cX12_layStretch 52 = .ok (.lcmp, 1) := by decide +kernel
theorem dX12_layStretch_53 : decode cX12_layStretch 53 = .ok (.ifCond .ge 9, 3) := by decide +kernel
theorem dX12_layStretch_56 : decode cX12_layStretch 56 = .ok (.lload_n 3, 1) := by decide +kernel
theorem dX12_layStretch_57 : decode cX12_layStretch 57 = .ok (.lload_n 3, 1) := by decide +kernel
theorem dX12_layStretch_58 : decode cX12_layStretch 58 = .ok (.lmul, 1) := by decide +kernel
theorem dX12_layStretch_59 : decode cX12_layStretch 59 = .ok (.goto 5, 3) := by decide +kernel
theorem dX12_layStretch_62 : decode cX12_layStretch 62 = .ok (.lload 5, 2) := by decide +kernel
theorem dX12_layStretch_64 : decode cX12_layStretch 64 = .ok (.lstore 7, 2) := by decide +kernel
theorem dX12_layStretch_66 : decode cX12_layStretch 66 = .ok (.lload 7, 2) := by decide +kernel
theorem dX12_layStretch_68 : decode cX12_layStretch 68 = .ok (.lload_n 1, 1) := by decide +kernel
theorem dX12_layStretch_69 : decode cX12_layStretch 69 = .ok (.ldc2_w 122, 3) := by decide +kernel
theorem dX12_layStretch_72 : decode cX12_layStretch 72 = .ok (.ladd, 1) := by decide +kernel
theorem dX12_layStretch_73 : decode cX12_layStretch 73 = .ok (.lcmp, 1) := by decide +kernel
theorem dX12_layStretch_74 : decode cX12_layStretch 74 = .ok (.ifCond .ge 44, 3) := by decide +kernel
theorem dX12_layStretch_77 : decode cX12_layStretch 77 = .ok (.aload_n 0, 1) := by decide +kernel
theorem dX12_layStretch_78 : decode cX12_layStretch 78 = .ok (.getfield 24, 3) := by decide +kernel
theorem dX12_layStretch_81 : decode cX12_layStretch 81 = .ok (.lload 7, 2) := by decide +kernel
theorem dX12_layStretch_83 : decode cX12_layStretch 83 = .ok (.lload_n 1, 1) := by decide +kernel
theorem dX12_layStretch_84 : decode cX12_layStretch 84 = .ok (.lsub, 1) := by decide +kernel
theorem dX12_layStretch_85 : decode cX12_layStretch 85 = .ok (.l2i, 1) := by decide +kernel
theorem dX12_layStretch_86 : decode cX12_layStretch 86 = .ok (.dup2, 1) := by decide +kernel
theorem dX12_layStretch_87 : decode cX12_layStretch 87 = .ok (.laload, 1) := by decide +kernel
theorem dX12_layStretch_88 : decode cX12_layStretch 88 = .ok (.lload_n 3, 1) := by decide +kernel
theorem dX12_layStretch_89 : decode cX12_layStretch 89 = .ok (.lload_n 3, 1) := by decide +kernel
theorem dX12_layStretch_90 : decode cX12_layStretch 90 = .ok (.lmul, 1) := by decide +kernel
theorem dX12_layStretch_91 : decode cX12_layStretch 91 = .ok (.lload 7, 2) := by decide +kernel
theorem dX12_layStretch_93 : decode cX12_layStretch 93 = .ok (.lcmp, 1) := by decide +kernel
theorem dX12_layStretch_94 : decode cX12_layStretch 94 = .ok (.ifCond .ne 7, 3) := by decide +kernel
theorem dX12_layStretch_97 : decode cX12_layStretch 97 = .ok (.lload_n 3, 1) := by decide +kernel
theorem dX12_layStretch_98 : decode cX12_layStretch 98 = .ok (.goto 9, 3) := by decide +kernel
theorem dX12_layStretch_101 : decode cX12_layStretch 101 = .ok (.lload_n 3, 1) := by decide +kernel
theorem dX12_layStretch_102 : decode cX12_layStretch 102 = .ok (.lload 7, 2) := by decide +kernel
theorem dX12_layStretch_104 : decode cX12_layStretch 104 = .ok (.lload_n 3, 1) := by decide +kernel
theorem dX12_layStretch_105 : decode cX12_layStretch 105 = .ok (.ldiv, 1) := by decide +kernel
theorem dX12_layStretch_106 : decode cX12_layStretch 106 = .ok (.ladd, 1) := by decide +kernel
theorem dX12_layStretch_107 : decode cX12_layStretch 107 = .ok (.ladd, 1) := by decide +kernel
theorem dX12_layStretch_108 : decode cX12_layStretch 108 = .ok (.lastore, 1) := by decide +kernel
theorem dX12_layStretch_109 : decode cX12_layStretch 109 = .ok (.lload 7, 2) := by decide +kernel
theorem dX12_layStretch_111 : decode cX12_layStretch 111 = .ok (.lload_n 3, 1) := by decide +kernel
theorem dX12_layStretch_112 : decode cX12_layStretch 112 = .ok (.ladd, 1) := by decide +kernel
theorem dX12_layStretch_113 : decode cX12_layStretch 113 = .ok (.lstore 7, 2) := by decide +kernel
theorem dX12_layStretch_115 : decode cX12_layStretch 115 = .ok (.goto (-49), 3) := by decide +kernel
theorem dX12_layStretch_118 : decode cX12_layStretch 118 = .ok (.lload_n 3, 1) := by decide +kernel
theorem dX12_layStretch_119 : decode cX12_layStretch 119 = .ok (.lconst 1, 1) := by decide +kernel
theorem dX12_layStretch_120 : decode cX12_layStretch 120 = .ok (.ladd, 1) := by decide +kernel
theorem dX12_layStretch_121 : decode cX12_layStretch 121 = .ok (.lstore_n 3, 1) := by decide +kernel
theorem dX12_layStretch_122 : decode cX12_layStretch 122 = .ok (.goto (-98), 3) := by decide +kernel
theorem dX12_layStretch_125 : decode cX12_layStretch 125 = .ok (.return_, 1) := by decide +kernel
set_option maxRecDepth 20000 in
theorem ggX12_wholly_X12_in : GoodIn wsX12_wholly wsX12_in := goodIn_r _ [7] rfl (by decide +kernel)
set_option maxRecDepth 20000 in
theorem gX12_wholly_X12_in : GoodIn wsX12_wholly (va_wsS RX12 65 yX12_in wsX12_in) := goodIn_app (goodIn_sub (List.forall_mem_cons.mpr ⟨List.mem_of_getElem? (i := 4) rfl, List.forall_mem_cons.mpr ⟨List.mem_of_getElem? (i := 5) rfl, List.forall_mem_cons.mpr ⟨List.mem_of_getElem? (i := 6) rfl, fun _ h => absurd h List.not_mem_nil⟩⟩⟩) (by decide +kernel)) ggX12_wholly_X12_in
set_option maxRecDepth 20000 in
theorem ggX12_wholly_X12_layStretch : GoodIn wsX12_wholly wsX12_layStretch := goodIn_r _ [11, 2, 3, 12, 13, 14, 15, 16, 17, 18, 19, 20, 21, 22, 23, 24, 25, 26, 27, 28, 29, 30, 31, 32] rfl (by decide +kernel)
set_option maxRecDepth 20000 in
theorem gX12_wholly_X12_layStretch : GoodIn wsX12_wholly (wsV RX12 126 RX12 yX12_layStretch wsX12_layStretch) := goodIn_app (goodIn_sub (List.forall_mem_cons.mpr ⟨List.mem_of_getElem? (i := 8) rfl, List.forall_mem_cons.mpr ⟨List.mem_of_getElem? (i := 9) rfl, List.forall_mem_cons.mpr ⟨List.mem_of_getElem? (i := 10) rfl, List.forall_mem_cons.mpr ⟨List.mem_of_getElem? (i := 6) rfl, fun _ h => absurd h List.not_mem_nil⟩⟩⟩⟩) (by decide +kernel)) ggX12_wholly_X12_layStretch
theorem dX12_wholly_0 : decode cX12_wholly 0 = .ok (.iload_n 1, 1) := by decide +kernel
theorem dX12_wholly_1 : decode cX12_wholly 1 = .ok (.i2l, 1) := by decide +kernel
theorem dX12_wholly_2 : decode cX12_wholly 2 = .ok (.lconst 1, 1) := by decide +kernel
theorem dX12_wholly_3 : decode cX12_wholly 3 = .ok (.ldc2_w 124, 3) := by decide +kernel
theorem dX12_wholly_6 : decode cX12_wholly 6 = .ok (.invokestatic 65, 3) := by decide +kernel
theorem dX12_wholly_9 : decode cX12_wholly 9 = .ok (.ifCond .eq 8, 3) := by decide +kernel
theorem dX12_wholly_12 : decode cX12_wholly 12 = .ok (.iload_n 2, 1) := by decide +kernel
theorem dX12_wholly_13 : decode cX12_wholly 13 = .ok (.iconst (-1), 1) := by decide +kernel
theorem dX12_wholly_14 : decode cX12_wholly 14 = .ok (.if_icmp .ge 5, 3) := by decide +kernel
theorem dX12_wholly_17 : decode cX12_wholly 17 = .ok (.iconst (-1), 1) := by decide +kernel
theorem dX12_wholly_18 : decode cX12_wholly 18 = .ok (.ireturn, 1) := by decide +kernel
theorem dX12_wholly_19 : decode cX12_wholly 19 = .ok (.iconst 0, 1) := by decide +kernel
theorem dX12_wholly_20 : decode cX12_wholly 20 = .ok (.istore_n 3, 1) := by decide +kernel
theorem dX12_wholly_21 : decode cX12_wholly 21 = .ok (.lconst 1, 1) := by decide +kernel
theorem dX12_wholly_22 : decode cX12_wholly 22 = .ok (.lstore 4, 2) := by decide +kernel
theorem dX12_wholly_24 : decode cX12_wholly 24 = .ok (.lload 4, 2) := by decide +kernel
theorem dX12_wholly_26 : decode cX12_wholly 26 = .ok (.iload_n 1, 1) := by decide +kernel
theorem dX12_wholly_27 : decode cX12_wholly 27 = .ok (.i2l, 1) := by decide +kernel
theorem dX12_wholly_28 : decode cX12_wholly 28 = .ok (.lcmp, 1) := by decide +kernel
theorem dX12_wholly_29 : decode cX12_wholly 29 = .ok (.ifCond .gt 66, 3) := by decide +kernel
theorem dX12_wholly_32 : decode cX12_wholly 32 = .ok (.aload_n 0, 1) := by decide +kernel
theorem dX12_wholly_33 : decode cX12_wholly 33 = .ok (.lload 4, 2) := by decide +kernel
theorem dX12_wholly_35 : decode cX12_wholly 35 = .ok (.invokevirtual 126, 3) := by decide +kernel
theorem dX12_wholly_38 : decode cX12_wholly 38 = .ok (.iconst 0, 1) := by decide +kernel
theorem dX12_wholly_39 : decode cX12_wholly 39 = .ok (.istore 6, 2) := by decide +kernel
theorem dX12_wholly_41 : decode cX12_wholly 41 = .ok (.iload 6, 2) := by decide +kernel
theorem dX12_wholly_43 : decode cX12_wholly 43 = .ok (.sipush 1000, 3) := by decide +kernel
theorem dX12_wholly_46 : decode cX12_wholly 46 = .ok (.if_icmp .ge 38, 3) := by decide +kernel
theorem dX12_wholly_49 : decode cX12_wholly 49 = .ok (.aload_n 0, 1) := by decide +kernel
theorem dX12_wholly_50 : decode cX12_wholly 50 = .ok (.getfield 24, 3) := by decide +kernel
theorem dX12_wholly_53 : decode cX12_wholly 53 = .ok (.iload 6, 2) := by decide +kernel
theorem dX12_wholly_55 : decode cX12_wholly 55 = .ok (.laload, 1) := by decide +kernel
theorem dX12_wholly_56 : decode cX12_wholly 56 = .ok (.iload_n 1, 1) := by decide +kernel
theorem dX12_wholly_57 : decode cX12_wholly 57 = .ok (.i2l, 1) := by decide +kernel
theorem dX12_wholly_58 : decode cX12_wholly 58 = .ok (.lcmp, 1) := by decide +kernel
theorem dX12_wholly_59 : decode cX12_wholly 59 = .ok (.ifCond .ne 19, 3) := by decide +kernel
theorem dX12_wholly_62 : decode cX12_wholly 62 = .ok (.iload_n 3, 1) := by decide +kernel
theorem dX12_wholly_63 : decode cX12_wholly 63 = .ok (.iload_n 2, 1) := by decide +kernel
theorem dX12_wholly_64 : decode cX12_wholly 64 = .ok (.if_icmp .ne 11, 3) := by decide +kernel
theorem dX12_wholly_67 : decode cX12_wholly 67 = .ok (.lload 4, 2) := by decide +kernel
theorem dX12_wholly_69 : decode cX12_wholly 69 = .ok (.iload 6, 2) := by decide +kernel
theorem dX12_wholly_71 : decode cX12_wholly 71 = .ok (.i2l, 1) := by decide +kernel
theorem dX12_wholly_72 : decode cX12_wholly 72 = .ok (.ladd, 1) := by decide +kernel
theorem dX12_wholly_73 : decode cX12_wholly 73 = .ok (.l2i, 1) := by decide +kernel
theorem dX12_wholly_74 : decode cX12_wholly 74 = .ok (.ireturn, 1) := by decide +kernel
theorem dX12_wholly_75 : decode cX12_wholly 75 = .ok (.iinc 3 1, 3) := by decide +kernel
theorem dX12_wholly_78 : decode cX12_wholly 78 = .ok (.iinc 6 1, 3) := by decide +kernel
theorem dX12_wholly_81 : decode cX12_wholly 81 = .ok (.goto (-40), 3) := by decide +kernel
theorem dX12_wholly_84 : decode cX12_wholly 84 = .ok (.lload 4, 2) := by decide +kernel
theorem dX12_wholly_86 : decode cX12_wholly 86 = .ok (.ldc2_w 122, 3) := by decide +kernel
theorem dX12_wholly_89 : decode cX12_wholly 89 = .ok (.ladd, 1) := by decide +kernel
theorem dX12_wholly_90 : decode cX12_wholly 90 = .ok (.lstore 4, 2) := by decide +kernel
theorem dX12_wholly_92 : decode cX12_wholly 92 = .ok (.goto (-68), 3) := by decide +kernel
theorem dX12_wholly_95 : decode cX12_wholly 95 = .ok (.iload_n 2, 1) := by decide +kernel
theorem dX12_wholly_96 : decode cX12_wholly 96 = .ok (.ifCond .ge 7, 3) := by decide +kernel
theorem dX12_wholly_99 : decode cX12_wholly 99 = .ok (.iload_n 3, 1) := by decide +kernel
theorem dX12_wholly_100 : decode cX12_wholly 100 = .ok (.goto 5, 3) := by decide +kernel
theorem dX12_wholly_103 : decode cX12_wholly 103 = .ok (.bipush (-4), 2) := by decide +kernel
theorem dX12_wholly_105 : decode cX12_wholly 105 = .ok (.ireturn, 1) := by decide +kernel
set_option maxRecDepth 20000 in
theorem ggX12_bare_X12_in : GoodIn wsX12_bare wsX12_in := goodIn_r _ [8] rfl (by decide +kernel)
set_option maxRecDepth 20000 in
theorem gX12_bare_X12_in : GoodIn wsX12_bare (va_wsS RX12 65 yX12_in wsX12_in) := goodIn_app (goodIn_sub (List.forall_mem_cons.mpr ⟨List.mem_of_getElem? (i := 5) rfl, List.forall_mem_cons.mpr ⟨List.mem_of_getElem? (i := 6) rfl, List.forall_mem_cons.mpr ⟨List.mem_of_getElem? (i := 7) rfl, fun _ h => absurd h List.not_mem_nil⟩⟩⟩) (by decide +kernel)) ggX12_bare_X12_in
set_option maxRecDepth 20000 in
theorem ggX12_bare_X12_layTable : GoodIn wsX12_bare wsX12_layTable := goodIn_r _ [12, 13, 4, 14, 15, 16, 17, 7, 18, 19, 20, 21, 22, 23, 24, 25, 26, 27, 28, 1, 29, 30, 31, 32, 33, 34, 35, 36, 37, 38, 39, 40, 41, 42, 43, 44, 45, 46, 47, 48, 49] rfl (by decide +kernel)
set_option maxRecDepth 20000 in
theorem gX12_bare_X12_layTable : GoodIn wsX12_bare (wsV RX12 114 RX12 yX12_layTable wsX12_layTable) := goodIn_app (goodIn_sub (List.forall_mem_cons.mpr ⟨List.mem_of_getElem? (i := 9) rfl, List.forall_mem_cons.mpr ⟨List.mem_of_getElem? (i := 10) rfl, List.forall_mem_cons.mpr ⟨List.mem_of_getElem? (i := 11) rfl, List.forall_mem_cons.mpr ⟨List.mem_of_getElem? (i := 7) rfl, fun _ h => absurd h List.not_mem_nil⟩⟩⟩⟩) (by decide +kernel)) ggX12_bare_X12_layTable
theorem dX12_bare_0 : decode cX12_bare 0 = .ok (.iload_n 1, 1) := by decide +kernel
theorem dX12_bare_1 : decode cX12_bare 1 = .ok (.i2l, 1) := by decide +kernel
theorem dX12_bare_2 : decode cX12_bare 2 = .ok (.ldc2_w 53, 3) := by decide +kernel
theorem dX12_bare_5 : decode cX12_bare 5 = .ok (.ldc2_w 129, 3) := by decide +kernel
theorem dX12_bare_8 : decode cX12_bare 8 = .ok (.invokestatic 65, 3) := by decide +kernel
theorem dX12_bare_11 : decode cX12_bare 11 = .ok (.ifCond .ne 5, 3) := by decide +kernel
theorem dX12_bare_14 : decode cX12_bare 14 = .ok (.iconst (-1), 1) := by decide +kernel
theorem dX12_bare_15 : decode cX12_bare 15 = .ok (.ireturn, 1) := by decide +kernel
theorem dX12_bare_16 : decode cX12_bare 16 = .ok (.aload_n 0, 1) := by decide +kernel
theorem dX12_bare_17 : decode cX12_bare 17 = .ok (.iconst 1, 1) := by decide +kernel
theorem dX12_bare_18 : decode cX12_bare 18 = .ok (.invokevirtual 114, 3) := by decide +kernel
theorem dX12_bare_21 : decode cX12_bare 21 = .ok (.iconst 1, 1) := by decide +kernel
theorem dX12_bare_22 : decode cX12_bare 22 = .ok (.istore_n 2, 1) := by decide +kernel
theorem dX12_bare_23 : decode cX12_bare 23 = .ok (.iload_n 2, 1) := by decide +kernel
theorem dX12_bare_24 : decode cX12_bare 24 = .ok (.ldc 131, 2) := by decide +kernel
theorem dX12_bare_26 : decode cX12_bare 26 = .ok (.if_icmp .gt 21, 3) := by decide +kernel
theorem dX12_bare_29 : decode cX12_bare 29 = .ok (.aload_n 0, 1) := by decide +kernel
theorem dX12_bare_30 : decode cX12_bare 30 = .ok (.getfield 21, 3) := by decide +kernel
theorem dX12_bare_33 : decode cX12_bare 33 = .ok (.iload_n 2, 1) := by decide +kernel
theorem dX12_bare_34 : decode cX12_bare 34 = .ok (.iaload, 1) := by decide +kernel
theorem dX12_bare_35 : decode cX12_bare 35 = .ok (.iload_n 1, 1) := by decide +kernel
theorem dX12_bare_36 : decode cX12_bare 36 = .ok (.if_icmp .ne 5, 3) := by decide +kernel
theorem dX12_bare_39 : decode cX12_bare 39 = .ok (.iconst 0, 1) := by decide +kernel
theorem dX12_bare_40 : decode cX12_bare 40 = .ok (.ireturn, 1) := by decide +kernel
theorem dX12_bare_41 : decode cX12_bare 41 = .ok (.iinc 2 1, 3) := by decide +kernel
theorem dX12_bare_44 : decode cX12_bare 44 = .ok (.goto (-21), 3) := by decide +kernel
theorem dX12_bare_47 : decode cX12_bare 47 = .ok (.iconst 1, 1) := by decide +kernel
theorem dX12_bare_48 : decode cX12_bare 48 = .ok (.ireturn, 1) := by decide +kernel
