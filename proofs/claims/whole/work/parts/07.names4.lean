theorem dX8_mayBeOuter_67 : decode cX8_mayBeOuter 67 = .ok (.getfield 7, 3) := by decide +kernel
theorem dX8_mayBeOuter_70 : decode cX8_mayBeOuter 70 = .ok (.iload_n 1, 1) := by decide +kernel
theorem dX8_mayBeOuter_71 : decode cX8_mayBeOuter 71 = .ok (.iconst 1, 1) := by decide +kernel
theorem dX8_mayBeOuter_72 : decode cX8_mayBeOuter 72 = .ok (.iadd, 1) := by decide +kernel
theorem dX8_mayBeOuter_73 : decode cX8_mayBeOuter 73 = .ok (.iaload, 1) := by decide +kernel
theorem dX8_mayBeOuter_74 : decode cX8_mayBeOuter 74 = .ok (.if_icmp .lt 7, 3) := by decide +kernel
theorem dX8_mayBeOuter_77 : decode cX8_mayBeOuter 77 = .ok (.iconst 1, 1) := by decide +kernel
theorem dX8_mayBeOuter_78 : decode cX8_mayBeOuter 78 = .ok (.goto 4, 3) := by decide +kernel
theorem dX8_mayBeOuter_81 : decode cX8_mayBeOuter 81 = .ok (.iconst 0, 1) := by decide +kernel
theorem dX8_mayBeOuter_82 : decode cX8_mayBeOuter 82 = .ok (.ireturn, 1) := by decide +kernel
set_option maxRecDepth 20000 in
theorem ggX8_grow_X8_isRow : GoodIn wsX8_grow wsX8_isRow := goodIn_r _ [7, 8, 9, 10, 6, 11, 25, 26, 27, 28, 29, 30, 31, 32, 33, 34, 35, 36, 37, 38, 39, 40, 41, 42, 43, 44, 45, 46, 47, 48, 49, 50, 51, 52, 53, 54, 55, 56, 57, 58, 59, 60, 61, 62, 63, 64, 65, 66, 67, 68, 69, 70, 71] rfl (by decide +kernel)
set_option maxRecDepth 20000 in
theorem gX8_grow_X8_isRow : GoodIn wsX8_grow (wsV RX8 217 RX8 yX8_isRow wsX8_isRow) := goodIn_app (goodIn_r _ [3, 4, 5, 6] rfl (by decide +kernel)) ggX8_grow_X8_isRow
set_option maxRecDepth 20000 in
theorem ggX8_grow_X8_mayBeOuter : GoodIn wsX8_grow wsX8_mayBeOuter := goodIn_r _ [15, 16, 1, 8, 9, 10, 6, 11, 25, 26, 27, 28, 29, 30, 31, 32, 33, 34, 35, 36, 37, 38, 39, 40, 41, 42, 43, 44, 45, 46, 47, 48, 49, 50, 51, 52, 53, 54, 55, 56, 57, 58, 59, 60, 61, 62, 63, 64, 65, 66, 67, 68, 69, 70, 71] rfl (by decide +kernel)
set_option maxRecDepth 20000 in
theorem gX8_grow_X8_mayBeOuter : GoodIn wsX8_grow (wsV RX8 220 RX8 yX8_mayBeOuter wsX8_mayBeOuter) := goodIn_app (goodIn_r _ [12, 13, 14, 6] rfl (by decide +kernel)) ggX8_grow_X8_mayBeOuter
set_option maxRecDepth 20000 in
theorem ggX8_grow_X8_lay : GoodIn wsX8_grow wsX8_lay := goodIn_r _ [20, 2, 8, 16, 1, 21, 22, 23, 24, 25, 26, 27, 28, 29, 30, 31, 32, 33, 34, 35, 36, 37, 38, 39, 40, 41, 42, 43, 44, 45, 46, 47, 48, 49, 50, 51, 52, 53, 54, 55, 56, 57, 58, 59, 60, 61, 62, 63, 64, 65, 66, 67, 68, 69, 70, 71] rfl (by decide +kernel)
set_option maxRecDepth 20000 in
theorem gX8_grow_X8_lay : GoodIn wsX8_grow (wsV RX8 142 RX8 yX8_lay wsX8_lay) := goodIn_app (goodIn_r _ [17, 18, 19, 6] rfl (by decide +kernel)) ggX8_grow_X8_lay
theorem dX8_grow_0 : decode cX8_grow 0 = .ok (.aload_n 0, 1) := by decide +kernel
theorem dX8_grow_1 : decode cX8_grow 1 = .ok (.iload_n 1, 1) := by decide +kernel
theorem dX8_grow_2 : decode cX8_grow 2 = .ok (.invokevirtual 217, 3) := by decide +kernel
theorem dX8_grow_5 : decode cX8_grow 5 = .ok (.ifCond .ne 6, 3) := by decide +kernel
theorem dX8_grow_8 : decode cX8_grow 8 = .ok (.bipush (-101), 2) := by decide +kernel
theorem dX8_grow_10 : decode cX8_grow 10 = .ok (.ireturn, 1) := by decide +kernel
theorem dX8_grow_11 : decode cX8_grow 11 = .ok (.aload_n 0, 1) := by decide +kernel
theorem dX8_grow_12 : decode cX8_grow 12 = .ok (.getfield 7, 3) := by decide +kernel
theorem dX8_grow_15 : decode cX8_grow 15 = .ok (.iload_n 1, 1) := by decide +kernel
theorem dX8_grow_16 : decode cX8_grow 16 = .ok (.iaload, 1) := by decide +kernel
theorem dX8_grow_17 : decode cX8_grow 17 = .ok (.iload_n 2, 1) := by decide +kernel
theorem dX8_grow_18 : decode cX8_grow 18 = .ok (.ifCond .eq 7, 3) := by decide +kernel
theorem dX8_grow_21 : decode cX8_grow 21 = .ok (.iconst 1, 1) := by decide +kernel
theorem dX8_grow_22 : decode cX8_grow 22 = .ok (.goto 4, 3) := by decide +kernel
theorem dX8_grow_25 : decode cX8_grow 25 = .ok (.iconst (-1), 1) := by decide +kernel
theorem dX8_grow_26 : decode cX8_grow 26 = .ok (.iadd, 1) := by decide +kernel
theorem dX8_grow_27 : decode cX8_grow 27 = .ok (.istore_n 3, 1) := by decide +kernel
theorem dX8_grow_28 : decode cX8_grow 28 = .ok (.aload_n 0, 1) := by decide +kernel
theorem dX8_grow_29 : decode cX8_grow 29 = .ok (.iload_n 1, 1) := by decide +kernel
theorem dX8_grow_30 : decode cX8_grow 30 = .ok (.iload_n 3, 1) := by decide +kernel
theorem dX8_grow_31 : decode cX8_grow 31 = .ok (.invokevirtual 220, 3) := by decide +kernel
theorem dX8_grow_34 : decode cX8_grow 34 = .ok (.ifCond .ne 6, 3) := by decide +kernel
theorem dX8_grow_37 : decode cX8_grow 37 = .ok (.bipush (-103), 2) := by decide +kernel
theorem dX8_grow_39 : decode cX8_grow 39 = .ok (.ireturn, 1) := by decide +kernel
theorem dX8_grow_40 : decode cX8_grow 40 = .ok (.iload_n 2, 1) := by decide +kernel
theorem dX8_grow_41 : decode cX8_grow 41 = .ok (.ifCond .eq 15, 3) := by decide +kernel
theorem dX8_grow_44 : decode cX8_grow 44 = .ok (.aload_n 0, 1) := by decide +kernel
theorem dX8_grow_45 : decode cX8_grow 45 = .ok (.getfield 124, 3) := by decide +kernel
theorem dX8_grow_48 : decode cX8_grow 48 = .ok (.bipush 9, 2) := by decide +kernel
theorem dX8_grow_50 : decode cX8_grow 50 = .ok (.if_icmp .ne 6, 3) := by decide +kernel
theorem dX8_grow_53 : decode cX8_grow 53 = .ok (.bipush (-104), 2) := by decide +kernel
theorem dX8_grow_55 : decode cX8_grow 55 = .ok (.ireturn, 1) := by decide +kernel
theorem dX8_grow_56 : decode cX8_grow 56 = .ok (.aload_n 0, 1) := by decide +kernel
theorem dX8_grow_57 : decode cX8_grow 57 = .ok (.getfield 7, 3) := by decide +kernel
theorem dX8_grow_60 : decode cX8_grow 60 = .ok (.iload_n 1, 1) := by decide +kernel
theorem dX8_grow_61 : decode cX8_grow 61 = .ok (.iload_n 3, 1) := by decide +kernel
theorem dX8_grow_62 : decode cX8_grow 62 = .ok (.iastore, 1) := by decide +kernel
theorem dX8_grow_63 : decode cX8_grow 63 = .ok (.aload_n 0, 1) := by decide +kernel
theorem dX8_grow_64 : decode cX8_grow 64 = .ok (.invokevirtual 142, 3) := by decide +kernel
theorem dX8_grow_67 : decode cX8_grow 67 = .ok (.aload_n 0, 1) := by decide +kernel
theorem dX8_grow_68 : decode cX8_grow 68 = .ok (.getfield 124, 3) := by decide +kernel
theorem dX8_grow_71 : decode cX8_grow 71 = .ok (.ireturn, 1) := by decide +kernel
set_option maxRecDepth 20000 in
theorem ggX8_mayBeInner_X8_within : GoodIn wsX8_mayBeInner wsX8_within := goodIn_r _ [7] rfl (by decide +kernel)
set_option maxRecDepth 20000 in
theorem gX8_mayBeInner_X8_within : GoodIn wsX8_mayBeInner (va_wsS RX8 86 yX8_within wsX8_within) := goodIn_app (goodIn_r _ [4, 5, 6] rfl (by decide +kernel)) ggX8_mayBeInner_X8_within
theorem dX8_mayBeInner_0 : decode cX8_mayBeInner 0 = .ok (.iload_n 2, 1) := by decide +kernel
theorem dX8_mayBeInner_1 : decode cX8_mayBeInner 1 = .ok (.iconst 0, 1) := by decide +kernel
theorem dX8_mayBeInner_2 : decode cX8_mayBeInner 2 = .ok (.aload_n 0, 1) := by decide +kernel
theorem dX8_mayBeInner_3 : decode cX8_mayBeInner 3 = .ok (.getfield 7, 3) := by decide +kernel
theorem dX8_mayBeInner_6 : decode cX8_mayBeInner 6 = .ok (.iload_n 1, 1) := by decide +kernel
theorem dX8_mayBeInner_7 : decode cX8_mayBeInner 7 = .ok (.iaload, 1) := by decide +kernel
theorem dX8_mayBeInner_8 : decode cX8_mayBeInner 8 = .ok (.invokestatic 86, 3) := by decide +kernel
theorem dX8_mayBeInner_11 : decode cX8_mayBeInner 11 = .ok (.istore_n 3, 1) := by decide +kernel
theorem dX8_mayBeInner_12 : decode cX8_mayBeInner 12 = .ok (.iload_n 3, 1) := by decide +kernel
theorem dX8_mayBeInner_13 : decode cX8_mayBeInner 13 = .ok (.ifCond .eq 23, 3) := by decide +kernel
theorem dX8_mayBeInner_16 : decode cX8_mayBeInner 16 = .ok (.iload_n 1, 1) := by decide +kernel
theorem dX8_mayBeInner_17 : decode cX8_mayBeInner 17 = .ok (.ifCond .eq 15, 3) := by decide +kernel
theorem dX8_mayBeInner_20 : decode cX8_mayBeInner 20 = .ok (.iload_n 2, 1) := by decide +kernel
theorem dX8_mayBeInner_21 : decode cX8_mayBeInner 21 = .ok (.aload_n 0, 1) := by decide +kernel
theorem dX8_mayBeInner_22 : decode cX8_mayBeInner 22 = .ok (.getfield 13, 3) := by decide +kernel
theorem dX8_mayBeInner_25 : decode cX8_mayBeInner 25 = .ok (.iload_n 1, 1) := by decide +kernel
theorem dX8_mayBeInner_26 : decode cX8_mayBeInner 26 = .ok (.iconst 1, 1) := by decide +kernel
theorem dX8_mayBeInner_27 : decode cX8_mayBeInner 27 = .ok (.isub, 1) := by decide +kernel
theorem dX8_mayBeInner_28 : decode cX8_mayBeInner 28 = .ok (.iaload, 1) := by decide +kernel
theorem dX8_mayBeInner_29 : decode cX8_mayBeInner 29 = .ok (.if_icmp .gt 7, 3) := by decide +kernel
theorem dX8_mayBeInner_32 : decode cX8_mayBeInner 32 = .ok (.iconst 1, 1) := by decide +kernel
theorem dX8_mayBeInner_33 : decode cX8_mayBeInner 33 = .ok (.goto 4, 3) := by decide +kernel
theorem dX8_mayBeInner_36 : decode cX8_mayBeInner 36 = .ok (.iconst 0, 1) := by decide +kernel
theorem dX8_mayBeInner_37 : decode cX8_mayBeInner 37 = .ok (.istore_n 3, 1) := by decide +kernel
theorem dX8_mayBeInner_38 : decode cX8_mayBeInner 38 = .ok (.iload_n 3, 1) := by decide +kernel
theorem dX8_mayBeInner_39 : decode cX8_mayBeInner 39 = .ok (.ifCond .eq 29, 3) := by decide +kernel
theorem dX8_mayBeInner_42 : decode cX8_mayBeInner 42 = .ok (.iload_n 1, 1) := by decide +kernel
theorem dX8_mayBeInner_43 : decode cX8_mayBeInner 43 = .ok (.aload_n 0, 1) := by decide +kernel
theorem dX8_mayBeInner_44 : decode cX8_mayBeInner 44 = .ok (.getfield 127, 3) := by decide +kernel
theorem dX8_mayBeInner_47 : decode cX8_mayBeInner 47 = .ok (.iconst 1, 1) := by decide +kernel
theorem dX8_mayBeInner_48 : decode cX8_mayBeInner 48 = .ok (.isub, 1) := by decide +kernel
theorem dX8_mayBeInner_49 : decode cX8_mayBeInner 49 = .ok (.if_icmp .eq 15, 3) := by decide +kernel
theorem dX8_mayBeInner_52 : decode cX8_mayBeInner 52 = .ok (.iload_n 2, 1) := by decide +kernel
theorem dX8_mayBeInner_53 : decode cX8_mayBeInner 53 = .ok (.aload_n 0, 1) := by decide +kernel
theorem dX8_mayBeInner_54 : decode cX8_mayBeInner 54 = .ok (.getfield 13, 3) := by decide +kernel
theorem dX8_mayBeInner_57 : decode cX8_mayBeInner 57 = .ok (.iload_n 1, 1) := by decide +kernel
theorem dX8_mayBeInner_58 : decode cX8_mayBeInner 58 = .ok (.iconst 1, 1) := by decide +kernel
theorem dX8_mayBeInner_59 : decode cX8_mayBeInner 59 = .ok (.iadd, 1) := by decide +kernel
theorem dX8_mayBeInner_60 : decode cX8_mayBeInner 60 = .ok (.iaload, 1) := by decide +kernel
theorem dX8_mayBeInner_61 : decode cX8_mayBeInner 61 = .ok (.if_icmp .lt 7, 3) := by decide +kernel
theorem dX8_mayBeInner_64 : decode cX8_mayBeInner 64 = .ok (.iconst 1, 1) := by decide +kernel
theorem dX8_mayBeInner_65 : decode cX8_mayBeInner 65 = .ok (.goto 4, 3) := by decide +kernel
theorem dX8_mayBeInner_68 : decode cX8_mayBeInner 68 = .ok (.iconst 0, 1) := by decide +kernel
theorem dX8_mayBeInner_69 : decode cX8_mayBeInner 69 = .ok (.ireturn, 1) := by decide +kernel
set_option maxRecDepth 20000 in
theorem ggX8_cut_X8_isRow : GoodIn wsX8_cut wsX8_isRow := goodIn_r _ [7, 8, 9, 10, 6, 11, 25, 26, 27, 28, 29, 30, 31, 32, 33, 34, 35, 36, 37, 38, 39, 40, 41, 42, 43, 44, 45, 46, 47, 48, 49, 50, 51, 52, 53, 54, 55, 56, 57, 58, 59, 60, 61, 62, 63, 64, 65, 66, 67, 68, 69, 70, 71] rfl (by decide +kernel)
set_option maxRecDepth 20000 in
theorem gX8_cut_X8_isRow : GoodIn wsX8_cut (wsV RX8 217 RX8 yX8_isRow wsX8_isRow) := goodIn_app (goodIn_r _ [3, 4, 5, 6] rfl (by decide +kernel)) ggX8_cut_X8_isRow
set_option maxRecDepth 20000 in
theorem ggX8_cut_X8_mayBeInner : GoodIn wsX8_cut wsX8_mayBeInner := goodIn_r _ [15, 16, 2, 8, 9, 10, 6, 11, 25, 26, 27, 28, 29, 30, 31, 32, 33, 34, 35, 36, 37, 38, 39, 40, 41, 42, 43, 44, 45, 46, 47, 48, 49, 50, 51, 52, 53, 54, 55, 56, 57, 58, 59, 60, 61, 62, 63, 64, 65, 66, 67, 68, 69, 70, 71] rfl (by decide +kernel)
set_option maxRecDepth 20000 in
theorem gX8_cut_X8_mayBeInner : GoodIn wsX8_cut (wsV RX8 223 RX8 yX8_mayBeInner wsX8_mayBeInner) := goodIn_app (goodIn_r _ [12, 13, 14, 6] rfl (by decide +kernel)) ggX8_cut_X8_mayBeInner
set_option maxRecDepth 20000 in
theorem ggX8_cut_X8_lay : GoodIn wsX8_cut wsX8_lay := goodIn_r _ [20, 1, 8, 2, 16, 21, 22, 23, 24, 25, 26, 27, 28, 29, 30, 31, 32, 33, 34, 35, 36, 37, 38, 39, 40, 41, 42, 43, 44, 45, 46, 47, 48, 49, 50, 51, 52, 53, 54, 55, 56, 57, 58, 59, 60, 61, 62, 63, 64, 65, 66, 67, 68, 69, 70, 71] rfl (by decide +kernel)
set_option maxRecDepth 20000 in
theorem gX8_cut_X8_lay : GoodIn wsX8_cut (wsV RX8 142 RX8 yX8_lay wsX8_lay) := goodIn_app (goodIn_r _ [17, 18, 19, 6] rfl (by decide +kernel)) ggX8_cut_X8_lay
theorem dX8_cut_0 : decode cX8_cut 0 = .ok (.aload_n 0, 1) := by decide +kernel
theorem dX8_cut_1 : decode cX8_cut 1 = .ok (.iload_n 1, 1) := by decide +kernel
theorem dX8_cut_2 : decode cX8_cut 2 = .ok (.invokevirtual 217, 3) := by decide +kernel
theorem dX8_cut_5 : decode cX8_cut 5 = .ok (.ifCond .ne 6, 3) := by decide +kernel
theorem dX8_cut_8 : decode cX8_cut 8 = .ok (.bipush (-101), 2) := by decide +kernel
theorem dX8_cut_10 : decode cX8_cut 10 = .ok (.ireturn, 1) := by decide +kernel
theorem dX8_cut_11 : decode cX8_cut 11 = .ok (.aload_n 0, 1) := by decide +kernel
theorem dX8_cut_12 : decode cX8_cut 12 = .ok (.iload_n 1, 1) := by decide +kernel
theorem dX8_cut_13 : decode cX8_cut 13 = .ok (.iload_n 2, 1) := by decide +kernel
theorem dX8_cut_14 : decode cX8_cut 14 = .ok (.invokevirtual 223, 3) := by decide +kernel
theorem dX8_cut_17 : decode cX8_cut 17 = .ok (.ifCond .ne 6, 3) := by decide +kernel
theorem dX8_cut_20 : decode cX8_cut 20 = .ok (.bipush (-103), 2) := by decide +kernel
theorem dX8_cut_22 : decode cX8_cut 22 = .ok (.ireturn, 1) := by decide +kernel
theorem dX8_cut_23 : decode cX8_cut 23 = .ok (.aload_n 0, 1) := by decide +kernel
theorem dX8_cut_24 : decode cX8_cut 24 = .ok (.getfield 124, 3) := by decide +kernel
theorem dX8_cut_27 : decode cX8_cut 27 = .ok (.aload_n 0, 1) := by decide +kernel
theorem dX8_cut_28 : decode cX8_cut 28 = .ok (.getfield 13, 3) := by decide +kernel
theorem dX8_cut_31 : decode cX8_cut 31 = .ok (.iload_n 1, 1) := by decide +kernel
theorem dX8_cut_32 : decode cX8_cut 32 = .ok (.iaload, 1) := by decide +kernel
theorem dX8_cut_33 : decode cX8_cut 33 = .ok (.iadd, 1) := by decide +kernel
theorem dX8_cut_34 : decode cX8_cut 34 = .ok (.iload_n 2, 1) := by decide +kernel
theorem dX8_cut_35 : decode cX8_cut 35 = .ok (.isub, 1) := by decide +kernel
theorem dX8_cut_36 : decode cX8_cut 36 = .ok (.bipush 9, 2) := by decide +kernel
theorem dX8_cut_38 : decode cX8_cut 38 = .ok (.if_icmp .le 6, 3) := by decide +kernel
theorem dX8_cut_41 : decode cX8_cut 41 = .ok (.bipush (-104), 2) := by decide +kernel
theorem dX8_cut_43 : decode cX8_cut 43 = .ok (.ireturn, 1) := by decide +kernel
theorem dX8_cut_44 : decode cX8_cut 44 = .ok (.aload_n 0, 1) := by decide +kernel
theorem dX8_cut_45 : decode cX8_cut 45 = .ok (.getfield 13, 3) := by decide +kernel
theorem dX8_cut_48 : decode cX8_cut 48 = .ok (.iload_n 1, 1) := by decide +kernel
theorem dX8_cut_49 : decode cX8_cut 49 = .ok (.iaload, 1) := by decide +kernel
theorem dX8_cut_50 : decode cX8_cut 50 = .ok (.istore_n 3, 1) := by decide +kernel
theorem dX8_cut_51 : decode cX8_cut 51 = .ok (.aload_n 0, 1) := by decide +kernel
theorem dX8_cut_52 : decode cX8_cut 52 = .ok (.getfield 13, 3) := by decide +kernel
theorem dX8_cut_55 : decode cX8_cut 55 = .ok (.iload_n 1, 1) := by decide +kernel
theorem dX8_cut_56 : decode cX8_cut 56 = .ok (.iload_n 2, 1) := by decide +kernel
theorem dX8_cut_57 : decode cX8_cut 57 = .ok (.iastore, 1) := by decide +kernel
theorem dX8_cut_58 : decode cX8_cut 58 = .ok (.aload_n 0, 1) := by decide +kernel
theorem dX8_cut_59 : decode cX8_cut 59 = .ok (.invokevirtual 142, 3) := by decide +kernel
theorem dX8_cut_62 : decode cX8_cut 62 = .ok (.iload_n 3, 1) := by decide +kernel
theorem dX8_cut_63 : decode cX8_cut 63 = .ok (.ireturn, 1) := by decide +kernel
set_option maxRecDepth 20000 in
theorem ggX8_give_X8_within : GoodIn wsX8_give wsX8_within := goodIn_r _ [5] rfl (by decide +kernel)
set_option maxRecDepth 20000 in
theorem gX8_give_X8_within : GoodIn wsX8_give (va_wsS RX8 86 yX8_within wsX8_within) := goodIn_app (goodIn_r _ [2, 3, 4] rfl (by decide +kernel)) ggX8_give_X8_within
set_option maxRecDepth 20000 in
theorem ggX8_give_X8_isBoard : GoodIn wsX8_give wsX8_isBoard := goodIn_r _ [9, 10, 22, 23, 24, 25, 26, 27, 28, 29, 30, 31, 32, 33, 34, 35, 36, 37, 38, 39, 40, 41, 42, 43, 44, 45, 46, 47, 48, 49, 50, 51, 52, 53, 54, 55, 56, 57, 58, 59, 60, 61, 62, 63, 64, 65, 66, 67, 68] rfl (by decide +kernel)
set_option maxRecDepth 20000 in
theorem gX8_give_X8_isBoard : GoodIn wsX8_give (wsV RX8 151 RX8 yX8_isBoard wsX8_isBoard) := goodIn_app (goodIn_r _ [6, 7, 8, 4] rfl (by decide +kernel)) ggX8_give_X8_isBoard
set_option maxRecDepth 20000 in
theorem ggX8_give_X8_lay : GoodIn wsX8_give wsX8_lay := goodIn_r _ [14, 15, 10, 16, 17, 18, 19, 20, 21, 22, 23, 24, 25, 26, 27, 28, 29, 30, 31, 32, 33, 34, 35, 36, 37, 38, 39, 40, 41, 42, 43, 44, 45, 46, 47, 48, 49, 50, 51, 52, 53, 54, 55, 56, 57, 58, 59, 60, 61, 62, 63, 64, 65, 66, 67, 68] rfl (by decide +kernel)
set_option maxRecDepth 20000 in
theorem gX8_give_X8_lay : GoodIn wsX8_give (wsV RX8 142 RX8 yX8_lay wsX8_lay) := goodIn_app (goodIn_r _ [11, 12, 13, 4] rfl (by decide +kernel)) ggX8_give_X8_lay
theorem dX8_give_0 : decode cX8_give 0 = .ok (.iload_n 1, 1) := by decide +kernel
theorem dX8_give_1 : decode cX8_give 1 = .ok (.iconst 1, 1) := by decide +kernel
theorem dX8_give_2 : decode cX8_give 2 = .ok (.iconst 4, 1) := by decide +kernel
theorem dX8_give_3 : decode cX8_give 3 = .ok (.invokestatic 86, 3) := by decide +kernel
theorem dX8_give_6 : decode cX8_give 6 = .ok (.ifCond .eq 12, 3) := by decide +kernel
theorem dX8_give_9 : decode cX8_give 9 = .ok (.iload_n 2, 1) := by decide +kernel
theorem dX8_give_10 : decode cX8_give 10 = .ok (.iconst 1, 1) := by decide +kernel
theorem dX8_give_11 : decode cX8_give 11 = .ok (.iconst 4, 1) := by decide +kernel
theorem dX8_give_12 : decode cX8_give 12 = .ok (.invokestatic 86, 3) := by decide +kernel
theorem dX8_give_15 : decode cX8_give 15 = .ok (.ifCond .ne 6, 3) := by decide +kernel
theorem dX8_give_18 : decode cX8_give 18 = .ok (.bipush (-102), 2) := by decide +kernel
theorem dX8_give_20 : decode cX8_give 20 = .ok (.ireturn, 1) := by decide +kernel
theorem dX8_give_21 : decode cX8_give 21 = .ok (.aload_n 0, 1) := by decide +kernel
theorem dX8_give_22 : decode cX8_give 22 = .ok (.invokevirtual 151, 3) := by decide +kernel
theorem dX8_give_25 : decode cX8_give 25 = .ok (.ifCond .eq 14, 3) := by decide +kernel
theorem dX8_give_28 : decode cX8_give 28 = .ok (.aload_n 0, 1) := by decide +kernel
theorem dX8_give_29 : decode cX8_give 29 = .ok (.getfield 16, 3) := by decide +kernel
theorem dX8_give_32 : decode cX8_give 32 = .ok (.iload_n 1, 1) := by decide +kernel
theorem dX8_give_33 : decode cX8_give 33 = .ok (.iconst 1, 1) := by decide +kernel
theorem dX8_give_34 : decode cX8_give 34 = .ok (.isub, 1) := by decide +kernel
theorem dX8_give_35 : decode cX8_give 35 = .ok (.iaload, 1) := by decide +kernel
theorem dX8_give_36 : decode cX8_give 36 = .ok (.ifCond .ne 6, 3) := by decide +kernel
theorem dX8_give_39 : decode cX8_give 39 = .ok (.bipush (-103), 2) := by decide +kernel
theorem dX8_give_41 : decode cX8_give 41 = .ok (.ireturn, 1) := by decide +kernel
theorem dX8_give_42 : decode cX8_give 42 = .ok (.aload_n 0, 1) := by decide +kernel
theorem dX8_give_43 : decode cX8_give 43 = .ok (.getfield 16, 3) := by decide +kernel
theorem dX8_give_46 : decode cX8_give 46 = .ok (.iload_n 2, 1) := by decide +kernel
theorem dX8_give_47 : decode cX8_give 47 = .ok (.iconst 1, 1) := by decide +kernel
theorem dX8_give_48 : decode cX8_give 48 = .ok (.isub, 1) := by decide +kernel
theorem dX8_give_49 : decode cX8_give 49 = .ok (.iaload, 1) := by decide +kernel
theorem dX8_give_50 : decode cX8_give 50 = .ok (.bipush 9, 2) := by decide +kernel
theorem dX8_give_52 : decode cX8_give 52 = .ok (.if_icmp .ne 6, 3) := by decide +kernel
theorem dX8_give_55 : decode cX8_give 55 = .ok (.bipush (-104), 2) := by decide +kernel
theorem dX8_give_57 : decode cX8_give 57 = .ok (.ireturn, 1) := by decide +kernel
theorem dX8_give_58 : decode cX8_give 58 = .ok (.aload_n 0, 1) := by decide +kernel
theorem dX8_give_59 : decode cX8_give 59 = .ok (.getfield 16, 3) := by decide +kernel
theorem dX8_give_62 : decode cX8_give 62 = .ok (.iload_n 1, 1) := by decide +kernel
theorem dX8_give_63 : decode cX8_give 63 = .ok (.iconst 1, 1) := by decide +kernel
theorem dX8_give_64 : decode cX8_give 64 = .ok (.isub, 1) := by decide +kernel
theorem dX8_give_65 : decode cX8_give 65 = .ok (.dup2, 1) := by decide +kernel
theorem dX8_give_66 : decode cX8_give 66 = .ok (.iaload, 1) := by decide +kernel
theorem dX8_give_67 : decode cX8_give 67 = .ok (.iconst 1, 1) := by decide +kernel
theorem dX8_give_68 : decode cX8_give 68 = .ok (.isub, 1) := by decide +kernel
theorem dX8_give_69 : decode cX8_give 69 = .ok (.iastore, 1) := by decide +kernel
theorem dX8_give_70 : decode cX8_give 70 = .ok (.aload_n 0, 1) := by decide +kernel
theorem dX8_give_71 : decode cX8_give 71 = .ok (.getfield 16, 3) := by decide +kernel
theorem dX8_give_74 : decode cX8_give 74 = .ok (.iload_n 2, 1) := by decide +kernel
theorem dX8_give_75 : decode cX8_give 75 = .ok (.iconst 1, 1) := by decide +kernel
theorem dX8_give_76 : decode cX8_give 76 = .ok (.isub, 1) := by decide +kernel
theorem dX8_give_77 : decode cX8_give 77 = .ok (.dup2, 1) := by decide +kernel
theorem dX8_give_78 : decode cX8_give 78 = .ok (.iaload, 1) := by decide +kernel
theorem dX8_give_79 : decode cX8_give 79 = .ok (.iconst 1, 1) := by decide +kernel
theorem dX8_give_80 : decode cX8_give 80 = .ok (.iadd, 1) := by decide +kernel
theorem dX8_give_81 : decode cX8_give 81 = .ok (.iastore, 1) := by decide +kernel
theorem dX8_give_82 : decode cX8_give 82 = .ok (.aload_n 0, 1) := by decide +kernel
theorem dX8_give_83 : decode cX8_give 83 = .ok (.invokevirtual 142, 3) := by decide +kernel
theorem dX8_give_86 : decode cX8_give 86 = .ok (.aload_n 0, 1) := by decide +kernel
theorem dX8_give_87 : decode cX8_give 87 = .ok (.getfield 16, 3) := by decide +kernel
theorem dX8_give_90 : decode cX8_give 90 = .ok (.iload_n 2, 1) := by decide +kernel
theorem dX8_give_91 : decode cX8_give 91 = .ok (.iconst 1, 1) := by decide +kernel
theorem dX8_give_92 : decode cX8_give 92 = .ok (.isub, 1) := by decide +kernel
theorem dX8_give_93 : decode cX8_give 93 = .ok (.iaload, 1) := by decide +kernel
theorem dX8_give_94 : decode cX8_give 94 = .ok (.ireturn, 1) := by decide +kernel
set_option maxRecDepth 20000 in
theorem ggX8_way_X8_within : GoodIn wsX8_way wsX8_within := goodIn_r _ [6] rfl (by decide +kernel)
set_option maxRecDepth 20000 in
theorem gX8_way_X8_within : GoodIn wsX8_way (va_wsS RX8 86 yX8_within wsX8_within) := goodIn_app (goodIn_r _ [3, 4, 5] rfl (by decide +kernel)) ggX8_way_X8_within
set_option maxRecDepth 20000 in
theorem ggX8_way_X8_find : GoodIn wsX8_way wsX8_find := goodIn_r _ [10, 1, 11, 12, 13, 5, 14, 15, 16, 17, 18, 19, 20, 21, 22, 23, 24, 25, 26, 27, 28, 29, 30, 31, 2, 32, 33, 34, 35, 36, 37, 38, 39, 40, 41, 42, 43, 44, 45, 46, 47, 48, 49, 50, 51, 52, 53, 54, 55, 56, 57, 58, 59, 60, 61, 62, 63, 64, 65, 66, 67, 3, 4, 6, 68, 69, 70, 71, 72, 73, 74, 75, 76, 77, 78, 79, 80, 81, 82, 83, 84, 85, 86, 87, 88, 89, 90, 91, 92, 93, 94, 95, 96, 97, 98, 99, 100, 101, 102, 103, 104, 105, 106, 107, 108, 109, 110, 111, 112, 113, 114] rfl (by decide +kernel)
set_option maxRecDepth 20000 in
theorem gX8_way_X8_find : GoodIn wsX8_way (wsV RX8 226 RX8 yX8_find wsX8_find) := goodIn_app (goodIn_r _ [7, 8, 9, 5] rfl (by decide +kernel)) ggX8_way_X8_find
theorem dX8_way_0 : decode cX8_way 0 = .ok (.iload_n 2, 1) := by decide +kernel
theorem dX8_way_1 : decode cX8_way 1 = .ok (.iconst 0, 1) := by decide +kernel
theorem dX8_way_2 : decode cX8_way 2 = .ok (.aload_n 0, 1) := by decide +kernel
theorem dX8_way_3 : decode cX8_way 3 = .ok (.getfield 124, 3) := by decide +kernel
theorem dX8_way_6 : decode cX8_way 6 = .ok (.iconst 1, 1) := by decide +kernel
theorem dX8_way_7 : decode cX8_way 7 = .ok (.isub, 1) := by decide +kernel
theorem dX8_way_8 : decode cX8_way 8 = .ok (.invokestatic 86, 3) := by decide +kernel
theorem dX8_way_11 : decode cX8_way 11 = .ok (.ifCond .eq 20, 3) := by decide +kernel
theorem dX8_way_14 : decode cX8_way 14 = .ok (.aload_n 0, 1) := by decide +kernel
theorem dX8_way_15 : decode cX8_way 15 = .ok (.iload_n 1, 1) := by decide +kernel
theorem dX8_way_16 : decode cX8_way 16 = .ok (.invokevirtual 226, 3) := by decide +kernel
theorem dX8_way_19 : decode cX8_way 19 = .ok (.ifCond .eq 12, 3) := by decide +kernel
theorem dX8_way_22 : decode cX8_way 22 = .ok (.aload_n 0, 1) := by decide +kernel
theorem dX8_way_23 : decode cX8_way 23 = .ok (.getfield 44, 3) := by decide +kernel
theorem dX8_way_26 : decode cX8_way 26 = .ok (.iload_n 2, 1) := by decide +kernel
theorem dX8_way_27 : decode cX8_way 27 = .ok (.iaload, 1) := by decide +kernel
theorem dX8_way_28 : decode cX8_way 28 = .ok (.goto 5, 3) := by decide +kernel
theorem dX8_way_31 : decode cX8_way 31 = .ok (.bipush (-101), 2) := by decide +kernel
theorem dX8_way_33 : decode cX8_way 33 = .ok (.ireturn, 1) := by decide +kernel
theorem dX8_hiveNow_0 : decode cX8_hiveNow 0 = .ok (.iconst 0, 1) := by decide +kernel
theorem dX8_hiveNow_1 : decode cX8_hiveNow 1 = .ok (.istore_n 3, 1) := by decide +kernel
theorem dX8_hiveNow_2 : decode cX8_hiveNow 2 = .ok (.iconst 0, 1) := by decide +kernel
theorem dX8_hiveNow_3 : decode cX8_hiveNow 3 = .ok (.istore 4, 2) := by decide +kernel
theorem dX8_hiveNow_5 : decode cX8_hiveNow 5 = .ok (.iload 4, 2) := by decide +kernel
theorem dX8_hiveNow_7 : decode cX8_hiveNow 7 = .ok (.iload_n 1, 1) := by decide +kernel
theorem dX8_hiveNow_8 : decode cX8_hiveNow 8 = .ok (.if_icmp .ge 19, 3) := by decide +kernel
theorem dX8_hiveNow_11 : decode cX8_hiveNow 11 = .ok (.iload_n 3, 1) := by decide +kernel
theorem dX8_hiveNow_12 : decode cX8_hiveNow 12 = .ok (.aload_n 0, 1) := by decide +kernel
theorem dX8_hiveNow_13 : decode cX8_hiveNow 13 = .ok (.getfield 13, 3) := by decide +kernel
theorem dX8_hiveNow_16 : decode cX8_hiveNow 16 = .ok (.iload 4, 2) := by decide +kernel
theorem dX8_hiveNow_18 : decode cX8_hiveNow 18 = .ok (.iaload, 1) := by decide +kernel
theorem dX8_hiveNow_19 : decode cX8_hiveNow 19 = .ok (.iadd, 1) := by decide +kernel
theorem dX8_hiveNow_20 : decode cX8_hiveNow 20 = .ok (.istore_n 3, 1) := by decide +kernel
theorem dX8_hiveNow_21 : decode cX8_hiveNow 21 = .ok (.iinc 4 1, 3) := by decide +kernel
theorem dX8_hiveNow_24 : decode cX8_hiveNow 24 = .ok (.goto (-19), 3) := by decide +kernel
theorem dX8_hiveNow_27 : decode cX8_hiveNow 27 = .ok (.iconst 0, 1) := by decide +kernel
theorem dX8_hiveNow_28 : decode cX8_hiveNow 28 = .ok (.istore 4, 2) := by decide +kernel
theorem dX8_hiveNow_30 : decode cX8_hiveNow 30 = .ok (.iload 4, 2) := by decide +kernel
theorem dX8_hiveNow_32 : decode cX8_hiveNow 32 = .ok (.aload_n 0, 1) := by decide +kernel
theorem dX8_hiveNow_33 : decode cX8_hiveNow 33 = .ok (.getfield 124, 3) := by decide +kernel
theorem dX8_hiveNow_36 : decode cX8_hiveNow 36 = .ok (.if_icmp .ge 39, 3) := by decide +kernel
theorem dX8_hiveNow_39 : decode cX8_hiveNow 39 = .ok (.iload_n 3, 1) := by decide +kernel
theorem dX8_hiveNow_40 : decode cX8_hiveNow 40 = .ok (.aload_n 0, 1) := by decide +kernel
theorem dX8_hiveNow_41 : decode cX8_hiveNow 41 = .ok (.getfield 19, 3) := by decide +kernel
theorem dX8_hiveNow_44 : decode cX8_hiveNow 44 = .ok (.iload 4, 2) := by decide +kernel
theorem dX8_hiveNow_46 : decode cX8_hiveNow 46 = .ok (.iaload, 1) := by decide +kernel
theorem dX8_hiveNow_47 : decode cX8_hiveNow 47 = .ok (.iload_n 1, 1) := by decide +kernel
theorem dX8_hiveNow_48 : decode cX8_hiveNow 48 = .ok (.if_icmp .ge 18, 3) := by decide +kernel
theorem dX8_hiveNow_51 : decode cX8_hiveNow 51 = .ok (.aload_n 0, 1) := by decide +kernel
theorem dX8_hiveNow_52 : decode cX8_hiveNow 52 = .ok (.getfield 44, 3) := by decide +kernel
theorem dX8_hiveNow_55 : decode cX8_hiveNow 55 = .ok (.iload 4, 2) := by decide +kernel
theorem dX8_hiveNow_57 : decode cX8_hiveNow 57 = .ok (.iaload, 1) := by decide +kernel
theorem dX8_hiveNow_58 : decode cX8_hiveNow 58 = .ok (.iload_n 2, 1) := by decide +kernel
theorem dX8_hiveNow_59 : decode cX8_hiveNow 59 = .ok (.if_icmp .gt 7, 3) := by decide +kernel
theorem dX8_hiveNow_62 : decode cX8_hiveNow 62 = .ok (.iconst 1, 1) := by decide +kernel
theorem dX8_hiveNow_63 : decode cX8_hiveNow 63 = .ok (.goto 4, 3) := by decide +kernel
theorem dX8_hiveNow_66 : decode cX8_hiveNow 66 = .ok (.iconst 0, 1) := by decide +kernel
theorem dX8_hiveNow_67 : decode cX8_hiveNow 67 = .ok (.iadd, 1) := by decide +kernel
theorem dX8_hiveNow_68 : decode cX8_hiveNow 68 = .ok (.istore_n 3, 1) := by decide +kernel
theorem dX8_hiveNow_69 : decode cX8_hiveNow 69 = .ok (.iinc 4 1, 3) := by decide +kernel
theorem dX8_hiveNow_72 : decode cX8_hiveNow 72 = .ok (.goto (-42), 3) := by decide +kernel
theorem dX8_hiveNow_75 : decode cX8_hiveNow 75 = .ok (.iload_n 3, 1) := by decide +kernel
theorem dX8_hiveNow_76 : decode cX8_hiveNow 76 = .ok (.ireturn, 1) := by decide +kernel
set_option maxRecDepth 20000 in
theorem ggX8_hive_X8_find : GoodIn wsX8_hive wsX8_find := goodIn_r _ [6, 7, 8, 9, 10, 5, 11, 1, 12, 13, 14, 15, 16, 17, 18, 19, 20, 21, 22, 23, 24, 25, 26, 27, 28, 29, 30, 31, 32, 33, 34, 35, 36, 37, 38, 39, 40, 41, 42, 43, 44, 45, 46, 47, 48, 49, 50, 51, 52, 53, 54, 55, 56, 57, 58, 59, 60, 61, 62, 63, 64, 65, 66, 67, 73, 74, 75, 76, 77, 78, 79, 80, 81, 82, 83, 84, 85, 86, 87, 88, 89, 90, 91, 92, 93, 94, 95, 96, 97, 98, 99, 100, 101, 102, 103, 104, 105, 106, 107, 108, 109, 110, 111, 112, 113, 114, 115, 116, 117, 118, 119] rfl (by decide +kernel)
set_option maxRecDepth 20000 in
theorem gX8_hive_X8_find : GoodIn wsX8_hive (wsV RX8 226 RX8 yX8_find wsX8_find) := goodIn_app (goodIn_r _ [2, 3, 4, 5] rfl (by decide +kernel)) ggX8_hive_X8_find
set_option maxRecDepth 20000 in
theorem ggX8_hive_X8_within : GoodIn wsX8_hive wsX8_within := goodIn_r _ [67] rfl (by decide +kernel)
set_option maxRecDepth 20000 in
theorem gX8_hive_X8_within : GoodIn wsX8_hive (va_wsS RX8 86 yX8_within wsX8_within) := goodIn_app (goodIn_r _ [65, 66, 5] rfl (by decide +kernel)) ggX8_hive_X8_within
set_option maxRecDepth 20000 in
theorem ggX8_hive_X8_hiveNow : GoodIn wsX8_hive wsX8_hiveNow := goodIn_r _ [71, 72, 7, 47, 28, 73, 74, 75, 76, 77, 78, 79, 80, 81, 82, 83, 84, 85, 86, 87, 88, 89, 90, 91, 92, 93, 94, 95, 96, 97, 98, 99, 100, 101, 102, 103, 104, 105, 106, 107, 108, 109, 110, 111, 112, 113, 114, 115, 116, 117, 118, 119] rfl (by decide +kernel)
set_option maxRecDepth 20000 in
theorem gX8_hive_X8_hiveNow : GoodIn wsX8_hive (wsV RX8 229 RX8 yX8_hiveNow wsX8_hiveNow) := goodIn_app (goodIn_r _ [68, 69, 70, 5] rfl (by decide +kernel)) ggX8_hive_X8_hiveNow
theorem dX8_hive_0 : decode cX8_hive 0 = .ok (.aload_n 0, 1) := by decide +kernel
theorem dX8_hive_1 : decode cX8_hive 1 = .ok (.iload_n 1, 1) := by decide +kernel
theorem dX8_hive_2 : decode cX8_hive 2 = .ok (.invokevirtual 226, 3) := by decide +kernel
theorem dX8_hive_5 : decode cX8_hive 5 = .ok (.ifCond .ne 6, 3) := by decide +kernel
theorem dX8_hive_8 : decode cX8_hive 8 = .ok (.bipush (-101), 2) := by decide +kernel
theorem dX8_hive_10 : decode cX8_hive 10 = .ok (.ireturn, 1) := by decide +kernel
theorem dX8_hive_11 : decode cX8_hive 11 = .ok (.iload_n 2, 1) := by decide +kernel
theorem dX8_hive_12 : decode cX8_hive 12 = .ok (.iconst 0, 1) := by decide +kernel
theorem dX8_hive_13 : decode cX8_hive 13 = .ok (.aload_n 0, 1) := by decide +kernel
theorem dX8_hive_14 : decode cX8_hive 14 = .ok (.getfield 127, 3) := by decide +kernel
theorem dX8_hive_17 : decode cX8_hive 17 = .ok (.invokestatic 86, 3) := by decide +kernel
theorem dX8_hive_20 : decode cX8_hive 20 = .ok (.ifCond .eq 21, 3) := by decide +kernel
theorem dX8_hive_23 : decode cX8_hive 23 = .ok (.iload_n 3, 1) := by decide +kernel
theorem dX8_hive_24 : decode cX8_hive 24 = .ok (.iconst 0, 1) := by decide +kernel
theorem dX8_hive_25 : decode cX8_hive 25 = .ok (.iconst 4, 1) := by decide +kernel
theorem dX8_hive_26 : decode cX8_hive 26 = .ok (.invokestatic 86, 3) := by decide +kernel
theorem dX8_hive_29 : decode cX8_hive 29 = .ok (.ifCond .eq 12, 3) := by decide +kernel
theorem dX8_hive_32 : decode cX8_hive 32 = .ok (.aload_n 0, 1) := by decide +kernel
theorem dX8_hive_33 : decode cX8_hive 33 = .ok (.iload_n 2, 1) := by decide +kernel
theorem dX8_hive_34 : decode cX8_hive 34 = .ok (.iload_n 3, 1) := by decide +kernel
theorem dX8_hive_35 : decode cX8_hive 35 = .ok (.invokevirtual 229, 3) := by decide +kernel
theorem dX8_hive_38 : decode cX8_hive 38 = .ok (.goto 5, 3) := by decide +kernel
theorem dX8_hive_41 : decode cX8_hive 41 = .ok (.bipush (-102), 2) := by decide +kernel
theorem dX8_hive_43 : decode cX8_hive 43 = .ok (.ireturn, 1) := by decide +kernel
theorem dX8_layReading_0 : decode cX8_layReading 0 = .ok (.aload_n 0, 1) := by decide +kernel
theorem dX8_layReading_1 : decode cX8_layReading 1 = .ok (.iconst 0, 1) := by decide +kernel
theorem dX8_layReading_2 : decode cX8_layReading 2 = .ok (.putfield 233, 3) := by decide +kernel
theorem dX8_layReading_5 : decode cX8_layReading 5 = .ok (.iconst 0, 1) := by decide +kernel
theorem dX8_layReading_6 : decode cX8_layReading 6 = .ok (.istore_n 1, 1) := by decide +kernel
theorem dX8_layReading_7 : decode cX8_layReading 7 = .ok (.iload_n 1, 1) := by decide +kernel
theorem dX8_layReading_8 : decode cX8_layReading 8 = .ok (.iconst 4, 1) := by decide +kernel
theorem dX8_layReading_9 : decode cX8_layReading 9 = .ok (.if_icmp .ge 64, 3) := by decide +kernel
theorem dX8_layReading_12 : decode cX8_layReading 12 = .ok (.aload_n 0, 1) := by decide +kernel
theorem dX8_layReading_13 : decode cX8_layReading 13 = .ok (.getfield 56, 3) := by decide +kernel
theorem dX8_layReading_16 : decode cX8_layReading 16 = .ok (.iload_n 1, 1) := by decide +kernel
theorem dX8_layReading_17 : decode cX8_layReading 17 = .ok (.iaload, 1) := by decide +kernel
theorem dX8_layReading_18 : decode cX8_layReading 18 = .ok (.iconst 1, 1) := by decide +kernel
theorem dX8_layReading_19 : decode cX8_layReading 19 = .ok (.isub, 1) := by decide +kernel
theorem dX8_layReading_20 : decode cX8_layReading 20 = .ok (.istore_n 2, 1) := by decide +kernel
theorem dX8_layReading_21 : decode cX8_layReading 21 = .ok (.iload_n 2, 1) := by decide +kernel
theorem dX8_layReading_22 : decode cX8_layReading 22 = .ok (.aload_n 0, 1) := by decide +kernel
theorem dX8_layReading_23 : decode cX8_layReading 23 = .ok (.getfield 13, 3) := by decide +kernel
theorem dX8_layReading_26 : decode cX8_layReading 26 = .ok (.iload_n 1, 1) := by decide +kernel
theorem dX8_layReading_27 : decode cX8_layReading 27 = .ok (.iaload, 1) := by decide +kernel
theorem dX8_layReading_28 : decode cX8_layReading 28 = .ok (.if_icmp .lt 39, 3) := by decide +kernel
theorem dX8_layReading_31 : decode cX8_layReading 31 = .ok (.aload_n 0, 1) := by decide +kernel
theorem dX8_layReading_32 : decode cX8_layReading 32 = .ok (.getfield 59, 3) := by decide +kernel
theorem dX8_layReading_35 : decode cX8_layReading 35 = .ok (.aload_n 0, 1) := by decide +kernel
theorem dX8_layReading_36 : decode cX8_layReading 36 = .ok (.getfield 233, 3) := by decide +kernel
theorem dX8_layReading_39 : decode cX8_layReading 39 = .ok (.iload_n 1, 1) := by decide +kernel
theorem dX8_layReading_40 : decode cX8_layReading 40 = .ok (.iastore, 1) := by decide +kernel
theorem dX8_layReading_41 : decode cX8_layReading 41 = .ok (.aload_n 0, 1) := by decide +kernel
theorem dX8_layReading_42 : decode cX8_layReading 42 = .ok (.getfield 62, 3) := by decide +kernel
theorem dX8_layReading_45 : decode cX8_layReading 45 = .ok (.aload_n 0, 1) := by decide +kernel
theorem dX8_layReading_46 : decode cX8_layReading 46 = .ok (.getfield 233, 3) := by decide +kernel
theorem dX8_layReading_49 : decode cX8_layReading 49 = .ok (.iload_n 2, 1) := by decide +kernel
theorem dX8_layReading_50 : decode cX8_layReading 50 = .ok (.iastore, 1) := by decide +kernel
theorem dX8_layReading_51 : decode cX8_layReading 51 = .ok (.aload_n 0, 1) := by decide +kernel
theorem dX8_layReading_52 : decode cX8_layReading 52 = .ok (.dup, 1) := by decide +kernel
theorem dX8_layReading_53 : decode cX8_layReading 53 = .ok (.getfield 233, 3) := by decide +kernel
theorem dX8_layReading_56 : decode cX8_layReading 56 = .ok (.iconst 1, 1) := by decide +kernel
theorem dX8_layReading_57 : decode cX8_layReading 57 = .ok (.iadd, 1) := by decide +kernel
theorem dX8_layReading_58 : decode cX8_layReading 58 = .ok (.putfield 233, 3) := by decide +kernel
theorem dX8_layReading_61 : decode cX8_layReading 61 = .ok (.iinc 2 (-1), 3) := by decide +kernel
theorem dX8_layReading_64 : decode cX8_layReading 64 = .ok (.goto (-43), 3) := by decide +kernel
theorem dX8_layReading_67 : decode cX8_layReading 67 = .ok (.iinc 1 1, 3) := by decide +kernel
theorem dX8_layReading_70 : decode cX8_layReading 70 = .ok (.goto (-63), 3) := by decide +kernel
theorem dX8_layReading_73 : decode cX8_layReading 73 = .ok (.iconst 0, 1) := by decide +kernel
theorem dX8_layReading_74 : decode cX8_layReading 74 = .ok (.istore_n 1, 1) := by decide +kernel
theorem dX8_layReading_75 : decode cX8_layReading 75 = .ok (.iload_n 1, 1) := by decide +kernel
theorem dX8_layReading_76 : decode cX8_layReading 76 = .ok (.bipush 60, 2) := by decide +kernel
theorem dX8_layReading_78 : decode cX8_layReading 78 = .ok (.if_icmp .ge 16, 3) := by decide +kernel
theorem dX8_layReading_81 : decode cX8_layReading 81 = .ok (.aload_n 0, 1) := by decide +kernel
theorem dX8_layReading_82 : decode cX8_layReading 82 = .ok (.getfield 65, 3) := by decide +kernel
theorem dX8_layReading_85 : decode cX8_layReading 85 = .ok (.iload_n 1, 1) := by decide +kernel
theorem dX8_layReading_86 : decode cX8_layReading 86 = .ok (.iconst 0, 1) := by decide +kernel
theorem dX8_layReading_87 : decode cX8_layReading 87 = .ok (.iastore, 1) := by decide +kernel
theorem dX8_layReading_88 : decode cX8_layReading 88 = .ok (.iinc 1 1, 3) := by decide +kernel
theorem dX8_layReading_91 : decode cX8_layReading 91 = .ok (.goto (-16), 3) := by decide +kernel
theorem dX8_layReading_94 : decode cX8_layReading 94 = .ok (.iconst 0, 1) := by decide +kernel
theorem dX8_layReading_95 : decode cX8_layReading 95 = .ok (.istore_n 1, 1) := by decide +kernel
theorem dX8_layReading_96 : decode cX8_layReading 96 = .ok (.iload_n 1, 1) := by decide +kernel
theorem dX8_layReading_97 : decode cX8_layReading 97 = .ok (.iconst 5, 1) := by decide +kernel
theorem dX8_layReading_98 : decode cX8_layReading 98 = .ok (.if_icmp .ge 16, 3) := by decide +kernel
theorem dX8_layReading_101 : decode cX8_layReading 101 = .ok (.aload_n 0, 1) := by decide +kernel
theorem dX8_layReading_102 : decode cX8_layReading 102 = .ok (.getfield 68, 3) := by decide +kernel
theorem dX8_layReading_105 : decode cX8_layReading 105 = .ok (.iload_n 1, 1) := by decide +kernel
theorem dX8_layReading_106 : decode cX8_layReading 106 = .ok (.iconst 0, 1) := by decide +kernel
theorem dX8_layReading_107 : decode cX8_layReading 107 = .ok (.iastore, 1) := by decide +kernel
theorem dX8_layReading_108 : decode cX8_layReading 108 = .ok (.iinc 1 1, 3) := by decide +kernel
theorem dX8_layReading_111 : decode cX8_layReading 111 = .ok (.goto (-15), 3) := by decide +kernel
theorem dX8_layReading_114 : decode cX8_layReading 114 = .ok (.return_, 1) := by decide +kernel
theorem dX8_cellAt_0 : decode cX8_cellAt 0 = .ok (.bipush 15, 2) := by decide +kernel
theorem dX8_cellAt_2 : decode cX8_cellAt 2 = .ok (.aload_n 0, 1) := by decide +kernel
theorem dX8_cellAt_3 : decode cX8_cellAt 3 = .ok (.getfield 59, 3) := by decide +kernel
theorem dX8_cellAt_6 : decode cX8_cellAt 6 = .ok (.iload_n 1, 1) := by decide +kernel
theorem dX8_cellAt_7 : decode cX8_cellAt 7 = .ok (.iaload, 1) := by decide +kernel
theorem dX8_cellAt_8 : decode cX8_cellAt 8 = .ok (.imul, 1) := by decide +kernel
theorem dX8_cellAt_9 : decode cX8_cellAt 9 = .ok (.aload_n 0, 1) := by decide +kernel
theorem dX8_cellAt_10 : decode cX8_cellAt 10 = .ok (.getfield 62, 3) := by decide +kernel
theorem dX8_cellAt_13 : decode cX8_cellAt 13 = .ok (.iload_n 1, 1) := by decide +kernel
theorem dX8_cellAt_14 : decode cX8_cellAt 14 = .ok (.iaload, 1) := by decide +kernel
theorem dX8_cellAt_15 : decode cX8_cellAt 15 = .ok (.iadd, 1) := by decide +kernel
theorem dX8_cellAt_16 : decode cX8_cellAt 16 = .ok (.ireturn, 1) := by decide +kernel
set_option maxRecDepth 20000 in
theorem ggX8_mayCome_X8_cellAt : GoodIn wsX8_mayCome wsX8_cellAt := goodIn_r _ [11, 5, 3, 12, 13, 14, 15, 16, 17, 18, 19, 20, 21, 22, 23, 24, 25, 26, 27, 28, 29, 30, 31, 32, 33, 34, 35, 36, 37, 38, 39, 40, 41, 42, 43, 44, 45, 46, 47, 48, 49, 50, 51, 52, 53, 54, 55, 56, 57, 58] rfl (by decide +kernel)
set_option maxRecDepth 20000 in
theorem gX8_mayCome_X8_cellAt : GoodIn wsX8_mayCome (wsV RX8 236 RX8 yX8_cellAt wsX8_cellAt) := goodIn_app (goodIn_r _ [7, 8, 9, 10] rfl (by decide +kernel)) ggX8_mayCome_X8_cellAt
theorem dX8_mayCome_0 : decode cX8_mayCome 0 = .ok (.aload_n 0, 1) := by decide +kernel
theorem dX8_mayCome_1 : decode cX8_mayCome 1 = .ok (.iload_n 1, 1) := by decide +kernel
theorem dX8_mayCome_2 : decode cX8_mayCome 2 = .ok (.invokevirtual 236, 3) := by decide +kernel
theorem dX8_mayCome_5 : decode cX8_mayCome 5 = .ok (.istore_n 3, 1) := by decide +kernel
theorem dX8_mayCome_6 : decode cX8_mayCome 6 = .ok (.aload_n 0, 1) := by decide +kernel
theorem dX8_mayCome_7 : decode cX8_mayCome 7 = .ok (.getfield 68, 3) := by decide +kernel
theorem dX8_mayCome_10 : decode cX8_mayCome 10 = .ok (.iload_n 2, 1) := by decide +kernel
theorem dX8_mayCome_11 : decode cX8_mayCome 11 = .ok (.iaload, 1) := by decide +kernel
theorem dX8_mayCome_12 : decode cX8_mayCome 12 = .ok (.aload_n 0, 1) := by decide +kernel
theorem dX8_mayCome_13 : decode cX8_mayCome 13 = .ok (.getfield 16, 3) := by decide +kernel
theorem dX8_mayCome_16 : decode cX8_mayCome 16 = .ok (.iload_n 2, 1) := by decide +kernel
theorem dX8_mayCome_17 : decode cX8_mayCome 17 = .ok (.iconst 1, 1) := by decide +kernel
theorem dX8_mayCome_18 : decode cX8_mayCome 18 = .ok (.isub, 1) := by decide +kernel
theorem dX8_mayCome_19 : decode cX8_mayCome 19 = .ok (.iaload, 1) := by decide +kernel
theorem dX8_mayCome_20 : decode cX8_mayCome 20 = .ok (.if_icmp .ge 29, 3) := by decide +kernel
theorem dX8_mayCome_23 : decode cX8_mayCome 23 = .ok (.iload_n 2, 1) := by decide +kernel
theorem dX8_mayCome_24 : decode cX8_mayCome 24 = .ok (.iconst 1, 1) := by decide +kernel
theorem dX8_mayCome_25 : decode cX8_mayCome 25 = .ok (.if_icmp .eq 20, 3) := by decide +kernel
theorem dX8_mayCome_28 : decode cX8_mayCome 28 = .ok (.aload_n 0, 1) := by decide +kernel
theorem dX8_mayCome_29 : decode cX8_mayCome 29 = .ok (.getfield 68, 3) := by decide +kernel
theorem dX8_mayCome_32 : decode cX8_mayCome 32 = .ok (.iload_n 2, 1) := by decide +kernel
theorem dX8_mayCome_33 : decode cX8_mayCome 33 = .ok (.iaload, 1) := by decide +kernel
theorem dX8_mayCome_34 : decode cX8_mayCome 34 = .ok (.aload_n 0, 1) := by decide +kernel
theorem dX8_mayCome_35 : decode cX8_mayCome 35 = .ok (.getfield 68, 3) := by decide +kernel
theorem dX8_mayCome_38 : decode cX8_mayCome 38 = .ok (.iload_n 2, 1) := by decide +kernel
theorem dX8_mayCome_39 : decode cX8_mayCome 39 = .ok (.iconst 1, 1) := by decide +kernel
theorem dX8_mayCome_40 : decode cX8_mayCome 40 = .ok (.isub, 1) := by decide +kernel
theorem dX8_mayCome_41 : decode cX8_mayCome 41 = .ok (.iaload, 1) := by decide +kernel
theorem dX8_mayCome_42 : decode cX8_mayCome 42 = .ok (.if_icmp .ge 7, 3) := by decide +kernel
theorem dX8_mayCome_45 : decode cX8_mayCome 45 = .ok (.iconst 1, 1) := by decide +kernel
theorem dX8_mayCome_46 : decode cX8_mayCome 46 = .ok (.goto 4, 3) := by decide +kernel
theorem dX8_mayCome_49 : decode cX8_mayCome 49 = .ok (.iconst 0, 1) := by decide +kernel
theorem dX8_mayCome_50 : decode cX8_mayCome 50 = .ok (.istore 4, 2) := by decide +kernel
theorem dX8_mayCome_52 : decode cX8_mayCome 52 = .ok (.aload_n 0, 1) := by decide +kernel
theorem dX8_mayCome_53 : decode cX8_mayCome 53 = .ok (.getfield 62, 3) := by decide +kernel
theorem dX8_mayCome_56 : decode cX8_mayCome 56 = .ok (.iload_n 1, 1) := by decide +kernel
theorem dX8_mayCome_57 : decode cX8_mayCome 57 = .ok (.iaload, 1) := by decide +kernel
theorem dX8_mayCome_58 : decode cX8_mayCome 58 = .ok (.aload_n 0, 1) := by decide +kernel
theorem dX8_mayCome_59 : decode cX8_mayCome 59 = .ok (.getfield 56, 3) := by decide +kernel
theorem dX8_mayCome_62 : decode cX8_mayCome 62 = .ok (.aload_n 0, 1) := by decide +kernel
theorem dX8_mayCome_63 : decode cX8_mayCome 63 = .ok (.getfield 59, 3) := by decide +kernel
theorem dX8_mayCome_66 : decode cX8_mayCome 66 = .ok (.iload_n 1, 1) := by decide +kernel
theorem dX8_mayCome_67 : decode cX8_mayCome 67 = .ok (.iaload, 1) := by decide +kernel
theorem dX8_mayCome_68 : decode cX8_mayCome 68 = .ok (.iaload, 1) := by decide +kernel
theorem dX8_mayCome_69 : decode cX8_mayCome 69 = .ok (.iconst 1, 1) := by decide +kernel
theorem dX8_mayCome_70 : decode cX8_mayCome 70 = .ok (.isub, 1) := by decide +kernel
theorem dX8_mayCome_71 : decode cX8_mayCome 71 = .ok (.if_icmp .ne 7, 3) := by decide +kernel
theorem dX8_mayCome_74 : decode cX8_mayCome 74 = .ok (.iconst 1, 1) := by decide +kernel
theorem dX8_mayCome_75 : decode cX8_mayCome 75 = .ok (.goto 4, 3) := by decide +kernel
theorem dX8_mayCome_78 : decode cX8_mayCome 78 = .ok (.iconst 0, 1) := by decide +kernel
theorem dX8_mayCome_79 : decode cX8_mayCome 79 = .ok (.istore 5, 2) := by decide +kernel
theorem dX8_mayCome_81 : decode cX8_mayCome 81 = .ok (.iload 4, 2) := by decide +kernel
theorem dX8_mayCome_83 : decode cX8_mayCome 83 = .ok (.ifCond .eq 24, 3) := by decide +kernel
theorem dX8_mayCome_86 : decode cX8_mayCome 86 = .ok (.iload 5, 2) := by decide +kernel
theorem dX8_mayCome_88 : decode cX8_mayCome 88 = .ok (.ifCond .ne 15, 3) := by decide +kernel
theorem dX8_mayCome_91 : decode cX8_mayCome 91 = .ok (.iload_n 2, 1) := by decide +kernel
theorem dX8_mayCome_92 : decode cX8_mayCome 92 = .ok (.aload_n 0, 1) := by decide +kernel
theorem dX8_mayCome_93 : decode cX8_mayCome 93 = .ok (.getfield 65, 3) := by decide +kernel
theorem dX8_mayCome_96 : decode cX8_mayCome 96 = .ok (.iload_n 3, 1) := by decide +kernel
theorem dX8_mayCome_97 : decode cX8_mayCome 97 = .ok (.iconst 1, 1) := by decide +kernel
theorem dX8_mayCome_98 : decode cX8_mayCome 98 = .ok (.iadd, 1) := by decide +kernel
theorem dX8_mayCome_99 : decode cX8_mayCome 99 = .ok (.iaload, 1) := by decide +kernel
theorem dX8_mayCome_100 : decode cX8_mayCome 100 = .ok (.if_icmp .gt 7, 3) := by decide +kernel
theorem dX8_mayCome_103 : decode cX8_mayCome 103 = .ok (.iconst 1, 1) := by decide +kernel
theorem dX8_mayCome_104 : decode cX8_mayCome 104 = .ok (.goto 4, 3) := by decide +kernel
theorem dX8_mayCome_107 : decode cX8_mayCome 107 = .ok (.iconst 0, 1) := by decide +kernel
theorem dX8_mayCome_108 : decode cX8_mayCome 108 = .ok (.istore 4, 2) := by decide +kernel
theorem dX8_mayCome_110 : decode cX8_mayCome 110 = .ok (.iload 4, 2) := by decide +kernel
theorem dX8_mayCome_112 : decode cX8_mayCome 112 = .ok (.ifCond .eq 41, 3) := by decide +kernel
theorem dX8_mayCome_115 : decode cX8_mayCome 115 = .ok (.aload_n 0, 1) := by decide +kernel
theorem dX8_mayCome_116 : decode cX8_mayCome 116 = .ok (.getfield 59, 3) := by decide +kernel
theorem dX8_mayCome_119 : decode cX8_mayCome 119 = .ok (.iload_n 1, 1) := by decide +kernel
theorem dX8_mayCome_120 : decode cX8_mayCome 120 = .ok (.iaload, 1) := by decide +kernel
theorem dX8_mayCome_121 : decode cX8_mayCome 121 = .ok (.ifCond .eq 28, 3) := by decide +kernel
theorem dX8_mayCome_124 : decode cX8_mayCome 124 = .ok (.aload_n 0, 1) := by decide +kernel
theorem dX8_mayCome_125 : decode cX8_mayCome 125 = .ok (.getfield 65, 3) := by decide +kernel
theorem dX8_mayCome_128 : decode cX8_mayCome 128 = .ok (.iload_n 3, 1) := by decide +kernel
theorem dX8_mayCome_129 : decode cX8_mayCome 129 = .ok (.bipush 15, 2) := by decide +kernel
theorem dX8_mayCome_131 : decode cX8_mayCome 131 = .ok (.isub, 1) := by decide +kernel
theorem dX8_mayCome_132 : decode cX8_mayCome 132 = .ok (.iaload, 1) := by decide +kernel
theorem dX8_mayCome_133 : decode cX8_mayCome 133 = .ok (.ifCond .eq 16, 3) := by decide +kernel
theorem dX8_mayCome_136 : decode cX8_mayCome 136 = .ok (.aload_n 0, 1) := by decide +kernel
theorem dX8_mayCome_137 : decode cX8_mayCome 137 = .ok (.getfield 65, 3) := by decide +kernel
theorem dX8_mayCome_140 : decode cX8_mayCome 140 = .ok (.iload_n 3, 1) := by decide +kernel
theorem dX8_mayCome_141 : decode cX8_mayCome 141 = .ok (.bipush 15, 2) := by decide +kernel
theorem dX8_mayCome_143 : decode cX8_mayCome 143 = .ok (.isub, 1) := by decide +kernel
theorem dX8_mayCome_144 : decode cX8_mayCome 144 = .ok (.iaload, 1) := by decide +kernel
theorem dX8_mayCome_145 : decode cX8_mayCome 145 = .ok (.iload_n 2, 1) := by decide +kernel
theorem dX8_mayCome_146 : decode cX8_mayCome 146 = .ok (.if_icmp .ge 7, 3) := by decide +kernel
theorem dX8_mayCome_149 : decode cX8_mayCome 149 = .ok (.iconst 1, 1) := by decide +kernel
theorem dX8_mayCome_150 : decode cX8_mayCome 150 = .ok (.goto 4, 3) := by decide +kernel
theorem dX8_mayCome_153 : decode cX8_mayCome 153 = .ok (.iconst 0, 1) := by decide +kernel
theorem dX8_mayCome_154 : decode cX8_mayCome 154 = .ok (.ireturn, 1) := by decide +kernel
set_option maxRecDepth 20000 in
theorem ggX8_timesNow_X8_layReading : GoodIn wsX8_timesNow wsX8_layReading := goodIn_r _ [8, 1, 9, 10, 11, 12, 2, 3, 22, 23, 24, 25, 26, 27, 28, 29, 30, 31, 32, 33, 34, 35, 36, 37, 38, 39, 40, 41, 42, 43, 44, 45, 46, 47, 48, 49, 50, 51, 52, 53, 54, 55, 56, 57, 58, 59, 60, 61, 62, 63, 64, 65, 66, 67, 68] rfl (by decide +kernel)
set_option maxRecDepth 20000 in
theorem gX8_timesNow_X8_layReading : GoodIn wsX8_timesNow (wsV RX8 239 RX8 yX8_layReading wsX8_layReading) := goodIn_app (goodIn_r _ [4, 5, 6, 7] rfl (by decide +kernel)) ggX8_timesNow_X8_layReading
set_option maxRecDepth 20000 in
theorem ggX8_timesNow_X8_cellAt : GoodIn wsX8_timesNow wsX8_cellAt := goodIn_r _ [16, 11, 12, 22, 23, 24, 25, 26, 27, 28, 29, 30, 31, 32, 33, 34, 35, 36, 37, 38, 39, 40, 41, 42, 43, 44, 45, 46, 47, 48, 49, 50, 51, 52, 53, 54, 55, 56, 57, 58, 59, 60, 61, 62, 63, 64, 65, 66, 67, 68] rfl (by decide +kernel)
set_option maxRecDepth 20000 in
theorem gX8_timesNow_X8_cellAt : GoodIn wsX8_timesNow (wsV RX8 236 RX8 yX8_cellAt wsX8_cellAt) := goodIn_app (goodIn_r _ [13, 14, 15, 7] rfl (by decide +kernel)) ggX8_timesNow_X8_cellAt
set_option maxRecDepth 20000 in
theorem ggX8_timesNow_X8_mayCome : GoodIn wsX8_timesNow wsX8_mayCome := goodIn_r _ [20, 3, 21, 12, 9, 11, 2, 13, 14, 15, 7, 16, 22, 23, 24, 25, 26, 27, 28, 29, 30, 31, 32, 33, 34, 35, 36, 37, 38, 39, 40, 41, 42, 43, 44, 45, 46, 47, 48, 49, 50, 51, 52, 53, 54, 55, 56, 57, 58, 59, 60, 61, 62, 63, 64, 65, 66, 67, 68] rfl (by decide +kernel)
set_option maxRecDepth 20000 in
theorem gX8_timesNow_X8_mayCome : GoodIn wsX8_timesNow (wsV RX8 242 RX8 yX8_mayCome wsX8_mayCome) := goodIn_app (goodIn_r _ [17, 18, 19, 7] rfl (by decide +kernel)) ggX8_timesNow_X8_mayCome
theorem dX8_timesNow_0 : decode cX8_timesNow 0 = .ok (.aload_n 0, 1) := by decide +kernel
theorem dX8_timesNow_1 : decode cX8_timesNow 1 = .ok (.invokevirtual 239, 3) := by decide +kernel
theorem dX8_timesNow_4 : decode cX8_timesNow 4 = .ok (.aload_n 0, 1) := by decide +kernel
theorem dX8_timesNow_5 : decode cX8_timesNow 5 = .ok (.getfield 233, 3) := by decide +kernel
theorem dX8_timesNow_8 : decode cX8_timesNow 8 = .ok (.ifCond .ne 7, 3) := by decide +kernel
theorem dX8_timesNow_11 : decode cX8_timesNow 11 = .ok (.iconst 1, 1) := by decide +kernel
theorem dX8_timesNow_12 : decode cX8_timesNow 12 = .ok (.goto 4, 3) := by decide +kernel
theorem dX8_timesNow_15 : decode cX8_timesNow 15 = .ok (.iconst 0, 1) := by decide +kernel
theorem dX8_timesNow_16 : decode cX8_timesNow 16 = .ok (.istore_n 1, 1) := by decide +kernel
theorem dX8_timesNow_17 : decode cX8_timesNow 17 = .ok (.aload_n 0, 1) := by decide +kernel
theorem dX8_timesNow_18 : decode cX8_timesNow 18 = .ok (.getfield 233, 3) := by decide +kernel
theorem dX8_timesNow_21 : decode cX8_timesNow 21 = .ok (.ifCond .ne 7, 3) := by decide +kernel
theorem dX8_timesNow_24 : decode cX8_timesNow 24 = .ok (.iconst (-1), 1) := by decide +kernel
theorem dX8_timesNow_25 : decode cX8_timesNow 25 = .ok (.goto 4, 3) := by decide +kernel
theorem dX8_timesNow_28 : decode cX8_timesNow 28 = .ok (.iconst 0, 1) := by decide +kernel
theorem dX8_timesNow_29 : decode cX8_timesNow 29 = .ok (.istore_n 2, 1) := by decide +kernel
theorem dX8_timesNow_30 : decode cX8_timesNow 30 = .ok (.iload_n 2, 1) := by decide +kernel
theorem dX8_timesNow_31 : decode cX8_timesNow 31 = .ok (.ifCond .lt 121, 3) := by decide +kernel
theorem dX8_timesNow_34 : decode cX8_timesNow 34 = .ok (.aload_n 0, 1) := by decide +kernel
theorem dX8_timesNow_35 : decode cX8_timesNow 35 = .ok (.iload_n 2, 1) := by decide +kernel
theorem dX8_timesNow_36 : decode cX8_timesNow 36 = .ok (.invokevirtual 236, 3) := by decide +kernel
theorem dX8_timesNow_39 : decode cX8_timesNow 39 = .ok (.istore_n 3, 1) := by decide +kernel
theorem dX8_timesNow_40 : decode cX8_timesNow 40 = .ok (.aload_n 0, 1) := by decide +kernel
theorem dX8_timesNow_41 : decode cX8_timesNow 41 = .ok (.getfield 65, 3) := by decide +kernel
theorem dX8_timesNow_44 : decode cX8_timesNow 44 = .ok (.iload_n 3, 1) := by decide +kernel
theorem dX8_timesNow_45 : decode cX8_timesNow 45 = .ok (.iaload, 1) := by decide +kernel
theorem dX8_timesNow_46 : decode cX8_timesNow 46 = .ok (.istore 4, 2) := by decide +kernel
theorem dX8_timesNow_48 : decode cX8_timesNow 48 = .ok (.iload 4, 2) := by decide +kernel
theorem dX8_timesNow_50 : decode cX8_timesNow 50 = .ok (.ifCond .le 14, 3) := by decide +kernel
theorem dX8_timesNow_53 : decode cX8_timesNow 53 = .ok (.aload_n 0, 1) := by decide +kernel
theorem dX8_timesNow_54 : decode cX8_timesNow 54 = .ok (.getfield 68, 3) := by decide +kernel
theorem dX8_timesNow_57 : decode cX8_timesNow 57 = .ok (.iload 4, 2) := by decide +kernel
theorem dX8_timesNow_59 : decode cX8_timesNow 59 = .ok (.dup2, 1) := by decide +kernel
theorem dX8_timesNow_60 : decode cX8_timesNow 60 = .ok (.iaload, 1) := by decide +kernel
theorem dX8_timesNow_61 : decode cX8_timesNow 61 = .ok (.iconst 1, 1) := by decide +kernel
theorem dX8_timesNow_62 : decode cX8_timesNow 62 = .ok (.isub, 1) := by decide +kernel
theorem dX8_timesNow_63 : decode cX8_timesNow 63 = .ok (.iastore, 1) := by decide +kernel
theorem dX8_timesNow_64 : decode cX8_timesNow 64 = .ok (.iinc 4 1, 3) := by decide +kernel
theorem dX8_timesNow_67 : decode cX8_timesNow 67 = .ok (.iload 4, 2) := by decide +kernel
theorem dX8_timesNow_69 : decode cX8_timesNow 69 = .ok (.iconst 4, 1) := by decide +kernel
theorem dX8_timesNow_70 : decode cX8_timesNow 70 = .ok (.if_icmp .gt 19, 3) := by decide +kernel
theorem dX8_timesNow_73 : decode cX8_timesNow 73 = .ok (.aload_n 0, 1) := by decide +kernel
theorem dX8_timesNow_74 : decode cX8_timesNow 74 = .ok (.iload_n 2, 1) := by decide +kernel
theorem dX8_timesNow_75 : decode cX8_timesNow 75 = .ok (.iload 4, 2) := by decide +kernel
theorem dX8_timesNow_77 : decode cX8_timesNow 77 = .ok (.invokevirtual 242, 3) := by decide +kernel
theorem dX8_timesNow_80 : decode cX8_timesNow 80 = .ok (.ifCond .ne 9, 3) := by decide +kernel
theorem dX8_timesNow_83 : decode cX8_timesNow 83 = .ok (.iinc 4 1, 3) := by decide +kernel
theorem dX8_timesNow_86 : decode cX8_timesNow 86 = .ok (.goto (-19), 3) := by decide +kernel
theorem dX8_timesNow_89 : decode cX8_timesNow 89 = .ok (.aload_n 0, 1) := by decide +kernel
theorem dX8_timesNow_90 : decode cX8_timesNow 90 = .ok (.getfield 65, 3) := by decide +kernel
theorem dX8_timesNow_93 : decode cX8_timesNow 93 = .ok (.iload_n 3, 1) := by decide +kernel
theorem dX8_timesNow_94 : decode cX8_timesNow 94 = .ok (.iload 4, 2) := by decide +kernel
theorem dX8_timesNow_96 : decode cX8_timesNow 96 = .ok (.iconst 4, 1) := by decide +kernel
theorem dX8_timesNow_97 : decode cX8_timesNow 97 = .ok (.if_icmp .gt 8, 3) := by decide +kernel
theorem dX8_timesNow_100 : decode cX8_timesNow 100 = .ok (.iload 4, 2) := by decide +kernel
theorem dX8_timesNow_102 : decode cX8_timesNow 102 = .ok (.goto 4, 3) := by decide +kernel
theorem dX8_timesNow_105 : decode cX8_timesNow 105 = .ok (.iconst 0, 1) := by decide +kernel
theorem dX8_timesNow_106 : decode cX8_timesNow 106 = .ok (.iastore, 1) := by decide +kernel
theorem dX8_timesNow_107 : decode cX8_timesNow 107 = .ok (.iload 4, 2) := by decide +kernel
theorem dX8_timesNow_109 : decode cX8_timesNow 109 = .ok (.iconst 4, 1) := by decide +kernel
theorem dX8_timesNow_110 : decode cX8_timesNow 110 = .ok (.if_icmp .le 9, 3) := by decide +kernel
theorem dX8_timesNow_113 : decode cX8_timesNow 113 = .ok (.iinc 2 (-1), 3) := by decide +kernel
theorem dX8_timesNow_116 : decode cX8_timesNow 116 = .ok (.goto 33, 3) := by decide +kernel
theorem dX8_timesNow_119 : decode cX8_timesNow 119 = .ok (.aload_n 0, 1) := by decide +kernel
theorem dX8_timesNow_120 : decode cX8_timesNow 120 = .ok (.getfield 68, 3) := by decide +kernel
theorem dX8_timesNow_123 : decode cX8_timesNow 123 = .ok (.iload 4, 2) := by decide +kernel
theorem dX8_timesNow_125 : decode cX8_timesNow 125 = .ok (.dup2, 1) := by decide +kernel
theorem dX8_timesNow_126 : decode cX8_timesNow 126 = .ok (.iaload, 1) := by decide +kernel
theorem dX8_timesNow_127 : decode cX8_timesNow 127 = .ok (.iconst 1, 1) := by decide +kernel
theorem dX8_timesNow_128 : decode cX8_timesNow 128 = .ok (.iadd, 1) := by decide +kernel
theorem dX8_timesNow_129 : decode cX8_timesNow 129 = .ok (.iastore, 1) := by decide +kernel
theorem dX8_timesNow_130 : decode cX8_timesNow 130 = .ok (.iload_n 2, 1) := by decide +kernel
theorem dX8_timesNow_131 : decode cX8_timesNow 131 = .ok (.aload_n 0, 1) := by decide +kernel
theorem dX8_timesNow_132 : decode cX8_timesNow 132 = .ok (.getfield 233, 3) := by decide +kernel
theorem dX8_timesNow_135 : decode cX8_timesNow 135 = .ok (.iconst 1, 1) := by decide +kernel
theorem dX8_timesNow_136 : decode cX8_timesNow 136 = .ok (.isub, 1) := by decide +kernel
theorem dX8_timesNow_137 : decode cX8_timesNow 137 = .ok (.if_icmp .ne 9, 3) := by decide +kernel
theorem dX8_timesNow_140 : decode cX8_timesNow 140 = .ok (.iinc 1 1, 3) := by decide +kernel
theorem dX8_timesNow_143 : decode cX8_timesNow 143 = .ok (.goto 6, 3) := by decide +kernel
theorem dX8_timesNow_146 : decode cX8_timesNow 146 = .ok (.iinc 2 1, 3) := by decide +kernel
theorem dX8_timesNow_149 : decode cX8_timesNow 149 = .ok (.goto (-119), 3) := by decide +kernel
theorem dX8_timesNow_152 : decode cX8_timesNow 152 = .ok (.iload_n 1, 1) := by decide +kernel
theorem dX8_timesNow_153 : decode cX8_timesNow 153 = .ok (.ireturn, 1) := by decide +kernel
set_option maxRecDepth 20000 in
theorem ggX8_addTerm_X8_timesNow : GoodIn wsX8_addTerm wsX8_timesNow := goodIn_r _ [8, 9, 10, 11, 12, 13, 14, 7, 15, 3, 16, 17, 18, 19, 20, 21, 22, 23, 24, 25, 26, 27, 28, 29, 30, 31, 32, 33, 34, 35, 36, 37, 38, 39, 40, 41, 42, 43, 44, 45, 46, 47, 48, 49, 50, 51, 52, 53, 54, 55, 56, 57, 58, 59, 60, 61, 62, 63, 64, 65, 66, 67, 68, 69, 70, 71, 72, 73, 74] rfl (by decide +kernel)
set_option maxRecDepth 20000 in
theorem gX8_addTerm_X8_timesNow : GoodIn wsX8_addTerm (wsV RX8 245 RX8 yX8_timesNow wsX8_timesNow) := goodIn_app (goodIn_r _ [4, 5, 6, 7] rfl (by decide +kernel)) ggX8_addTerm_X8_timesNow
theorem dX8_addTerm_0 : decode cX8_addTerm 0 = .ok (.aload_n 0, 1) := by decide +kernel
theorem dX8_addTerm_1 : decode cX8_addTerm 1 = .ok (.invokevirtual 245, 3) := by decide +kernel
theorem dX8_addTerm_4 : decode cX8_addTerm 4 = .ok (.istore_n 1, 1) := by decide +kernel
theorem dX8_addTerm_5 : decode cX8_addTerm 5 = .ok (.iload_n 1, 1) := by decide +kernel
theorem dX8_addTerm_6 : decode cX8_addTerm 6 = .ok (.ifCond .le 59, 3) := by decide +kernel
theorem dX8_addTerm_9 : decode cX8_addTerm 9 = .ok (.iconst 0, 1) := by decide +kernel
theorem dX8_addTerm_10 : decode cX8_addTerm 10 = .ok (.istore_n 2, 1) := by decide +kernel
theorem dX8_addTerm_11 : decode cX8_addTerm 11 = .ok (.iload_n 2, 1) := by decide +kernel
theorem dX8_addTerm_12 : decode cX8_addTerm 12 = .ok (.iconst 4, 1) := by decide +kernel
theorem dX8_addTerm_13 : decode cX8_addTerm 13 = .ok (.if_icmp .ge 28, 3) := by decide +kernel
theorem dX8_addTerm_16 : decode cX8_addTerm 16 = .ok (.aload_n 0, 1) := by decide +kernel
theorem dX8_addTerm_17 : decode cX8_addTerm 17 = .ok (.getfield 53, 3) := by decide +kernel
theorem dX8_addTerm_20 : decode cX8_addTerm 20 = .ok (.iconst 5, 1) := by decide +kernel
theorem dX8_addTerm_21 : decode cX8_addTerm 21 = .ok (.aload_n 0, 1) := by decide +kernel
theorem dX8_addTerm_22 : decode cX8_addTerm 22 = .ok (.getfield 248, 3) := by decide +kernel
theorem dX8_addTerm_25 : decode cX8_addTerm 25 = .ok (.imul, 1) := by decide +kernel
theorem dX8_addTerm_26 : decode cX8_addTerm 26 = .ok (.iload_n 2, 1) := by decide +kernel
theorem dX8_addTerm_27 : decode cX8_addTerm 27 = .ok (.iadd, 1) := by decide +kernel
theorem dX8_addTerm_28 : decode cX8_addTerm 28 = .ok (.aload_n 0, 1) := by decide +kernel
theorem dX8_addTerm_29 : decode cX8_addTerm 29 = .ok (.getfield 56, 3) := by decide +kernel
theorem dX8_addTerm_32 : decode cX8_addTerm 32 = .ok (.iload_n 2, 1) := by decide +kernel
theorem dX8_addTerm_33 : decode cX8_addTerm 33 = .ok (.iaload, 1) := by decide +kernel
theorem dX8_addTerm_34 : decode cX8_addTerm 34 = .ok (.iastore, 1) := by decide +kernel
theorem dX8_addTerm_35 : decode cX8_addTerm 35 = .ok (.iinc 2 1, 3) := by decide +kernel
theorem dX8_addTerm_38 : decode cX8_addTerm 38 = .ok (.goto (-27), 3) := by decide +kernel
theorem dX8_addTerm_41 : decode cX8_addTerm 41 = .ok (.aload_n 0, 1) := by decide +kernel
theorem dX8_addTerm_42 : decode cX8_addTerm 42 = .ok (.getfield 53, 3) := by decide +kernel
theorem dX8_addTerm_45 : decode cX8_addTerm 45 = .ok (.iconst 5, 1) := by decide +kernel
theorem dX8_addTerm_46 : decode cX8_addTerm 46 = .ok (.aload_n 0, 1) := by decide +kernel
theorem dX8_addTerm_47 : decode cX8_addTerm 47 = .ok (.getfield 248, 3) := by decide +kernel
theorem dX8_addTerm_50 : decode cX8_addTerm 50 = .ok (.imul, 1) := by decide +kernel
theorem dX8_addTerm_51 : decode cX8_addTerm 51 = .ok (.iconst 4, 1) := by decide +kernel
theorem dX8_addTerm_52 : decode cX8_addTerm 52 = .ok (.iadd, 1) := by decide +kernel
theorem dX8_addTerm_53 : decode cX8_addTerm 53 = .ok (.iload_n 1, 1) := by decide +kernel
theorem dX8_addTerm_54 : decode cX8_addTerm 54 = .ok (.iastore, 1) := by decide +kernel
theorem dX8_addTerm_55 : decode cX8_addTerm 55 = .ok (.aload_n 0, 1) := by decide +kernel
theorem dX8_addTerm_56 : decode cX8_addTerm 56 = .ok (.dup, 1) := by decide +kernel
theorem dX8_addTerm_57 : decode cX8_addTerm 57 = .ok (.getfield 248, 3) := by decide +kernel
theorem dX8_addTerm_60 : decode cX8_addTerm 60 = .ok (.iconst 1, 1) := by decide +kernel
theorem dX8_addTerm_61 : decode cX8_addTerm 61 = .ok (.iadd, 1) := by decide +kernel
theorem dX8_addTerm_62 : decode cX8_addTerm 62 = .ok (.putfield 248, 3) := by decide +kernel
theorem dX8_addTerm_65 : decode cX8_addTerm 65 = .ok (.return_, 1) := by decide +kernel
set_option maxRecDepth 20000 in
theorem ggX8_layLower_X8_addTerm : GoodIn wsX8_layLower wsX8_addTerm := goodIn_r _ [7, 8, 9, 1, 10, 11, 12, 6, 13, 14, 15, 16, 17, 18, 19, 20, 2, 21, 22, 23, 24, 25, 26, 27, 28, 29, 30, 31, 32, 33, 34, 35, 36, 37, 38, 39, 40, 41, 42, 43, 44, 45, 46, 47, 48, 49, 50, 51, 52, 53, 54, 55, 56, 57, 58, 59, 60, 61, 62, 63, 64, 65, 66, 67, 68, 69, 70, 71, 72, 73, 74, 75, 76, 77, 78] rfl (by decide +kernel)
set_option maxRecDepth 20000 in
theorem gX8_layLower_X8_addTerm : GoodIn wsX8_layLower (wsV RX8 251 RX8 yX8_addTerm wsX8_addTerm) := goodIn_app (goodIn_r _ [3, 4, 5, 6] rfl (by decide +kernel)) ggX8_layLower_X8_addTerm
theorem dX8_layLower_0 : decode cX8_layLower 0 = .ok (.aload_n 0, 1) := by decide +kernel
theorem dX8_layLower_1 : decode cX8_layLower 1 = .ok (.getfield 56, 3) := by decide +kernel
theorem dX8_layLower_4 : decode cX8_layLower 4 = .ok (.iconst 1, 1) := by decide +kernel
theorem dX8_layLower_5 : decode cX8_layLower 5 = .ok (.iaload, 1) := by decide +kernel
theorem dX8_layLower_6 : decode cX8_layLower 6 = .ok (.istore_n 2, 1) := by decide +kernel
theorem dX8_layLower_7 : decode cX8_layLower 7 = .ok (.iload_n 2, 1) := by decide +kernel
theorem dX8_layLower_8 : decode cX8_layLower 8 = .ok (.aload_n 0, 1) := by decide +kernel
theorem dX8_layLower_9 : decode cX8_layLower 9 = .ok (.getfield 13, 3) := by decide +kernel
theorem dX8_layLower_12 : decode cX8_layLower 12 = .ok (.iconst 2, 1) := by decide +kernel
theorem dX8_layLower_13 : decode cX8_layLower 13 = .ok (.iaload, 1) := by decide +kernel
theorem dX8_layLower_14 : decode cX8_layLower 14 = .ok (.if_icmp .lt 59, 3) := by decide +kernel
theorem dX8_layLower_17 : decode cX8_layLower 17 = .ok (.iload_n 1, 1) := by decide +kernel
theorem dX8_layLower_18 : decode cX8_layLower 18 = .ok (.iload_n 2, 1) := by decide +kernel
theorem dX8_layLower_19 : decode cX8_layLower 19 = .ok (.aload_n 0, 1) := by decide +kernel
theorem dX8_layLower_20 : decode cX8_layLower 20 = .ok (.getfield 13, 3) := by decide +kernel
theorem dX8_layLower_23 : decode cX8_layLower 23 = .ok (.iconst 2, 1) := by decide +kernel
theorem dX8_layLower_24 : decode cX8_layLower 24 = .ok (.iaload, 1) := by decide +kernel
theorem dX8_layLower_25 : decode cX8_layLower 25 = .ok (.isub, 1) := by decide +kernel
theorem dX8_layLower_26 : decode cX8_layLower 26 = .ok (.isub, 1) := by decide +kernel
theorem dX8_layLower_27 : decode cX8_layLower 27 = .ok (.istore_n 3, 1) := by decide +kernel
theorem dX8_layLower_28 : decode cX8_layLower 28 = .ok (.aload_n 0, 1) := by decide +kernel
theorem dX8_layLower_29 : decode cX8_layLower 29 = .ok (.getfield 13, 3) := by decide +kernel
theorem dX8_layLower_32 : decode cX8_layLower 32 = .ok (.iconst 3, 1) := by decide +kernel
theorem dX8_layLower_33 : decode cX8_layLower 33 = .ok (.iaload, 1) := by decide +kernel
theorem dX8_layLower_34 : decode cX8_layLower 34 = .ok (.iload_n 3, 1) := by decide +kernel
theorem dX8_layLower_35 : decode cX8_layLower 35 = .ok (.iadd, 1) := by decide +kernel
theorem dX8_layLower_36 : decode cX8_layLower 36 = .ok (.istore 4, 2) := by decide +kernel
theorem dX8_layLower_38 : decode cX8_layLower 38 = .ok (.iload_n 3, 1) := by decide +kernel
theorem dX8_layLower_39 : decode cX8_layLower 39 = .ok (.ifCond .lt 28, 3) := by decide +kernel
theorem dX8_layLower_42 : decode cX8_layLower 42 = .ok (.iload 4, 2) := by decide +kernel
theorem dX8_layLower_44 : decode cX8_layLower 44 = .ok (.iload_n 2, 1) := by decide +kernel
theorem dX8_layLower_45 : decode cX8_layLower 45 = .ok (.if_icmp .gt 22, 3) := by decide +kernel
theorem dX8_layLower_48 : decode cX8_layLower 48 = .ok (.aload_n 0, 1) := by decide +kernel
theorem dX8_layLower_49 : decode cX8_layLower 49 = .ok (.getfield 56, 3) := by decide +kernel
theorem dX8_layLower_52 : decode cX8_layLower 52 = .ok (.iconst 2, 1) := by decide +kernel
theorem dX8_layLower_53 : decode cX8_layLower 53 = .ok (.iload_n 2, 1) := by decide +kernel
theorem dX8_layLower_54 : decode cX8_layLower 54 = .ok (.iastore, 1) := by decide +kernel
theorem dX8_layLower_55 : decode cX8_layLower 55 = .ok (.aload_n 0, 1) := by decide +kernel
theorem dX8_layLower_56 : decode cX8_layLower 56 = .ok (.getfield 56, 3) := by decide +kernel
theorem dX8_layLower_59 : decode cX8_layLower 59 = .ok (.iconst 3, 1) := by decide +kernel
theorem dX8_layLower_60 : decode cX8_layLower 60 = .ok (.iload 4, 2) := by decide +kernel
theorem dX8_layLower_62 : decode cX8_layLower 62 = .ok (.iastore, 1) := by decide +kernel
theorem dX8_layLower_63 : decode cX8_layLower 63 = .ok (.aload_n 0, 1) := by decide +kernel
theorem dX8_layLower_64 : decode cX8_layLower 64 = .ok (.invokevirtual 251, 3) := by decide +kernel
theorem dX8_layLower_67 : decode cX8_layLower 67 = .ok (.iinc 2 (-1), 3) := by decide +kernel
theorem dX8_layLower_70 : decode cX8_layLower 70 = .ok (.goto (-63), 3) := by decide +kernel
theorem dX8_layLower_73 : decode cX8_layLower 73 = .ok (.return_, 1) := by decide +kernel
set_option maxRecDepth 20000 in
theorem ggX8_layTerms_X8_told : GoodIn wsX8_layTerms wsX8_told := goodIn_r _ [9, 10, 41, 42, 43, 44, 45, 46, 47, 48, 49, 50, 51, 52, 53, 54, 55, 56, 57, 58, 59, 60, 61, 62, 63, 64, 65, 66, 67, 68, 69, 70, 71, 72, 73, 74, 75, 76, 77, 78, 79, 80, 81, 82, 83, 84, 85, 86, 87] rfl (by decide +kernel)
set_option maxRecDepth 20000 in
theorem gX8_layTerms_X8_told : GoodIn wsX8_layTerms (wsV RX8 190 RX8 yX8_told wsX8_told) := goodIn_app (goodIn_r _ [5, 6, 7, 8] rfl (by decide +kernel)) ggX8_layTerms_X8_told
set_option maxRecDepth 20000 in
theorem ggX8_layTerms_X8_layLower : GoodIn wsX8_layTerms wsX8_layLower := goodIn_r _ [14, 4, 3, 15, 16, 17, 8, 18, 19, 2, 20, 21, 22, 23, 24, 25, 26, 27, 28, 29, 30, 31, 32, 33, 34, 35, 36, 37, 38, 39, 40, 10, 41, 42, 43, 44, 45, 46, 47, 48, 49, 50, 51, 52, 53, 54, 55, 56, 57, 58, 59, 60, 61, 62, 63, 64, 65, 66, 67, 68, 69, 70, 71, 72, 73, 74, 75, 76, 77, 78, 79, 80, 81, 82, 83, 84, 85, 86, 87] rfl (by decide +kernel)
set_option maxRecDepth 20000 in
theorem gX8_layTerms_X8_layLower : GoodIn wsX8_layTerms (wsV RX8 254 RX8 yX8_layLower wsX8_layLower) := goodIn_app (goodIn_r _ [11, 12, 13, 8] rfl (by decide +kernel)) ggX8_layTerms_X8_layLower
theorem dX8_layTerms_0 : decode cX8_layTerms 0 = .ok (.aload_n 0, 1) := by decide +kernel
theorem dX8_layTerms_1 : decode cX8_layTerms 1 = .ok (.getfield 133, 3) := by decide +kernel
theorem dX8_layTerms_4 : decode cX8_layTerms 4 = .ok (.ifCond .eq 4, 3) := by decide +kernel
theorem dX8_layTerms_7 : decode cX8_layTerms 7 = .ok (.return_, 1) := by decide +kernel
theorem dX8_layTerms_8 : decode cX8_layTerms 8 = .ok (.aload_n 0, 1) := by decide +kernel
theorem dX8_layTerms_9 : decode cX8_layTerms 9 = .ok (.iconst 1, 1) := by decide +kernel
theorem dX8_layTerms_10 : decode cX8_layTerms 10 = .ok (.putfield 133, 3) := by decide +kernel
theorem dX8_layTerms_13 : decode cX8_layTerms 13 = .ok (.aload_n 0, 1) := by decide +kernel
theorem dX8_layTerms_14 : decode cX8_layTerms 14 = .ok (.iconst 0, 1) := by decide +kernel
theorem dX8_layTerms_15 : decode cX8_layTerms 15 = .ok (.putfield 248, 3) := by decide +kernel
theorem dX8_layTerms_18 : decode cX8_layTerms 18 = .ok (.aload_n 0, 1) := by decide +kernel
theorem dX8_layTerms_19 : decode cX8_layTerms 19 = .ok (.invokevirtual 190, 3) := by decide +kernel
theorem dX8_layTerms_22 : decode cX8_layTerms 22 = .ok (.istore_n 1, 1) := by decide +kernel
theorem dX8_layTerms_23 : decode cX8_layTerms 23 = .ok (.bipush 14, 2) := by decide +kernel
theorem dX8_layTerms_25 : decode cX8_layTerms 25 = .ok (.istore_n 2, 1) := by decide +kernel
theorem dX8_layTerms_26 : decode cX8_layTerms 26 = .ok (.iload_n 2, 1) := by decide +kernel
theorem dX8_layTerms_27 : decode cX8_layTerms 27 = .ok (.aload_n 0, 1) := by decide +kernel
theorem dX8_layTerms_28 : decode cX8_layTerms 28 = .ok (.getfield 13, 3) := by decide +kernel
theorem dX8_layTerms_31 : decode cX8_layTerms 31 = .ok (.iconst 0, 1) := by decide +kernel
theorem dX8_layTerms_32 : decode cX8_layTerms 32 = .ok (.iaload, 1) := by decide +kernel
theorem dX8_layTerms_33 : decode cX8_layTerms 33 = .ok (.if_icmp .lt 70, 3) := by decide +kernel
theorem dX8_layTerms_36 : decode cX8_layTerms 36 = .ok (.iload_n 1, 1) := by decide +kernel
theorem dX8_layTerms_37 : decode cX8_layTerms 37 = .ok (.bipush 9, 2) := by decide +kernel
theorem dX8_layTerms_39 : decode cX8_layTerms 39 = .ok (.if_icmp .gt 64, 3) := by decide +kernel
theorem dX8_layTerms_42 : decode cX8_layTerms 42 = .ok (.iload_n 2, 1) := by decide +kernel
theorem dX8_layTerms_43 : decode cX8_layTerms 43 = .ok (.istore_n 3, 1) := by decide +kernel
theorem dX8_layTerms_44 : decode cX8_layTerms 44 = .ok (.iload_n 3, 1) := by decide +kernel
theorem dX8_layTerms_45 : decode cX8_layTerms 45 = .ok (.aload_n 0, 1) := by decide +kernel
theorem dX8_layTerms_46 : decode cX8_layTerms 46 = .ok (.getfield 13, 3) := by decide +kernel
theorem dX8_layTerms_49 : decode cX8_layTerms 49 = .ok (.iconst 1, 1) := by decide +kernel
theorem dX8_layTerms_50 : decode cX8_layTerms 50 = .ok (.iaload, 1) := by decide +kernel
theorem dX8_layTerms_51 : decode cX8_layTerms 51 = .ok (.if_icmp .lt 46, 3) := by decide +kernel
theorem dX8_layTerms_54 : decode cX8_layTerms 54 = .ok (.aload_n 0, 1) := by decide +kernel
theorem dX8_layTerms_55 : decode cX8_layTerms 55 = .ok (.getfield 56, 3) := by decide +kernel
theorem dX8_layTerms_58 : decode cX8_layTerms 58 = .ok (.iconst 0, 1) := by decide +kernel
theorem dX8_layTerms_59 : decode cX8_layTerms 59 = .ok (.iload_n 2, 1) := by decide +kernel
theorem dX8_layTerms_60 : decode cX8_layTerms 60 = .ok (.iastore, 1) := by decide +kernel
theorem dX8_layTerms_61 : decode cX8_layTerms 61 = .ok (.aload_n 0, 1) := by decide +kernel
theorem dX8_layTerms_62 : decode cX8_layTerms 62 = .ok (.getfield 56, 3) := by decide +kernel
theorem dX8_layTerms_65 : decode cX8_layTerms 65 = .ok (.iconst 1, 1) := by decide +kernel
theorem dX8_layTerms_66 : decode cX8_layTerms 66 = .ok (.iload_n 3, 1) := by decide +kernel
theorem dX8_layTerms_67 : decode cX8_layTerms 67 = .ok (.iastore, 1) := by decide +kernel
theorem dX8_layTerms_68 : decode cX8_layTerms 68 = .ok (.aload_n 0, 1) := by decide +kernel
theorem dX8_layTerms_69 : decode cX8_layTerms 69 = .ok (.iload_n 1, 1) := by decide +kernel
theorem dX8_layTerms_70 : decode cX8_layTerms 70 = .ok (.iload_n 2, 1) := by decide +kernel
theorem dX8_layTerms_71 : decode cX8_layTerms 71 = .ok (.aload_n 0, 1) := by decide +kernel
theorem dX8_layTerms_72 : decode cX8_layTerms 72 = .ok (.getfield 13, 3) := by decide +kernel
theorem dX8_layTerms_75 : decode cX8_layTerms 75 = .ok (.iconst 0, 1) := by decide +kernel
theorem dX8_layTerms_76 : decode cX8_layTerms 76 = .ok (.iaload, 1) := by decide +kernel
theorem dX8_layTerms_77 : decode cX8_layTerms 77 = .ok (.isub, 1) := by decide +kernel
theorem dX8_layTerms_78 : decode cX8_layTerms 78 = .ok (.isub, 1) := by decide +kernel
theorem dX8_layTerms_79 : decode cX8_layTerms 79 = .ok (.iload_n 3, 1) := by decide +kernel
theorem dX8_layTerms_80 : decode cX8_layTerms 80 = .ok (.aload_n 0, 1) := by decide +kernel
theorem dX8_layTerms_81 : decode cX8_layTerms 81 = .ok (.getfield 13, 3) := by decide +kernel
theorem dX8_layTerms_84 : decode cX8_layTerms 84 = .ok (.iconst 1, 1) := by decide +kernel
theorem dX8_layTerms_85 : decode cX8_layTerms 85 = .ok (.iaload, 1) := by decide +kernel
theorem dX8_layTerms_86 : decode cX8_layTerms 86 = .ok (.isub, 1) := by decide +kernel
theorem dX8_layTerms_87 : decode cX8_layTerms 87 = .ok (.isub, 1) := by decide +kernel
theorem dX8_layTerms_88 : decode cX8_layTerms 88 = .ok (.invokevirtual 254, 3) := by decide +kernel
theorem dX8_layTerms_91 : decode cX8_layTerms 91 = .ok (.iinc 3 (-1), 3) := by decide +kernel
theorem dX8_layTerms_94 : decode cX8_layTerms 94 = .ok (.goto (-50), 3) := by decide +kernel
theorem dX8_layTerms_97 : decode cX8_layTerms 97 = .ok (.iinc 2 (-1), 3) := by decide +kernel
theorem dX8_layTerms_100 : decode cX8_layTerms 100 = .ok (.goto (-74), 3) := by decide +kernel
theorem dX8_layTerms_103 : decode cX8_layTerms 103 = .ok (.return_, 1) := by decide +kernel
set_option maxRecDepth 20000 in
theorem ggX8_terms_X8_isBoard : GoodIn wsX8_terms wsX8_isBoard := goodIn_r _ [6, 7, 50, 51, 52, 53, 54, 55, 56, 57, 58, 59, 60, 61, 62, 63, 64, 65, 66, 67, 68, 69, 70, 71, 72, 73, 74, 75, 76, 77, 78, 79, 80, 81, 82, 83, 84, 85, 86, 87, 88, 89, 90, 91, 92, 93, 94, 95, 96] rfl (by decide +kernel)
set_option maxRecDepth 20000 in
theorem gX8_terms_X8_isBoard : GoodIn wsX8_terms (wsV RX8 151 RX8 yX8_isBoard wsX8_isBoard) := goodIn_app (goodIn_r _ [2, 3, 4, 5] rfl (by decide +kernel)) ggX8_terms_X8_isBoard
set_option maxRecDepth 20000 in
theorem ggX8_terms_X8_layTerms : GoodIn wsX8_terms wsX8_layTerms := goodIn_r _ [11, 12, 1, 13, 14, 15, 16, 17, 5, 18, 19, 20, 21, 22, 23, 24, 25, 26, 27, 28, 29, 30, 31, 32, 33, 34, 35, 36, 37, 38, 39, 40, 41, 42, 43, 44, 45, 46, 47, 48, 49, 50, 51, 52, 53, 54, 55, 56, 57, 58, 59, 60, 61, 62, 63, 64, 65, 66, 67, 68, 69, 70, 71, 72, 73, 74, 75, 76, 77, 78, 79, 80, 81, 82, 83, 84, 85, 86, 87, 88, 89, 90, 91, 92, 93, 94, 95, 96] rfl (by decide +kernel)
set_option maxRecDepth 20000 in
theorem gX8_terms_X8_layTerms : GoodIn wsX8_terms (wsV RX8 258 RX8 yX8_layTerms wsX8_layTerms) := goodIn_app (goodIn_r _ [8, 9, 10, 5] rfl (by decide +kernel)) ggX8_terms_X8_layTerms
theorem dX8_terms_0 : decode cX8_terms 0 = .ok (.aload_n 0, 1) := by decide +kernel
theorem dX8_terms_1 : decode cX8_terms 1 = .ok (.invokevirtual 151, 3) := by decide +kernel
theorem dX8_terms_4 : decode cX8_terms 4 = .ok (.ifCond .ne 6, 3) := by decide +kernel
theorem dX8_terms_7 : decode cX8_terms 7 = .ok (.bipush (-103), 2) := by decide +kernel
theorem dX8_terms_9 : decode cX8_terms 9 = .ok (.ireturn, 1) := by decide +kernel
theorem dX8_terms_10 : decode cX8_terms 10 = .ok (.aload_n 0, 1) := by decide +kernel
theorem dX8_terms_11 : decode cX8_terms 11 = .ok (.invokevirtual 258, 3) := by decide +kernel
theorem dX8_terms_14 : decode cX8_terms 14 = .ok (.aload_n 0, 1) := by decide +kernel
theorem dX8_terms_15 : decode cX8_terms 15 = .ok (.getfield 248, 3) := by decide +kernel
theorem dX8_terms_18 : decode cX8_terms 18 = .ok (.ireturn, 1) := by decide +kernel
set_option maxRecDepth 20000 in
theorem ggX8_term_X8_isBoard : GoodIn wsX8_term wsX8_isBoard := goodIn_r _ [7, 8, 53, 54, 55, 56, 57, 58, 59, 60, 61, 62, 63, 64, 65, 66, 67, 68, 69, 70, 71, 72, 73, 74, 75, 76, 77, 78, 79, 80, 81, 82, 83, 84, 85, 86, 87, 88, 89, 90, 91, 92, 93, 94, 95, 96, 97, 98, 99] rfl (by decide +kernel)
set_option maxRecDepth 20000 in
theorem gX8_term_X8_isBoard : GoodIn wsX8_term (wsV RX8 151 RX8 yX8_isBoard wsX8_isBoard) := goodIn_app (goodIn_r _ [3, 4, 5, 6] rfl (by decide +kernel)) ggX8_term_X8_isBoard
set_option maxRecDepth 20000 in
theorem ggX8_term_X8_layTerms : GoodIn wsX8_term wsX8_layTerms := goodIn_r _ [12, 13, 1, 14, 15, 16, 17, 18, 6, 19, 20, 21, 22, 23, 24, 25, 26, 27, 28, 2, 29, 30, 31, 32, 33, 34, 35, 36, 37, 38, 39, 40, 41, 42, 43, 44, 45, 46, 47, 48, 49, 53, 54, 55, 56, 57, 58, 59, 60, 61, 62, 63, 64, 65, 66, 67, 68, 69, 70, 71, 72, 73, 74, 75, 76, 77, 78, 79, 80, 81, 82, 83, 84, 85, 86, 87, 88, 89, 90, 91, 92, 93, 94, 95, 96, 97, 98, 99] rfl (by decide +kernel)
set_option maxRecDepth 20000 in
theorem gX8_term_X8_layTerms : GoodIn wsX8_term (wsV RX8 258 RX8 yX8_layTerms wsX8_layTerms) := goodIn_app (goodIn_r _ [9, 10, 11, 6] rfl (by decide +kernel)) ggX8_term_X8_layTerms
set_option maxRecDepth 20000 in
theorem ggX8_term_X8_within : GoodIn wsX8_term wsX8_within := goodIn_r _ [52] rfl (by decide +kernel)
set_option maxRecDepth 20000 in
theorem gX8_term_X8_within : GoodIn wsX8_term (va_wsS RX8 86 yX8_within wsX8_within) := goodIn_app (goodIn_r _ [50, 51, 6] rfl (by decide +kernel)) ggX8_term_X8_within
theorem dX8_term_0 : decode cX8_term 0 = .ok (.aload_n 0, 1) := by decide +kernel
theorem dX8_term_1 : decode cX8_term 1 = .ok (.invokevirtual 151, 3) := by decide +kernel
theorem dX8_term_4 : decode cX8_term 4 = .ok (.ifCond .ne 6, 3) := by decide +kernel
theorem dX8_term_7 : decode cX8_term 7 = .ok (.bipush (-101), 2) := by decide +kernel
theorem dX8_term_9 : decode cX8_term 9 = .ok (.ireturn, 1) := by decide +kernel
theorem dX8_term_10 : decode cX8_term 10 = .ok (.aload_n 0, 1) := by decide +kernel
theorem dX8_term_11 : decode cX8_term 11 = .ok (.invokevirtual 258, 3) := by decide +kernel
theorem dX8_term_14 : decode cX8_term 14 = .ok (.iload_n 1, 1) := by decide +kernel
theorem dX8_term_15 : decode cX8_term 15 = .ok (.iconst 0, 1) := by decide +kernel
theorem dX8_term_16 : decode cX8_term 16 = .ok (.aload_n 0, 1) := by decide +kernel
theorem dX8_term_17 : decode cX8_term 17 = .ok (.getfield 248, 3) := by decide +kernel
theorem dX8_term_20 : decode cX8_term 20 = .ok (.iconst 1, 1) := by decide +kernel
theorem dX8_term_21 : decode cX8_term 21 = .ok (.isub, 1) := by decide +kernel
theorem dX8_term_22 : decode cX8_term 22 = .ok (.invokestatic 86, 3) := by decide +kernel
theorem dX8_term_25 : decode cX8_term 25 = .ok (.ifCond .ne 8, 3) := by decide +kernel
theorem dX8_term_28 : decode cX8_term 28 = .ok (.bipush (-101), 2) := by decide +kernel
theorem dX8_term_30 : decode cX8_term 30 = .ok (.goto 27, 3) := by decide +kernel
theorem dX8_term_33 : decode cX8_term 33 = .ok (.iload_n 2, 1) := by decide +kernel
theorem dX8_term_34 : decode cX8_term 34 = .ok (.iconst 0, 1) := by decide +kernel
theorem dX8_term_35 : decode cX8_term 35 = .ok (.iconst 4, 1) := by decide +kernel
theorem dX8_term_36 : decode cX8_term 36 = .ok (.invokestatic 86, 3) := by decide +kernel
theorem dX8_term_39 : decode cX8_term 39 = .ok (.ifCond .eq 16, 3) := by decide +kernel
theorem dX8_term_42 : decode cX8_term 42 = .ok (.aload_n 0, 1) := by decide +kernel
theorem dX8_term_43 : decode cX8_term 43 = .ok (.getfield 53, 3) := by decide +kernel
theorem dX8_term_46 : decode cX8_term 46 = .ok (.iconst 5, 1) := by decide +kernel
theorem dX8_term_47 : decode cX8_term 47 = .ok (.iload_n 1, 1) := by decide +kernel
theorem dX8_term_48 : decode cX8_term 48 = .ok (.imul, 1) := by decide +kernel
theorem dX8_term_49 : decode cX8_term 49 = .ok (.iload_n 2, 1) := by decide +kernel
theorem dX8_term_50 : decode cX8_term 50 = .ok (.iadd, 1) := by decide +kernel
theorem dX8_term_51 : decode cX8_term 51 = .ok (.iaload, 1) := by decide +kernel
theorem dX8_term_52 : decode cX8_term 52 = .ok (.goto 5, 3) := by decide +kernel
theorem dX8_term_55 : decode cX8_term 55 = .ok (.bipush (-102), 2) := by decide +kernel
theorem dX8_term_57 : decode cX8_term 57 = .ok (.ireturn, 1) := by decide +kernel
set_option maxRecDepth 20000 in
theorem ggX8_timesOfAll_X8_layTerms : GoodIn wsX8_timesOfAll wsX8_layTerms := goodIn_r _ [7, 8, 1, 9, 10, 11, 12, 13, 6, 14, 15, 16, 17, 18, 19, 20, 21, 22, 23, 2, 24, 25, 26, 27, 28, 29, 30, 31, 32, 33, 34, 35, 36, 37, 38, 39, 40, 41, 42, 43, 44, 45, 46, 47, 48, 49, 50, 51, 52, 53, 54, 55, 56, 57, 58, 59, 60, 61, 62, 63, 64, 65, 66, 67, 68, 69, 70, 71, 72, 73, 74, 75, 76, 77, 78, 79, 80, 81, 82, 83, 84, 85, 86, 87, 88, 89, 90, 91] rfl (by decide +kernel)
set_option maxRecDepth 20000 in
theorem gX8_timesOfAll_X8_layTerms : GoodIn wsX8_timesOfAll (wsV RX8 258 RX8 yX8_layTerms wsX8_layTerms) := goodIn_app (goodIn_r _ [3, 4, 5, 6] rfl (by decide +kernel)) ggX8_timesOfAll_X8_layTerms
theorem dX8_timesOfAll_0 : decode cX8_timesOfAll 0 = .ok (.aload_n 0, 1) := by decide +kernel
theorem dX8_timesOfAll_1 : decode cX8_timesOfAll 1 = .ok (.invokevirtual 258, 3) := by decide +kernel
theorem dX8_timesOfAll_4 : decode cX8_timesOfAll 4 = .ok (.iconst 0, 1) := by decide +kernel
theorem dX8_timesOfAll_5 : decode cX8_timesOfAll 5 = .ok (.istore_n 1, 1) := by decide +kernel
theorem dX8_timesOfAll_6 : decode cX8_timesOfAll 6 = .ok (.iconst 0, 1) := by decide +kernel
theorem dX8_timesOfAll_7 : decode cX8_timesOfAll 7 = .ok (.istore_n 2, 1) := by decide +kernel
theorem dX8_timesOfAll_8 : decode cX8_timesOfAll 8 = .ok (.iload_n 2, 1) := by decide +kernel
theorem dX8_timesOfAll_9 : decode cX8_timesOfAll 9 = .ok (.aload_n 0, 1) := by decide +kernel
theorem dX8_timesOfAll_10 : decode cX8_timesOfAll 10 = .ok (.getfield 248, 3) := by decide +kernel
theorem dX8_timesOfAll_13 : decode cX8_timesOfAll 13 = .ok (.if_icmp .ge 22, 3) := by decide +kernel
theorem dX8_timesOfAll_16 : decode cX8_timesOfAll 16 = .ok (.iload_n 1, 1) := by decide +kernel
theorem dX8_timesOfAll_17 : decode cX8_timesOfAll 17 = .ok (.aload_n 0, 1) := by decide +kernel
theorem dX8_timesOfAll_18 : decode cX8_timesOfAll 18 = .ok (.getfield 53, 3) := by decide +kernel
theorem dX8_timesOfAll_21 : decode cX8_timesOfAll 21 = .ok (.iconst 5, 1) := by decide +kernel
theorem dX8_timesOfAll_22 : decode cX8_timesOfAll 22 = .ok (.iload_n 2, 1) := by decide +kernel
theorem dX8_timesOfAll_23 : decode cX8_timesOfAll 23 = .ok (.imul, 1) := by decide +kernel
theorem dX8_timesOfAll_24 : decode cX8_timesOfAll 24 = .ok (.iconst 4, 1) := by decide +kernel
theorem dX8_timesOfAll_25 : decode cX8_timesOfAll 25 = .ok (.iadd, 1) := by decide +kernel
theorem dX8_timesOfAll_26 : decode cX8_timesOfAll 26 = .ok (.iaload, 1) := by decide +kernel
theorem dX8_timesOfAll_27 : decode cX8_timesOfAll 27 = .ok (.iadd, 1) := by decide +kernel
theorem dX8_timesOfAll_28 : decode cX8_timesOfAll 28 = .ok (.istore_n 1, 1) := by decide +kernel
theorem dX8_timesOfAll_29 : decode cX8_timesOfAll 29 = .ok (.iinc 2 1, 3) := by decide +kernel
theorem dX8_timesOfAll_32 : decode cX8_timesOfAll 32 = .ok (.goto (-24), 3) := by decide +kernel
theorem dX8_timesOfAll_35 : decode cX8_timesOfAll 35 = .ok (.iload_n 1, 1) := by decide +kernel
theorem dX8_timesOfAll_36 : decode cX8_timesOfAll 36 = .ok (.ireturn, 1) := by decide +kernel
theorem dX8_could_0 : decode cX8_could 0 = .ok (.iload_n 1, 1) := by decide +kernel
theorem dX8_could_1 : decode cX8_could 1 = .ok (.tableswitch 64 0 2 #[27, 38, 53], 27) := by decide +kernel
theorem dX8_could_28 : decode cX8_could 28 = .ok (.iload_n 0, 1) := by decide +kernel
theorem dX8_could_29 : decode cX8_could 29 = .ok (.iconst 3, 1) := by decide +kernel
theorem dX8_could_30 : decode cX8_could 30 = .ok (.if_icmp .eq 7, 3) := by decide +kernel
theorem dX8_could_33 : decode cX8_could 33 = .ok (.iconst 1, 1) := by decide +kernel
theorem dX8_could_34 : decode cX8_could 34 = .ok (.goto 4, 3) := by decide +kernel
theorem dX8_could_37 : decode cX8_could 37 = .ok (.iconst 0, 1) := by decide +kernel
theorem dX8_could_38 : decode cX8_could 38 = .ok (.ireturn, 1) := by decide +kernel
theorem dX8_could_39 : decode cX8_could 39 = .ok (.iload_n 0, 1) := by decide +kernel
theorem dX8_could_40 : decode cX8_could 40 = .ok (.ifCond .eq 8, 3) := by decide +kernel
theorem dX8_could_43 : decode cX8_could 43 = .ok (.iload_n 0, 1) := by decide +kernel
theorem dX8_could_44 : decode cX8_could 44 = .ok (.iconst 3, 1) := by decide +kernel
theorem dX8_could_45 : decode cX8_could 45 = .ok (.if_icmp .ne 7, 3) := by decide +kernel
theorem dX8_could_48 : decode cX8_could 48 = .ok (.iconst 1, 1) := by decide +kernel
theorem dX8_could_49 : decode cX8_could 49 = .ok (.goto 4, 3) := by decide +kernel
theorem dX8_could_52 : decode cX8_could 52 = .ok (.iconst 0, 1) := by decide +kernel
theorem dX8_could_53 : decode cX8_could 53 = .ok (.ireturn, 1) := by decide +kernel
theorem dX8_could_54 : decode cX8_could 54 = .ok (.iload_n 0, 1) := by decide +kernel
theorem dX8_could_55 : decode cX8_could 55 = .ok (.iconst 4, 1) := by decide +kernel
theorem dX8_could_56 : decode cX8_could 56 = .ok (.if_icmp .ne 7, 3) := by decide +kernel
theorem dX8_could_59 : decode cX8_could 59 = .ok (.iconst 1, 1) := by decide +kernel
theorem dX8_could_60 : decode cX8_could 60 = .ok (.goto 4, 3) := by decide +kernel
theorem dX8_could_63 : decode cX8_could 63 = .ok (.iconst 0, 1) := by decide +kernel
theorem dX8_could_64 : decode cX8_could 64 = .ok (.ireturn, 1) := by decide +kernel
theorem dX8_could_65 : decode cX8_could 65 = .ok (.iload_n 0, 1) := by decide +kernel
theorem dX8_could_66 : decode cX8_could 66 = .ok (.iconst 2, 1) := by decide +kernel
theorem dX8_could_67 : decode cX8_could 67 = .ok (.if_icmp .eq 7, 3) := by decide +kernel
theorem dX8_could_70 : decode cX8_could 70 = .ok (.iconst 1, 1) := by decide +kernel
theorem dX8_could_71 : decode cX8_could 71 = .ok (.goto 4, 3) := by decide +kernel
theorem dX8_could_74 : decode cX8_could 74 = .ok (.iconst 0, 1) := by decide +kernel
theorem dX8_could_75 : decode cX8_could 75 = .ok (.ireturn, 1) := by decide +kernel
set_option maxRecDepth 20000 in
theorem ggX8_see_X8_within : GoodIn wsX8_see wsX8_within := goodIn_r _ [7] rfl (by decide +kernel)
set_option maxRecDepth 20000 in
theorem gX8_see_X8_within : GoodIn wsX8_see (va_wsS RX8 86 yX8_within wsX8_within) := goodIn_app (goodIn_r _ [4, 5, 6] rfl (by decide +kernel)) ggX8_see_X8_within
set_option maxRecDepth 20000 in
theorem ggX8_see_X8_isBoard : GoodIn wsX8_see wsX8_isBoard := goodIn_r _ [11, 12, 13, 14, 15, 16, 17, 18, 19, 20, 21, 22, 23, 24, 25, 26, 27, 28, 29, 30, 31, 32, 33, 34, 35, 36, 37, 38, 39, 40, 41, 42, 43, 44, 45, 46, 47, 48, 49, 50, 51, 52, 53, 54, 55, 56, 57, 58, 59] rfl (by decide +kernel)
set_option maxRecDepth 20000 in
theorem gX8_see_X8_isBoard : GoodIn wsX8_see (wsV RX8 151 RX8 yX8_isBoard wsX8_isBoard) := goodIn_app (goodIn_r _ [8, 9, 10, 6] rfl (by decide +kernel)) ggX8_see_X8_isBoard
theorem dX8_see_0 : decode cX8_see 0 = .ok (.iload_n 1, 1) := by decide +kernel
theorem dX8_see_1 : decode cX8_see 1 = .ok (.iconst 0, 1) := by decide +kernel
theorem dX8_see_2 : decode cX8_see 2 = .ok (.iconst 3, 1) := by decide +kernel
theorem dX8_see_3 : decode cX8_see 3 = .ok (.invokestatic 86, 3) := by decide +kernel
theorem dX8_see_6 : decode cX8_see 6 = .ok (.ifCond .ne 6, 3) := by decide +kernel
theorem dX8_see_9 : decode cX8_see 9 = .ok (.bipush (-102), 2) := by decide +kernel
theorem dX8_see_11 : decode cX8_see 11 = .ok (.ireturn, 1) := by decide +kernel
theorem dX8_see_12 : decode cX8_see 12 = .ok (.aload_n 0, 1) := by decide +kernel
theorem dX8_see_13 : decode cX8_see 13 = .ok (.invokevirtual 151, 3) := by decide +kernel
theorem dX8_see_16 : decode cX8_see 16 = .ok (.ifCond .ne 6, 3) := by decide +kernel
theorem dX8_see_19 : decode cX8_see 19 = .ok (.bipush (-103), 2) := by decide +kernel
theorem dX8_see_21 : decode cX8_see 21 = .ok (.ireturn, 1) := by decide +kernel
theorem dX8_see_22 : decode cX8_see 22 = .ok (.aload_n 0, 1) := by decide +kernel
theorem dX8_see_23 : decode cX8_see 23 = .ok (.getfield 148, 3) := by decide +kernel
theorem dX8_see_26 : decode cX8_see 26 = .ok (.bipush 6, 2) := by decide +kernel
theorem dX8_see_28 : decode cX8_see 28 = .ok (.if_icmp .ne 6, 3) := by decide +kernel
theorem dX8_see_31 : decode cX8_see 31 = .ok (.bipush (-104), 2) := by decide +kernel
theorem dX8_see_33 : decode cX8_see 33 = .ok (.ireturn, 1) := by decide +kernel
theorem dX8_see_34 : decode cX8_see 34 = .ok (.aload_n 0, 1) := by decide +kernel
theorem dX8_see_35 : decode cX8_see 35 = .ok (.getfield 25, 3) := by decide +kernel
theorem dX8_see_38 : decode cX8_see 38 = .ok (.aload_n 0, 1) := by decide +kernel
theorem dX8_see_39 : decode cX8_see 39 = .ok (.getfield 148, 3) := by decide +kernel
theorem dX8_see_42 : decode cX8_see 42 = .ok (.iload_n 1, 1) := by decide +kernel
theorem dX8_see_43 : decode cX8_see 43 = .ok (.iastore, 1) := by decide +kernel
theorem dX8_see_44 : decode cX8_see 44 = .ok (.aload_n 0, 1) := by decide +kernel
theorem dX8_see_45 : decode cX8_see 45 = .ok (.getfield 28, 3) := by decide +kernel
theorem dX8_see_48 : decode cX8_see 48 = .ok (.aload_n 0, 1) := by decide +kernel
theorem dX8_see_49 : decode cX8_see 49 = .ok (.getfield 148, 3) := by decide +kernel
theorem dX8_see_52 : decode cX8_see 52 = .ok (.iload_n 2, 1) := by decide +kernel
theorem dX8_see_53 : decode cX8_see 53 = .ok (.ifCond .eq 7, 3) := by decide +kernel
theorem dX8_see_56 : decode cX8_see 56 = .ok (.iconst 1, 1) := by decide +kernel
theorem dX8_see_57 : decode cX8_see 57 = .ok (.goto 4, 3) := by decide +kernel
theorem dX8_see_60 : decode cX8_see 60 = .ok (.iconst 0, 1) := by decide +kernel
theorem dX8_see_61 : decode cX8_see 61 = .ok (.iastore, 1) := by decide +kernel
theorem dX8_see_62 : decode cX8_see 62 = .ok (.aload_n 0, 1) := by decide +kernel
theorem dX8_see_63 : decode cX8_see 63 = .ok (.dup, 1) := by decide +kernel
theorem dX8_see_64 : decode cX8_see 64 = .ok (.getfield 148, 3) := by decide +kernel
theorem dX8_see_67 : decode cX8_see 67 = .ok (.iconst 1, 1) := by decide +kernel
theorem dX8_see_68 : decode cX8_see 68 = .ok (.iadd, 1) := by decide +kernel
theorem dX8_see_69 : decode cX8_see 69 = .ok (.putfield 148, 3) := by decide +kernel
theorem dX8_see_72 : decode cX8_see 72 = .ok (.aload_n 0, 1) := by decide +kernel
theorem dX8_see_73 : decode cX8_see 73 = .ok (.getfield 148, 3) := by decide +kernel
theorem dX8_see_76 : decode cX8_see 76 = .ok (.ireturn, 1) := by decide +kernel
theorem dX8_forget_0 : decode cX8_forget 0 = .ok (.aload_n 0, 1) := by decide +kernel
theorem dX8_forget_1 : decode cX8_forget 1 = .ok (.getfield 148, 3) := by decide +kernel
theorem dX8_forget_4 : decode cX8_forget 4 = .ok (.istore_n 1, 1) := by decide +kernel
theorem dX8_forget_5 : decode cX8_forget 5 = .ok (.aload_n 0, 1) := by decide +kernel
theorem dX8_forget_6 : decode cX8_forget 6 = .ok (.iconst 0, 1) := by decide +kernel
theorem dX8_forget_7 : decode cX8_forget 7 = .ok (.putfield 148, 3) := by decide +kernel
theorem dX8_forget_10 : decode cX8_forget 10 = .ok (.iload_n 1, 1) := by decide +kernel
theorem dX8_forget_11 : decode cX8_forget 11 = .ok (.ireturn, 1) := by decide +kernel
set_option maxRecDepth 20000 in
theorem ggX8_sortsNow_X8_could : GoodIn wsX8_sortsNow wsX8_could := goodIn_r _ [7] rfl (by decide +kernel)
set_option maxRecDepth 20000 in
theorem gX8_sortsNow_X8_could : GoodIn wsX8_sortsNow (va_wsS RX8 261 yX8_could wsX8_could) := goodIn_app (goodIn_r _ [4, 5, 6] rfl (by decide +kernel)) ggX8_sortsNow_X8_could
theorem dX8_sortsNow_0 : decode cX8_sortsNow 0 = .ok (.iconst 0, 1) := by decide +kernel
theorem dX8_sortsNow_1 : decode cX8_sortsNow 1 = .ok (.istore_n 1, 1) := by decide +kernel
theorem dX8_sortsNow_2 : decode cX8_sortsNow 2 = .ok (.iconst 0, 1) := by decide +kernel
theorem dX8_sortsNow_3 : decode cX8_sortsNow 3 = .ok (.istore_n 2, 1) := by decide +kernel
theorem dX8_sortsNow_4 : decode cX8_sortsNow 4 = .ok (.iload_n 2, 1) := by decide +kernel
theorem dX8_sortsNow_5 : decode cX8_sortsNow 5 = .ok (.iconst 4, 1) := by decide +kernel
theorem dX8_sortsNow_6 : decode cX8_sortsNow 6 = .ok (.if_icmp .gt 83, 3) := by decide +kernel
theorem dX8_sortsNow_9 : decode cX8_sortsNow 9 = .ok (.iconst 1, 1) := by decide +kernel
theorem dX8_sortsNow_10 : decode cX8_sortsNow 10 = .ok (.istore_n 3, 1) := by decide +kernel
theorem dX8_sortsNow_11 : decode cX8_sortsNow 11 = .ok (.iconst 0, 1) := by decide +kernel
theorem dX8_sortsNow_12 : decode cX8_sortsNow 12 = .ok (.istore 4, 2) := by decide +kernel
theorem dX8_sortsNow_14 : decode cX8_sortsNow 14 = .ok (.iload 4, 2) := by decide +kernel
theorem dX8_sortsNow_16 : decode cX8_sortsNow 16 = .ok (.aload_n 0, 1) := by decide +kernel
theorem dX8_sortsNow_17 : decode cX8_sortsNow 17 = .ok (.getfield 148, 3) := by decide +kernel
theorem dX8_sortsNow_20 : decode cX8_sortsNow 20 = .ok (.if_icmp .ge 49, 3) := by decide +kernel
theorem dX8_sortsNow_23 : decode cX8_sortsNow 23 = .ok (.iload_n 3, 1) := by decide +kernel
theorem dX8_sortsNow_24 : decode cX8_sortsNow 24 = .ok (.ifCond .eq 37, 3) := by decide +kernel
theorem dX8_sortsNow_27 : decode cX8_sortsNow 27 = .ok (.iload_n 2, 1) := by decide +kernel
theorem dX8_sortsNow_28 : decode cX8_sortsNow 28 = .ok (.aload_n 0, 1) := by decide +kernel
theorem dX8_sortsNow_29 : decode cX8_sortsNow 29 = .ok (.getfield 25, 3) := by decide +kernel
theorem dX8_sortsNow_32 : decode cX8_sortsNow 32 = .ok (.iload 4, 2) := by decide +kernel
theorem dX8_sortsNow_34 : decode cX8_sortsNow 34 = .ok (.iaload, 1) := by decide +kernel
theorem dX8_sortsNow_35 : decode cX8_sortsNow 35 = .ok (.invokestatic 261, 3) := by decide +kernel
theorem dX8_sortsNow_38 : decode cX8_sortsNow 38 = .ok (.aload_n 0, 1) := by decide +kernel
theorem dX8_sortsNow_39 : decode cX8_sortsNow 39 = .ok (.getfield 28, 3) := by decide +kernel
theorem dX8_sortsNow_42 : decode cX8_sortsNow 42 = .ok (.iload 4, 2) := by decide +kernel
theorem dX8_sortsNow_44 : decode cX8_sortsNow 44 = .ok (.iaload, 1) := by decide +kernel
theorem dX8_sortsNow_45 : decode cX8_sortsNow 45 = .ok (.iconst 1, 1) := by decide +kernel
theorem dX8_sortsNow_46 : decode cX8_sortsNow 46 = .ok (.if_icmp .ne 7, 3) := by decide +kernel
theorem dX8_sortsNow_49 : decode cX8_sortsNow 49 = .ok (.iconst 1, 1) := by decide +kernel
theorem dX8_sortsNow_50 : decode cX8_sortsNow 50 = .ok (.goto 4, 3) := by decide +kernel
theorem dX8_sortsNow_53 : decode cX8_sortsNow 53 = .ok (.iconst 0, 1) := by decide +kernel
theorem dX8_sortsNow_54 : decode cX8_sortsNow 54 = .ok (.if_icmp .ne 7, 3) := by decide +kernel
theorem dX8_sortsNow_57 : decode cX8_sortsNow 57 = .ok (.iconst 1, 1) := by decide +kernel
theorem dX8_sortsNow_58 : decode cX8_sortsNow 58 = .ok (.goto 4, 3) := by decide +kernel
theorem dX8_sortsNow_61 : decode cX8_sortsNow 61 = .ok (.iconst 0, 1) := by decide +kernel
theorem dX8_sortsNow_62 : decode cX8_sortsNow 62 = .ok (.istore_n 3, 1) := by decide +kernel
theorem dX8_sortsNow_63 : decode cX8_sortsNow 63 = .ok (.iinc 4 1, 3) := by decide +kernel
theorem dX8_sortsNow_66 : decode cX8_sortsNow 66 = .ok (.goto (-52), 3) := by decide +kernel
theorem dX8_sortsNow_69 : decode cX8_sortsNow 69 = .ok (.iload_n 1, 1) := by decide +kernel
theorem dX8_sortsNow_70 : decode cX8_sortsNow 70 = .ok (.iload_n 3, 1) := by decide +kernel
theorem dX8_sortsNow_71 : decode cX8_sortsNow 71 = .ok (.ifCond .eq 9, 3) := by decide +kernel
theorem dX8_sortsNow_74 : decode cX8_sortsNow 74 = .ok (.iconst 1, 1) := by decide +kernel
theorem dX8_sortsNow_75 : decode cX8_sortsNow 75 = .ok (.iload_n 2, 1) := by decide +kernel
theorem dX8_sortsNow_76 : decode cX8_sortsNow 76 = .ok (.ishl, 1) := by decide +kernel
theorem dX8_sortsNow_77 : decode cX8_sortsNow 77 = .ok (.goto 4, 3) := by decide +kernel
theorem dX8_sortsNow_80 : decode cX8_sortsNow 80 = .ok (.iconst 0, 1) := by decide +kernel
theorem dX8_sortsNow_81 : decode cX8_sortsNow 81 = .ok (.ior, 1) := by decide +kernel
theorem dX8_sortsNow_82 : decode cX8_sortsNow 82 = .ok (.istore_n 1, 1) := by decide +kernel
theorem dX8_sortsNow_83 : decode cX8_sortsNow 83 = .ok (.iinc 2 1, 3) := by decide +kernel
theorem dX8_sortsNow_86 : decode cX8_sortsNow 86 = .ok (.goto (-82), 3) := by decide +kernel
theorem dX8_sortsNow_89 : decode cX8_sortsNow 89 = .ok (.iload_n 1, 1) := by decide +kernel
theorem dX8_sortsNow_90 : decode cX8_sortsNow 90 = .ok (.ireturn, 1) := by decide +kernel
set_option maxRecDepth 20000 in
theorem ggX8_askNow_X8_sortsNow : GoodIn wsX8_askNow wsX8_sortsNow := goodIn_r _ [6, 7, 8, 9, 10, 11, 5, 12, 19, 20, 21, 22, 23, 24, 25, 26, 27, 28, 29, 30, 31, 32, 33, 34, 35, 36, 37, 38, 39, 40, 41, 42, 43, 44, 45, 46, 47, 48, 49, 50, 51, 52, 53, 54, 55, 56, 57, 58, 59, 60, 61, 62, 63, 64, 65] rfl (by decide +kernel)
set_option maxRecDepth 20000 in
theorem gX8_askNow_X8_sortsNow : GoodIn wsX8_askNow (wsV RX8 264 RX8 yX8_sortsNow wsX8_sortsNow) := goodIn_app (goodIn_r _ [2, 3, 4, 5] rfl (by decide +kernel)) ggX8_askNow_X8_sortsNow
set_option maxRecDepth 20000 in
theorem ggX8_askNow_X8_isIn : GoodIn wsX8_askNow wsX8_isIn := goodIn_r _ [15] rfl (by decide +kernel)
set_option maxRecDepth 20000 in
theorem gX8_askNow_X8_isIn : GoodIn wsX8_askNow (va_wsS RX8 268 yX8_isIn wsX8_isIn) := goodIn_app (goodIn_r _ [13, 14, 5] rfl (by decide +kernel)) ggX8_askNow_X8_isIn
set_option maxRecDepth 20000 in
theorem ggX8_askNow_X8_could : GoodIn wsX8_askNow wsX8_could := goodIn_r _ [12] rfl (by decide +kernel)
set_option maxRecDepth 20000 in
theorem gX8_askNow_X8_could : GoodIn wsX8_askNow (va_wsS RX8 261 yX8_could wsX8_could) := goodIn_app (goodIn_r _ [10, 11, 5] rfl (by decide +kernel)) ggX8_askNow_X8_could
set_option maxRecDepth 20000 in
theorem ggX8_askNow_X8_size : GoodIn wsX8_askNow wsX8_size := goodIn_r _ [18] rfl (by decide +kernel)
set_option maxRecDepth 20000 in
theorem gX8_askNow_X8_size : GoodIn wsX8_askNow (va_wsS RX8 271 yX8_size wsX8_size) := goodIn_app (goodIn_r _ [16, 17, 5] rfl (by decide +kernel)) ggX8_askNow_X8_size
theorem dX8_askNow_0 : decode cX8_askNow 0 = .ok (.aload_n 0, 1) := by decide +kernel
theorem dX8_askNow_1 : decode cX8_askNow 1 = .ok (.invokevirtual 264, 3) := by decide +kernel
theorem dX8_askNow_4 : decode cX8_askNow 4 = .ok (.istore_n 1, 1) := by decide +kernel
theorem dX8_askNow_5 : decode cX8_askNow 5 = .ok (.iconst (-1), 1) := by decide +kernel
theorem dX8_askNow_6 : decode cX8_askNow 6 = .ok (.istore_n 2, 1) := by decide +kernel
theorem dX8_askNow_7 : decode cX8_askNow 7 = .ok (.ldc_w 267, 3) := by decide +kernel
theorem dX8_askNow_10 : decode cX8_askNow 10 = .ok (.istore_n 3, 1) := by decide +kernel
theorem dX8_askNow_11 : decode cX8_askNow 11 = .ok (.iconst 0, 1) := by decide +kernel
theorem dX8_askNow_12 : decode cX8_askNow 12 = .ok (.istore 4, 2) := by decide +kernel
theorem dX8_askNow_14 : decode cX8_askNow 14 = .ok (.iload 4, 2) := by decide +kernel
theorem dX8_askNow_16 : decode cX8_askNow 16 = .ok (.iconst 4, 1) := by decide +kernel
theorem dX8_askNow_17 : decode cX8_askNow 17 = .ok (.if_icmp .ge 111, 3) := by decide +kernel
theorem dX8_askNow_20 : decode cX8_askNow 20 = .ok (.iload_n 1, 1) := by decide +kernel
theorem dX8_askNow_21 : decode cX8_askNow 21 = .ok (.ifCond .eq 107, 3) := by decide +kernel
theorem dX8_askNow_24 : decode cX8_askNow 24 = .ok (.iconst 0, 1) := by decide +kernel
theorem dX8_askNow_25 : decode cX8_askNow 25 = .ok (.istore 5, 2) := by decide +kernel
theorem dX8_askNow_27 : decode cX8_askNow 27 = .ok (.iconst 0, 1) := by decide +kernel
theorem dX8_askNow_28 : decode cX8_askNow 28 = .ok (.istore 6, 2) := by decide +kernel
theorem dX8_askNow_30 : decode cX8_askNow 30 = .ok (.iload 6, 2) := by decide +kernel
theorem dX8_askNow_32 : decode cX8_askNow 32 = .ok (.iconst 4, 1) := by decide +kernel
theorem dX8_askNow_33 : decode cX8_askNow 33 = .ok (.if_icmp .gt 38, 3) := by decide +kernel
theorem dX8_askNow_36 : decode cX8_askNow 36 = .ok (.iload 5, 2) := by decide +kernel
theorem dX8_askNow_38 : decode cX8_askNow 38 = .ok (.iload_n 1, 1) := by decide +kernel
theorem dX8_askNow_39 : decode cX8_askNow 39 = .ok (.iload 6, 2) := by decide +kernel
theorem dX8_askNow_41 : decode cX8_askNow 41 = .ok (.invokestatic 268, 3) := by decide +kernel
theorem dX8_askNow_44 : decode cX8_askNow 44 = .ok (.ifCond .eq 17, 3) := by decide +kernel
theorem dX8_askNow_47 : decode cX8_askNow 47 = .ok (.iload 6, 2) := by decide +kernel
theorem dX8_askNow_49 : decode cX8_askNow 49 = .ok (.iload 4, 2) := by decide +kernel
theorem dX8_askNow_51 : decode cX8_askNow 51 = .ok (.invokestatic 261, 3) := by decide +kernel
theorem dX8_askNow_54 : decode cX8_askNow 54 = .ok (.ifCond .eq 7, 3) := by decide +kernel
theorem dX8_askNow_57 : decode cX8_askNow 57 = .ok (.iconst 1, 1) := by decide +kernel
theorem dX8_askNow_58 : decode cX8_askNow 58 = .ok (.goto 4, 3) := by decide +kernel
theorem dX8_askNow_61 : decode cX8_askNow 61 = .ok (.iconst 0, 1) := by decide +kernel
theorem dX8_askNow_62 : decode cX8_askNow 62 = .ok (.iadd, 1) := by decide +kernel
theorem dX8_askNow_63 : decode cX8_askNow 63 = .ok (.istore 5, 2) := by decide +kernel
theorem dX8_askNow_65 : decode cX8_askNow 65 = .ok (.iinc 6 1, 3) := by decide +kernel
theorem dX8_askNow_68 : decode cX8_askNow 68 = .ok (.goto (-38), 3) := by decide +kernel
theorem dX8_askNow_71 : decode cX8_askNow 71 = .ok (.iload_n 1, 1) := by decide +kernel
theorem dX8_askNow_72 : decode cX8_askNow 72 = .ok (.invokestatic 271, 3) := by decide +kernel
theorem dX8_askNow_75 : decode cX8_askNow 75 = .ok (.iload 5, 2) := by decide +kernel
theorem dX8_askNow_77 : decode cX8_askNow 77 = .ok (.isub, 1) := by decide +kernel
theorem dX8_askNow_78 : decode cX8_askNow 78 = .ok (.istore 6, 2) := by decide +kernel
theorem dX8_askNow_80 : decode cX8_askNow 80 = .ok (.iload 5, 2) := by decide +kernel
theorem dX8_askNow_82 : decode cX8_askNow 82 = .ok (.iload 6, 2) := by decide +kernel
theorem dX8_askNow_84 : decode cX8_askNow 84 = .ok (.if_icmp .le 8, 3) := by decide +kernel
theorem dX8_askNow_87 : decode cX8_askNow 87 = .ok (.iload 5, 2) := by decide +kernel
theorem dX8_askNow_89 : decode cX8_askNow 89 = .ok (.goto 5, 3) := by decide +kernel
theorem dX8_askNow_92 : decode cX8_askNow 92 = .ok (.iload 6, 2) := by decide +kernel
theorem dX8_askNow_94 : decode cX8_askNow 94 = .ok (.istore 7, 2) := by decide +kernel
theorem dX8_askNow_96 : decode cX8_askNow 96 = .ok (.iload 7, 2) := by decide +kernel
theorem dX8_askNow_98 : decode cX8_askNow 98 = .ok (.iload_n 3, 1) := by decide +kernel
theorem dX8_askNow_99 : decode cX8_askNow 99 = .ok (.if_icmp .ge 8, 3) := by decide +kernel
theorem dX8_askNow_102 : decode cX8_askNow 102 = .ok (.iload 4, 2) := by decide +kernel
theorem dX8_askNow_104 : decode cX8_askNow 104 = .ok (.goto 4, 3) := by decide +kernel
theorem dX8_askNow_107 : decode cX8_askNow 107 = .ok (.iload_n 2, 1) := by decide +kernel
theorem dX8_askNow_108 : decode cX8_askNow 108 = .ok (.istore_n 2, 1) := by decide +kernel
theorem dX8_askNow_109 : decode cX8_askNow 109 = .ok (.iload 7, 2) := by decide +kernel
theorem dX8_askNow_111 : decode cX8_askNow 111 = .ok (.iload_n 3, 1) := by decide +kernel
theorem dX8_askNow_112 : decode cX8_askNow 112 = .ok (.if_icmp .ge 8, 3) := by decide +kernel
theorem dX8_askNow_115 : decode cX8_askNow 115 = .ok (.iload 7, 2) := by decide +kernel
theorem dX8_askNow_117 : decode cX8_askNow 117 = .ok (.goto 4, 3) := by decide +kernel
theorem dX8_askNow_120 : decode cX8_askNow 120 = .ok (.iload_n 3, 1) := by decide +kernel
theorem dX8_askNow_121 : decode cX8_askNow 121 = .ok (.istore_n 3, 1) := by decide +kernel
theorem dX8_askNow_122 : decode cX8_askNow 122 = .ok (.iinc 4 1, 3) := by decide +kernel
theorem dX8_askNow_125 : decode cX8_askNow 125 = .ok (.goto (-111), 3) := by decide +kernel
theorem dX8_askNow_128 : decode cX8_askNow 128 = .ok (.iload_n 2, 1) := by decide +kernel
theorem dX8_askNow_129 : decode cX8_askNow 129 = .ok (.ireturn, 1) := by decide +kernel
set_option maxRecDepth 20000 in
theorem ggX8_sorts_X8_within : GoodIn wsX8_sorts wsX8_within := goodIn_r _ [4] rfl (by decide +kernel)
set_option maxRecDepth 20000 in
theorem gX8_sorts_X8_within : GoodIn wsX8_sorts (va_wsS RX8 86 yX8_within wsX8_within) := goodIn_app (goodIn_r _ [1, 2, 3] rfl (by decide +kernel)) ggX8_sorts_X8_within
set_option maxRecDepth 20000 in
theorem ggX8_sorts_X8_sortsNow : GoodIn wsX8_sorts wsX8_sortsNow := goodIn_r _ [8, 9, 10, 11, 12, 13, 3, 14, 26, 27, 28, 29, 30, 31, 32, 33, 34, 35, 36, 37, 38, 39, 40, 41, 42, 43, 44, 45, 46, 47, 48, 49, 50, 51, 52, 53, 54, 55, 56, 57, 58, 59, 60, 61, 62, 63, 64, 65, 66, 67, 68, 69, 70, 71, 72] rfl (by decide +kernel)
set_option maxRecDepth 20000 in
theorem gX8_sorts_X8_sortsNow : GoodIn wsX8_sorts (wsV RX8 264 RX8 yX8_sortsNow wsX8_sortsNow) := goodIn_app (goodIn_r _ [5, 6, 7, 3] rfl (by decide +kernel)) ggX8_sorts_X8_sortsNow
set_option maxRecDepth 20000 in
theorem ggX8_sorts_X8_askNow : GoodIn wsX8_sorts wsX8_askNow := goodIn_r _ [18, 19, 5, 6, 7, 3, 8, 9, 10, 11, 12, 13, 14, 20, 21, 22, 23, 24, 25, 26, 27, 28, 29, 30, 31, 32, 33, 34, 35, 36, 37, 38, 39, 40, 41, 42, 43, 44, 45, 46, 47, 48, 49, 50, 51, 52, 53, 54, 55, 56, 57, 58, 59, 60, 61, 62, 63, 64, 65, 66, 67, 68, 69, 70, 71, 72] rfl (by decide +kernel)
set_option maxRecDepth 20000 in
theorem gX8_sorts_X8_askNow : GoodIn wsX8_sorts (wsV RX8 274 RX8 yX8_askNow wsX8_askNow) := goodIn_app (goodIn_r _ [15, 16, 17, 3] rfl (by decide +kernel)) ggX8_sorts_X8_askNow
theorem dX8_sorts_0 : decode cX8_sorts 0 = .ok (.iload_n 1, 1) := by decide +kernel
theorem dX8_sorts_1 : decode cX8_sorts 1 = .ok (.iconst 0, 1) := by decide +kernel
theorem dX8_sorts_2 : decode cX8_sorts 2 = .ok (.iconst 1, 1) := by decide +kernel
theorem dX8_sorts_3 : decode cX8_sorts 3 = .ok (.invokestatic 86, 3) := by decide +kernel
theorem dX8_sorts_6 : decode cX8_sorts 6 = .ok (.ifCond .ne 8, 3) := by decide +kernel
theorem dX8_sorts_9 : decode cX8_sorts 9 = .ok (.bipush (-102), 2) := by decide +kernel
theorem dX8_sorts_11 : decode cX8_sorts 11 = .ok (.goto 18, 3) := by decide +kernel
theorem dX8_sorts_14 : decode cX8_sorts 14 = .ok (.iload_n 1, 1) := by decide +kernel
theorem dX8_sorts_15 : decode cX8_sorts 15 = .ok (.ifCond .ne 10, 3) := by decide +kernel
theorem dX8_sorts_18 : decode cX8_sorts 18 = .ok (.aload_n 0, 1) := by decide +kernel
theorem dX8_sorts_19 : decode cX8_sorts 19 = .ok (.invokevirtual 264, 3) := by decide +kernel
theorem dX8_sorts_22 : decode cX8_sorts 22 = .ok (.goto 7, 3) := by decide +kernel
theorem dX8_sorts_25 : decode cX8_sorts 25 = .ok (.aload_n 0, 1) := by decide +kernel
theorem dX8_sorts_26 : decode cX8_sorts 26 = .ok (.invokevirtual 274, 3) := by decide +kernel
theorem dX8_sorts_29 : decode cX8_sorts 29 = .ok (.ireturn, 1) := by decide +kernel
theorem dX8_draw_0 : decode cX8_draw 0 = .ok (.aload_n 0, 1) := by decide +kernel
theorem dX8_draw_1 : decode cX8_draw 1 = .ok (.ldc2_w 277, 3) := by decide +kernel
theorem dX8_draw_4 : decode cX8_draw 4 = .ok (.aload_n 0, 1) := by decide +kernel
theorem dX8_draw_5 : decode cX8_draw 5 = .ok (.getfield 279, 3) := by decide +kernel
theorem dX8_draw_8 : decode cX8_draw 8 = .ok (.lmul, 1) := by decide +kernel
theorem dX8_draw_9 : decode cX8_draw 9 = .ok (.ldc2_w 283, 3) := by decide +kernel
theorem dX8_draw_12 : decode cX8_draw 12 = .ok (.ladd, 1) := by decide +kernel
theorem dX8_draw_13 : decode cX8_draw 13 = .ok (.ldc2_w 285, 3) := by decide +kernel
theorem dX8_draw_16 : decode cX8_draw 16 = .ok (.land, 1) := by decide +kernel
theorem dX8_draw_17 : decode cX8_draw 17 = .ok (.putfield 279, 3) := by decide +kernel
theorem dX8_draw_20 : decode cX8_draw 20 = .ok (.aload_n 0, 1) := by decide +kernel
theorem dX8_draw_21 : decode cX8_draw 21 = .ok (.getfield 279, 3) := by decide +kernel
theorem dX8_draw_24 : decode cX8_draw 24 = .ok (.ldc2_w 287, 3) := by decide +kernel
theorem dX8_draw_27 : decode cX8_draw 27 = .ok (.ldiv, 1) := by decide +kernel
theorem dX8_draw_28 : decode cX8_draw 28 = .ok (.iload_n 1, 1) := by decide +kernel
theorem dX8_draw_29 : decode cX8_draw 29 = .ok (.i2l, 1) := by decide +kernel
theorem dX8_draw_30 : decode cX8_draw 30 = .ok (.lrem, 1) := by decide +kernel
theorem dX8_draw_31 : decode cX8_draw 31 = .ok (.l2i, 1) := by decide +kernel
theorem dX8_draw_32 : decode cX8_draw 32 = .ok (.ireturn, 1) := by decide +kernel
theorem dX8_isAsTold_0 : decode cX8_isAsTold 0 = .ok (.iconst 1, 1) := by decide +kernel
theorem dX8_isAsTold_1 : decode cX8_isAsTold 1 = .ok (.istore_n 1, 1) := by decide +kernel
theorem dX8_isAsTold_2 : decode cX8_isAsTold 2 = .ok (.iconst 1, 1) := by decide +kernel
theorem dX8_isAsTold_3 : decode cX8_isAsTold 3 = .ok (.istore_n 2, 1) := by decide +kernel
theorem dX8_isAsTold_4 : decode cX8_isAsTold 4 = .ok (.iload_n 2, 1) := by decide +kernel
theorem dX8_isAsTold_5 : decode cX8_isAsTold 5 = .ok (.iconst 4, 1) := by decide +kernel
theorem dX8_isAsTold_6 : decode cX8_isAsTold 6 = .ok (.if_icmp .gt 70, 3) := by decide +kernel
theorem dX8_isAsTold_9 : decode cX8_isAsTold 9 = .ok (.iconst 0, 1) := by decide +kernel
theorem dX8_isAsTold_10 : decode cX8_isAsTold 10 = .ok (.istore_n 3, 1) := by decide +kernel
theorem dX8_isAsTold_11 : decode cX8_isAsTold 11 = .ok (.iconst 0, 1) := by decide +kernel
theorem dX8_isAsTold_12 : decode cX8_isAsTold 12 = .ok (.istore 4, 2) := by decide +kernel
theorem dX8_isAsTold_14 : decode cX8_isAsTold 14 = .ok (.iload 4, 2) := by decide +kernel
theorem dX8_isAsTold_16 : decode cX8_isAsTold 16 = .ok (.aload_n 0, 1) := by decide +kernel
theorem dX8_isAsTold_17 : decode cX8_isAsTold 17 = .ok (.getfield 124, 3) := by decide +kernel
theorem dX8_isAsTold_20 : decode cX8_isAsTold 20 = .ok (.if_icmp .ge 28, 3) := by decide +kernel
theorem dX8_isAsTold_23 : decode cX8_isAsTold 23 = .ok (.iload_n 3, 1) := by decide +kernel
theorem dX8_isAsTold_24 : decode cX8_isAsTold 24 = .ok (.aload_n 0, 1) := by decide +kernel
theorem dX8_isAsTold_25 : decode cX8_isAsTold 25 = .ok (.getfield 44, 3) := by decide +kernel
theorem dX8_isAsTold_28 : decode cX8_isAsTold 28 = .ok (.iload 4, 2) := by decide +kernel
theorem dX8_isAsTold_30 : decode cX8_isAsTold 30 = .ok (.iaload, 1) := by decide +kernel
theorem dX8_isAsTold_31 : decode cX8_isAsTold 31 = .ok (.iload_n 2, 1) := by decide +kernel
theorem dX8_isAsTold_32 : decode cX8_isAsTold 32 = .ok (.if_icmp .ne 7, 3) := by decide +kernel
theorem dX8_isAsTold_35 : decode cX8_isAsTold 35 = .ok (.iconst 1, 1) := by decide +kernel
theorem dX8_isAsTold_36 : decode cX8_isAsTold 36 = .ok (.goto 4, 3) := by decide +kernel
theorem dX8_isAsTold_39 : decode cX8_isAsTold 39 = .ok (.iconst 0, 1) := by decide +kernel
theorem dX8_isAsTold_40 : decode cX8_isAsTold 40 = .ok (.iadd, 1) := by decide +kernel
theorem dX8_isAsTold_41 : decode cX8_isAsTold 41 = .ok (.istore_n 3, 1) := by decide +kernel
theorem dX8_isAsTold_42 : decode cX8_isAsTold 42 = .ok (.iinc 4 1, 3) := by decide +kernel
theorem dX8_isAsTold_45 : decode cX8_isAsTold 45 = .ok (.goto (-31), 3) := by decide +kernel
theorem dX8_isAsTold_48 : decode cX8_isAsTold 48 = .ok (.iload_n 1, 1) := by decide +kernel
theorem dX8_isAsTold_49 : decode cX8_isAsTold 49 = .ok (.ifCond .eq 19, 3) := by decide +kernel
theorem dX8_isAsTold_52 : decode cX8_isAsTold 52 = .ok (.iload_n 3, 1) := by decide +kernel
theorem dX8_isAsTold_53 : decode cX8_isAsTold 53 = .ok (.aload_n 0, 1) := by decide +kernel
theorem dX8_isAsTold_54 : decode cX8_isAsTold 54 = .ok (.getfield 16, 3) := by decide +kernel
theorem dX8_isAsTold_57 : decode cX8_isAsTold 57 = .ok (.iload_n 2, 1) := by decide +kernel
theorem dX8_isAsTold_58 : decode cX8_isAsTold 58 = .ok (.iconst 1, 1) := by decide +kernel
theorem dX8_isAsTold_59 : decode cX8_isAsTold 59 = .ok (.isub, 1) := by decide +kernel
theorem dX8_isAsTold_60 : decode cX8_isAsTold 60 = .ok (.iaload, 1) := by decide +kernel
theorem dX8_isAsTold_61 : decode cX8_isAsTold 61 = .ok (.if_icmp .ne 7, 3) := by decide +kernel
theorem dX8_isAsTold_64 : decode cX8_isAsTold 64 = .ok (.iconst 1, 1) := by decide +kernel
theorem dX8_isAsTold_65 : decode cX8_isAsTold 65 = .ok (.goto 4, 3) := by decide +kernel
theorem dX8_isAsTold_68 : decode cX8_isAsTold 68 = .ok (.iconst 0, 1) := by decide +kernel
theorem dX8_isAsTold_69 : decode cX8_isAsTold 69 = .ok (.istore_n 1, 1) := by decide +kernel
theorem dX8_isAsTold_70 : decode cX8_isAsTold 70 = .ok (.iinc 2 1, 3) := by decide +kernel
theorem dX8_isAsTold_73 : decode cX8_isAsTold 73 = .ok (.goto (-69), 3) := by decide +kernel
theorem dX8_isAsTold_76 : decode cX8_isAsTold 76 = .ok (.iload_n 1, 1) := by decide +kernel
theorem dX8_isAsTold_77 : decode cX8_isAsTold 77 = .ok (.ireturn, 1) := by decide +kernel
set_option maxRecDepth 20000 in
theorem ggX8_drawnNow_X8_draw : GoodIn wsX8_drawnNow wsX8_draw := goodIn_r _ [8, 9, 1, 10, 11, 12, 46, 47, 48, 49, 50, 51, 52, 53, 54, 55, 56, 57, 58, 59, 60, 61, 62, 63, 64, 65, 66, 67, 68, 69, 70, 71, 72, 73, 74, 75, 76, 77, 78, 79, 80, 81, 82, 83, 84, 85, 86, 87, 88, 89, 90, 91, 92] rfl (by decide +kernel)
set_option maxRecDepth 20000 in
theorem gX8_drawnNow_X8_draw : GoodIn wsX8_drawnNow (wsV RX8 289 RX8 yX8_draw wsX8_draw) := goodIn_app (goodIn_r _ [4, 5, 6, 7] rfl (by decide +kernel)) ggX8_drawnNow_X8_draw
set_option maxRecDepth 20000 in
theorem ggX8_drawnNow_X8_keeps : GoodIn wsX8_drawnNow wsX8_keeps := goodIn_r _ [16, 17, 2, 18, 19, 20, 7, 21, 22, 23, 3, 24, 25, 26, 27, 28, 29, 30, 31, 32, 33, 34, 35, 36, 37, 38, 39, 40, 46, 47, 48, 49, 50, 51, 52, 53, 54, 55, 56, 57, 58, 59, 60, 61, 62, 63, 64, 65, 66, 67, 68, 69, 70, 71, 72, 73, 74, 75, 76, 77, 78, 79, 80, 81, 82, 83, 84, 85, 86, 87, 88, 89, 90, 91, 92] rfl (by decide +kernel)
set_option maxRecDepth 20000 in
theorem gX8_drawnNow_X8_keeps : GoodIn wsX8_drawnNow (wsV RX8 292 RX8 yX8_keeps wsX8_keeps) := goodIn_app (goodIn_r _ [13, 14, 15, 7] rfl (by decide +kernel)) ggX8_drawnNow_X8_keeps
set_option maxRecDepth 20000 in
theorem ggX8_drawnNow_X8_isAsTold : GoodIn wsX8_drawnNow wsX8_isAsTold := goodIn_r _ [44, 2, 3, 45, 46, 47, 48, 49, 50, 51, 52, 53, 54, 55, 56, 57, 58, 59, 60, 61, 62, 63, 64, 65, 66, 67, 68, 69, 70, 71, 72, 73, 74, 75, 76, 77, 78, 79, 80, 81, 82, 83, 84, 85, 86, 87, 88, 89, 90, 91, 92] rfl (by decide +kernel)
set_option maxRecDepth 20000 in
theorem gX8_drawnNow_X8_isAsTold : GoodIn wsX8_drawnNow (wsV RX8 295 RX8 yX8_isAsTold wsX8_isAsTold) := goodIn_app (goodIn_r _ [41, 42, 43, 7] rfl (by decide +kernel)) ggX8_drawnNow_X8_isAsTold
theorem dX8_drawnNow_0 : decode cX8_drawnNow 0 = .ok (.aload_n 0, 1) := by decide +kernel
theorem dX8_drawnNow_1 : decode cX8_drawnNow 1 = .ok (.iload_n 2, 1) := by decide +kernel
theorem dX8_drawnNow_2 : decode cX8_drawnNow 2 = .ok (.i2l, 1) := by decide +kernel
theorem dX8_drawnNow_3 : decode cX8_drawnNow 3 = .ok (.putfield 279, 3) := by decide +kernel
theorem dX8_drawnNow_6 : decode cX8_drawnNow 6 = .ok (.iconst 0, 1) := by decide +kernel
theorem dX8_drawnNow_7 : decode cX8_drawnNow 7 = .ok (.istore 4, 2) := by decide +kernel
theorem dX8_drawnNow_9 : decode cX8_drawnNow 9 = .ok (.iconst 0, 1) := by decide +kernel
theorem dX8_drawnNow_10 : decode cX8_drawnNow 10 = .ok (.istore 5, 2) := by decide +kernel
theorem dX8_drawnNow_12 : decode cX8_drawnNow 12 = .ok (.iconst 0, 1) := by decide +kernel
theorem dX8_drawnNow_13 : decode cX8_drawnNow 13 = .ok (.istore 6, 2) := by decide +kernel
theorem dX8_drawnNow_15 : decode cX8_drawnNow 15 = .ok (.iload 6, 2) := by decide +kernel
theorem dX8_drawnNow_17 : decode cX8_drawnNow 17 = .ok (.iload_n 1, 1) := by decide +kernel
theorem dX8_drawnNow_18 : decode cX8_drawnNow 18 = .ok (.if_icmp .ge 84, 3) := by decide +kernel
theorem dX8_drawnNow_21 : decode cX8_drawnNow 21 = .ok (.iconst 0, 1) := by decide +kernel
theorem dX8_drawnNow_22 : decode cX8_drawnNow 22 = .ok (.istore 7, 2) := by decide +kernel
theorem dX8_drawnNow_24 : decode cX8_drawnNow 24 = .ok (.iload 7, 2) := by decide +kernel
theorem dX8_drawnNow_26 : decode cX8_drawnNow 26 = .ok (.aload_n 0, 1) := by decide +kernel
theorem dX8_drawnNow_27 : decode cX8_drawnNow 27 = .ok (.getfield 124, 3) := by decide +kernel
theorem dX8_drawnNow_30 : decode cX8_drawnNow 30 = .ok (.if_icmp .ge 23, 3) := by decide +kernel
theorem dX8_drawnNow_33 : decode cX8_drawnNow 33 = .ok (.aload_n 0, 1) := by decide +kernel
theorem dX8_drawnNow_34 : decode cX8_drawnNow 34 = .ok (.getfield 44, 3) := by decide +kernel
theorem dX8_drawnNow_37 : decode cX8_drawnNow 37 = .ok (.iload 7, 2) := by decide +kernel
theorem dX8_drawnNow_39 : decode cX8_drawnNow 39 = .ok (.aload_n 0, 1) := by decide +kernel
theorem dX8_drawnNow_40 : decode cX8_drawnNow 40 = .ok (.iconst 4, 1) := by decide +kernel
theorem dX8_drawnNow_41 : decode cX8_drawnNow 41 = .ok (.invokevirtual 289, 3) := by decide +kernel
theorem dX8_drawnNow_44 : decode cX8_drawnNow 44 = .ok (.iconst 1, 1) := by decide +kernel
theorem dX8_drawnNow_45 : decode cX8_drawnNow 45 = .ok (.iadd, 1) := by decide +kernel
theorem dX8_drawnNow_46 : decode cX8_drawnNow 46 = .ok (.iastore, 1) := by decide +kernel
theorem dX8_drawnNow_47 : decode cX8_drawnNow 47 = .ok (.iinc 7 1, 3) := by decide +kernel
theorem dX8_drawnNow_50 : decode cX8_drawnNow 50 = .ok (.goto (-26), 3) := by decide +kernel
theorem dX8_drawnNow_53 : decode cX8_drawnNow 53 = .ok (.aload_n 0, 1) := by decide +kernel
theorem dX8_drawnNow_54 : decode cX8_drawnNow 54 = .ok (.invokevirtual 292, 3) := by decide +kernel
theorem dX8_drawnNow_57 : decode cX8_drawnNow 57 = .ok (.istore 7, 2) := by decide +kernel
theorem dX8_drawnNow_59 : decode cX8_drawnNow 59 = .ok (.iload 4, 2) := by decide +kernel
theorem dX8_drawnNow_61 : decode cX8_drawnNow 61 = .ok (.iload 7, 2) := by decide +kernel
theorem dX8_drawnNow_63 : decode cX8_drawnNow 63 = .ok (.ifCond .eq 7, 3) := by decide +kernel
theorem dX8_drawnNow_66 : decode cX8_drawnNow 66 = .ok (.iconst 1, 1) := by decide +kernel
theorem dX8_drawnNow_67 : decode cX8_drawnNow 67 = .ok (.goto 4, 3) := by decide +kernel
theorem dX8_drawnNow_70 : decode cX8_drawnNow 70 = .ok (.iconst 0, 1) := by decide +kernel
theorem dX8_drawnNow_71 : decode cX8_drawnNow 71 = .ok (.iadd, 1) := by decide +kernel
theorem dX8_drawnNow_72 : decode cX8_drawnNow 72 = .ok (.istore 4, 2) := by decide +kernel
theorem dX8_drawnNow_74 : decode cX8_drawnNow 74 = .ok (.iload 5, 2) := by decide +kernel
theorem dX8_drawnNow_76 : decode cX8_drawnNow 76 = .ok (.iload 7, 2) := by decide +kernel
theorem dX8_drawnNow_78 : decode cX8_drawnNow 78 = .ok (.ifCond .eq 14, 3) := by decide +kernel
theorem dX8_drawnNow_81 : decode cX8_drawnNow 81 = .ok (.aload_n 0, 1) := by decide +kernel
theorem dX8_drawnNow_82 : decode cX8_drawnNow 82 = .ok (.invokevirtual 295, 3) := by decide +kernel
theorem dX8_drawnNow_85 : decode cX8_drawnNow 85 = .ok (.ifCond .eq 7, 3) := by decide +kernel
theorem dX8_drawnNow_88 : decode cX8_drawnNow 88 = .ok (.iconst 1, 1) := by decide +kernel
theorem dX8_drawnNow_89 : decode cX8_drawnNow 89 = .ok (.goto 4, 3) := by decide +kernel
theorem dX8_drawnNow_92 : decode cX8_drawnNow 92 = .ok (.iconst 0, 1) := by decide +kernel
theorem dX8_drawnNow_93 : decode cX8_drawnNow 93 = .ok (.iadd, 1) := by decide +kernel
theorem dX8_drawnNow_94 : decode cX8_drawnNow 94 = .ok (.istore 5, 2) := by decide +kernel
theorem dX8_drawnNow_96 : decode cX8_drawnNow 96 = .ok (.iinc 6 1, 3) := by decide +kernel
theorem dX8_drawnNow_99 : decode cX8_drawnNow 99 = .ok (.goto (-84), 3) := by decide +kernel
theorem dX8_drawnNow_102 : decode cX8_drawnNow 102 = .ok (.iload_n 3, 1) := by decide +kernel
theorem dX8_drawnNow_103 : decode cX8_drawnNow 103 = .ok (.ifCond .ne 8, 3) := by decide +kernel
theorem dX8_drawnNow_106 : decode cX8_drawnNow 106 = .ok (.iload 4, 2) := by decide +kernel
theorem dX8_drawnNow_108 : decode cX8_drawnNow 108 = .ok (.goto 18, 3) := by decide +kernel
theorem dX8_drawnNow_111 : decode cX8_drawnNow 111 = .ok (.iload_n 3, 1) := by decide +kernel
theorem dX8_drawnNow_112 : decode cX8_drawnNow 112 = .ok (.iconst 1, 1) := by decide +kernel
theorem dX8_drawnNow_113 : decode cX8_drawnNow 113 = .ok (.if_icmp .ne 8, 3) := by decide +kernel
theorem dX8_drawnNow_116 : decode cX8_drawnNow 116 = .ok (.iload 5, 2) := by decide +kernel
theorem dX8_drawnNow_118 : decode cX8_drawnNow 118 = .ok (.goto 8, 3) := by decide +kernel
theorem dX8_drawnNow_121 : decode cX8_drawnNow 121 = .ok (.aload_n 0, 1) := by decide +kernel
theorem dX8_drawnNow_122 : decode cX8_drawnNow 122 = .ok (.getfield 279, 3) := by decide +kernel
theorem dX8_drawnNow_125 : decode cX8_drawnNow 125 = .ok (.l2i, 1) := by decide +kernel
theorem dX8_drawnNow_126 : decode cX8_drawnNow 126 = .ok (.ireturn, 1) := by decide +kernel
set_option maxRecDepth 20000 in
theorem ggX8_drawn_X8_within : GoodIn wsX8_drawn wsX8_within := goodIn_r _ [4] rfl (by decide +kernel)
set_option maxRecDepth 20000 in
theorem gX8_drawn_X8_within : GoodIn wsX8_drawn (va_wsS RX8 86 yX8_within wsX8_within) := goodIn_app (goodIn_r _ [1, 2, 3] rfl (by decide +kernel)) ggX8_drawn_X8_within
set_option maxRecDepth 20000 in
theorem ggX8_drawn_X8_isBoard : GoodIn wsX8_drawn wsX8_isBoard := goodIn_r _ [8, 9, 57, 58, 59, 60, 61, 62, 63, 64, 65, 66, 67, 68, 69, 70, 71, 72, 73, 74, 75, 76, 77, 78, 79, 80, 81, 82, 83, 84, 85, 86, 87, 88, 89, 90, 91, 92, 93, 94, 95, 96, 97, 98, 99, 100, 101, 102, 103] rfl (by decide +kernel)
set_option maxRecDepth 20000 in
theorem gX8_drawn_X8_isBoard : GoodIn wsX8_drawn (wsV RX8 151 RX8 yX8_isBoard wsX8_isBoard) := goodIn_app (goodIn_r _ [5, 6, 7, 3] rfl (by decide +kernel)) ggX8_drawn_X8_isBoard
set_option maxRecDepth 20000 in
theorem ggX8_drawn_X8_drawnNow : GoodIn wsX8_drawn wsX8_drawnNow := goodIn_r _ [13, 14, 15, 16, 17, 18, 19, 3, 20, 21, 22, 23, 24, 25, 26, 27, 28, 29, 30, 31, 32, 33, 9, 34, 35, 36, 37, 38, 39, 40, 41, 42, 43, 44, 45, 46, 47, 48, 49, 50, 51, 52, 53, 54, 55, 56, 57, 58, 59, 60, 61, 62, 63, 64, 65, 66, 67, 68, 69, 70, 71, 72, 73, 74, 75, 76, 77, 78, 79, 80, 81, 82, 83, 84, 85, 86, 87, 88, 89, 90, 91, 92, 93, 94, 95, 96, 97, 98, 99, 100, 101, 102, 103] rfl (by decide +kernel)
set_option maxRecDepth 20000 in
theorem gX8_drawn_X8_drawnNow : GoodIn wsX8_drawn (wsV RX8 298 RX8 yX8_drawnNow wsX8_drawnNow) := goodIn_app (goodIn_r _ [10, 11, 12, 3] rfl (by decide +kernel)) ggX8_drawn_X8_drawnNow
theorem dX8_drawn_0 : decode cX8_drawn 0 = .ok (.iload_n 1, 1) := by decide +kernel
theorem dX8_drawn_1 : decode cX8_drawn 1 = .ok (.iconst 1, 1) := by decide +kernel
theorem dX8_drawn_2 : decode cX8_drawn 2 = .ok (.bipush 100, 2) := by decide +kernel
theorem dX8_drawn_4 : decode cX8_drawn 4 = .ok (.invokestatic 86, 3) := by decide +kernel
theorem dX8_drawn_7 : decode cX8_drawn 7 = .ok (.ifCond .eq 16, 3) := by decide +kernel
theorem dX8_drawn_10 : decode cX8_drawn 10 = .ok (.iload_n 2, 1) := by decide +kernel
theorem dX8_drawn_11 : decode cX8_drawn 11 = .ok (.ifCond .lt 12, 3) := by decide +kernel
theorem dX8_drawn_14 : decode cX8_drawn 14 = .ok (.iload_n 3, 1) := by decide +kernel
theorem dX8_drawn_15 : decode cX8_drawn 15 = .ok (.iconst 0, 1) := by decide +kernel
theorem dX8_drawn_16 : decode cX8_drawn 16 = .ok (.iconst 2, 1) := by decide +kernel
theorem dX8_drawn_17 : decode cX8_drawn 17 = .ok (.invokestatic 86, 3) := by decide +kernel
theorem dX8_drawn_20 : decode cX8_drawn 20 = .ok (.ifCond .ne 6, 3) := by decide +kernel
theorem dX8_drawn_23 : decode cX8_drawn 23 = .ok (.bipush (-102), 2) := by decide +kernel
theorem dX8_drawn_25 : decode cX8_drawn 25 = .ok (.ireturn, 1) := by decide +kernel
theorem dX8_drawn_26 : decode cX8_drawn 26 = .ok (.aload_n 0, 1) := by decide +kernel
theorem dX8_drawn_27 : decode cX8_drawn 27 = .ok (.invokevirtual 151, 3) := by decide +kernel
theorem dX8_drawn_30 : decode cX8_drawn 30 = .ok (.ifCond .eq 13, 3) := by decide +kernel
theorem dX8_drawn_33 : decode cX8_drawn 33 = .ok (.aload_n 0, 1) := by decide +kernel
theorem dX8_drawn_34 : decode cX8_drawn 34 = .ok (.iload_n 1, 1) := by decide +kernel
theorem dX8_drawn_35 : decode cX8_drawn 35 = .ok (.iload_n 2, 1) := by decide +kernel
theorem dX8_drawn_36 : decode cX8_drawn 36 = .ok (.iload_n 3, 1) := by decide +kernel
theorem dX8_drawn_37 : decode cX8_drawn 37 = .ok (.invokevirtual 298, 3) := by decide +kernel
theorem dX8_drawn_40 : decode cX8_drawn 40 = .ok (.goto 5, 3) := by decide +kernel
theorem dX8_drawn_43 : decode cX8_drawn 43 = .ok (.bipush (-103), 2) := by decide +kernel
theorem dX8_drawn_45 : decode cX8_drawn 45 = .ok (.ireturn, 1) := by decide +kernel
set_option maxRecDepth 20000 in
theorem ggX8_image_X8_isBoard : GoodIn wsX8_image wsX8_isBoard := goodIn_r _ [25, 6, 26, 27, 28, 29, 30, 31, 32, 33, 34, 35, 36, 37, 38, 39, 40, 41, 42, 43, 44, 45, 46, 47, 48, 49, 50, 51, 52, 53, 54, 55, 56, 57, 58, 59, 60, 61, 62, 63, 64, 65, 66, 67, 68, 69, 70, 71, 72] rfl (by decide +kernel)
set_option maxRecDepth 20000 in
theorem gX8_image_X8_isBoard : GoodIn wsX8_image (wsV RX8 151 RX8 yX8_isBoard wsX8_isBoard) := goodIn_app (goodIn_r _ [21, 22, 23, 24] rfl (by decide +kernel)) ggX8_image_X8_isBoard
theorem dX8_image_0 : decode cX8_image 0 = .ok (.aload_n 0, 1) := by decide +kernel
theorem dX8_image_1 : decode cX8_image 1 = .ok (.invokevirtual 151, 3) := by decide +kernel
theorem dX8_image_4 : decode cX8_image 4 = .ok (.ifCond .ne 6, 3) := by decide +kernel
theorem dX8_image_7 : decode cX8_image 7 = .ok (.bipush (-103), 2) := by decide +kernel
theorem dX8_image_9 : decode cX8_image 9 = .ok (.ireturn, 1) := by decide +kernel
theorem dX8_image_10 : decode cX8_image 10 = .ok (.aload_n 0, 1) := by decide +kernel
theorem dX8_image_11 : decode cX8_image 11 = .ok (.iconst 1, 1) := by decide +kernel
theorem dX8_image_12 : decode cX8_image 12 = .ok (.putfield 302, 3) := by decide +kernel
theorem dX8_image_15 : decode cX8_image 15 = .ok (.aload_n 0, 1) := by decide +kernel
theorem dX8_image_16 : decode cX8_image 16 = .ok (.aload_n 0, 1) := by decide +kernel
theorem dX8_image_17 : decode cX8_image 17 = .ok (.getfield 145, 3) := by decide +kernel
theorem dX8_image_20 : decode cX8_image 20 = .ok (.putfield 305, 3) := by decide +kernel
theorem dX8_image_23 : decode cX8_image 23 = .ok (.aload_n 0, 1) := by decide +kernel
theorem dX8_image_24 : decode cX8_image 24 = .ok (.aload_n 0, 1) := by decide +kernel
theorem dX8_image_25 : decode cX8_image 25 = .ok (.getfield 139, 3) := by decide +kernel
theorem dX8_image_28 : decode cX8_image 28 = .ok (.putfield 308, 3) := by decide +kernel
theorem dX8_image_31 : decode cX8_image 31 = .ok (.aload_n 0, 1) := by decide +kernel
theorem dX8_image_32 : decode cX8_image 32 = .ok (.aload_n 0, 1) := by decide +kernel
theorem dX8_image_33 : decode cX8_image 33 = .ok (.getfield 127, 3) := by decide +kernel
theorem dX8_image_36 : decode cX8_image 36 = .ok (.putfield 311, 3) := by decide +kernel
theorem dX8_image_39 : decode cX8_image 39 = .ok (.aload_n 0, 1) := by decide +kernel
theorem dX8_image_40 : decode cX8_image 40 = .ok (.aload_n 0, 1) := by decide +kernel
theorem dX8_image_41 : decode cX8_image 41 = .ok (.getfield 148, 3) := by decide +kernel
theorem dX8_image_44 : decode cX8_image 44 = .ok (.putfield 314, 3) := by decide +kernel
theorem dX8_image_47 : decode cX8_image 47 = .ok (.iconst 0, 1) := by decide +kernel
theorem dX8_image_48 : decode cX8_image 48 = .ok (.istore_n 1, 1) := by decide +kernel
theorem dX8_image_49 : decode cX8_image 49 = .ok (.iload_n 1, 1) := by decide +kernel
theorem dX8_image_50 : decode cX8_image 50 = .ok (.iconst 4, 1) := by decide +kernel
theorem dX8_image_51 : decode cX8_image 51 = .ok (.if_icmp .ge 45, 3) := by decide +kernel
theorem dX8_image_54 : decode cX8_image 54 = .ok (.aload_n 0, 1) := by decide +kernel
theorem dX8_image_55 : decode cX8_image 55 = .ok (.getfield 71, 3) := by decide +kernel
theorem dX8_image_58 : decode cX8_image 58 = .ok (.iload_n 1, 1) := by decide +kernel
theorem dX8_image_59 : decode cX8_image 59 = .ok (.aload_n 0, 1) := by decide +kernel
theorem dX8_image_60 : decode cX8_image 60 = .ok (.getfield 7, 3) := by decide +kernel
theorem dX8_image_63 : decode cX8_image 63 = .ok (.iload_n 1, 1) := by decide +kernel
theorem dX8_image_64 : decode cX8_image 64 = .ok (.iaload, 1) := by decide +kernel
theorem dX8_image_65 : decode cX8_image 65 = .ok (.iastore, 1) := by decide +kernel
theorem dX8_image_66 : decode cX8_image 66 = .ok (.aload_n 0, 1) := by decide +kernel
theorem dX8_image_67 : decode cX8_image 67 = .ok (.getfield 74, 3) := by decide +kernel
theorem dX8_image_70 : decode cX8_image 70 = .ok (.iload_n 1, 1) := by decide +kernel
theorem dX8_image_71 : decode cX8_image 71 = .ok (.aload_n 0, 1) := by decide +kernel
theorem dX8_image_72 : decode cX8_image 72 = .ok (.getfield 13, 3) := by decide +kernel
theorem dX8_image_75 : decode cX8_image 75 = .ok (.iload_n 1, 1) := by decide +kernel
theorem dX8_image_76 : decode cX8_image 76 = .ok (.iaload, 1) := by decide +kernel
theorem dX8_image_77 : decode cX8_image 77 = .ok (.iastore, 1) := by decide +kernel
theorem dX8_image_78 : decode cX8_image 78 = .ok (.aload_n 0, 1) := by decide +kernel
theorem dX8_image_79 : decode cX8_image 79 = .ok (.getfield 77, 3) := by decide +kernel
theorem dX8_image_82 : decode cX8_image 82 = .ok (.iload_n 1, 1) := by decide +kernel
theorem dX8_image_83 : decode cX8_image 83 = .ok (.aload_n 0, 1) := by decide +kernel
theorem dX8_image_84 : decode cX8_image 84 = .ok (.getfield 16, 3) := by decide +kernel
theorem dX8_image_87 : decode cX8_image 87 = .ok (.iload_n 1, 1) := by decide +kernel
theorem dX8_image_88 : decode cX8_image 88 = .ok (.iaload, 1) := by decide +kernel
theorem dX8_image_89 : decode cX8_image 89 = .ok (.iastore, 1) := by decide +kernel
theorem dX8_image_90 : decode cX8_image 90 = .ok (.iinc 1 1, 3) := by decide +kernel
theorem dX8_image_93 : decode cX8_image 93 = .ok (.goto (-44), 3) := by decide +kernel
theorem dX8_image_96 : decode cX8_image 96 = .ok (.iconst 0, 1) := by decide +kernel
theorem dX8_image_97 : decode cX8_image 97 = .ok (.istore_n 1, 1) := by decide +kernel
theorem dX8_image_98 : decode cX8_image 98 = .ok (.iload_n 1, 1) := by decide +kernel
theorem dX8_image_99 : decode cX8_image 99 = .ok (.bipush 6, 2) := by decide +kernel
theorem dX8_image_101 : decode cX8_image 101 = .ok (.if_icmp .ge 33, 3) := by decide +kernel
theorem dX8_image_104 : decode cX8_image 104 = .ok (.aload_n 0, 1) := by decide +kernel
theorem dX8_image_105 : decode cX8_image 105 = .ok (.getfield 80, 3) := by decide +kernel
theorem dX8_image_108 : decode cX8_image 108 = .ok (.iload_n 1, 1) := by decide +kernel
theorem dX8_image_109 : decode cX8_image 109 = .ok (.aload_n 0, 1) := by decide +kernel
theorem dX8_image_110 : decode cX8_image 110 = .ok (.getfield 25, 3) := by decide +kernel
theorem dX8_image_113 : decode cX8_image 113 = .ok (.iload_n 1, 1) := by decide +kernel
theorem dX8_image_114 : decode cX8_image 114 = .ok (.iaload, 1) := by decide +kernel
theorem dX8_image_115 : decode cX8_image 115 = .ok (.iastore, 1) := by decide +kernel
theorem dX8_image_116 : decode cX8_image 116 = .ok (.aload_n 0, 1) := by decide +kernel
theorem dX8_image_117 : decode cX8_image 117 = .ok (.getfield 83, 3) := by decide +kernel
theorem dX8_image_120 : decode cX8_image 120 = .ok (.iload_n 1, 1) := by decide +kernel
theorem dX8_image_121 : decode cX8_image 121 = .ok (.aload_n 0, 1) := by decide +kernel
theorem dX8_image_122 : decode cX8_image 122 = .ok (.getfield 28, 3) := by decide +kernel
theorem dX8_image_125 : decode cX8_image 125 = .ok (.iload_n 1, 1) := by decide +kernel
theorem dX8_image_126 : decode cX8_image 126 = .ok (.iaload, 1) := by decide +kernel
theorem dX8_image_127 : decode cX8_image 127 = .ok (.iastore, 1) := by decide +kernel
theorem dX8_image_128 : decode cX8_image 128 = .ok (.iinc 1 1, 3) := by decide +kernel
theorem dX8_image_131 : decode cX8_image 131 = .ok (.goto (-33), 3) := by decide +kernel
theorem dX8_image_134 : decode cX8_image 134 = .ok (.aload_n 0, 1) := by decide +kernel
theorem dX8_image_135 : decode cX8_image 135 = .ok (.getfield 124, 3) := by decide +kernel
theorem dX8_image_138 : decode cX8_image 138 = .ok (.ireturn, 1) := by decide +kernel
set_option maxRecDepth 20000 in
theorem ggX8_restore_X8_lay : GoodIn wsX8_restore wsX8_lay := goodIn_r _ [25, 20, 7, 12, 10, 26, 27, 28, 29, 30, 31, 32, 33, 34, 35, 36, 37, 38, 39, 40, 41, 42, 43, 44, 45, 46, 47, 48, 49, 50, 51, 52, 53, 54, 55, 56, 57, 58, 59, 60, 61, 62, 63, 64, 65, 66, 67, 68, 69, 70, 71, 72, 73, 74, 75, 76] rfl (by decide +kernel)
set_option maxRecDepth 20000 in
theorem gX8_restore_X8_lay : GoodIn wsX8_restore (wsV RX8 142 RX8 yX8_lay wsX8_lay) := goodIn_app (goodIn_r _ [21, 22, 23, 24] rfl (by decide +kernel)) ggX8_restore_X8_lay
theorem dX8_restore_0 : decode cX8_restore 0 = .ok (.aload_n 0, 1) := by decide +kernel
theorem dX8_restore_1 : decode cX8_restore 1 = .ok (.getfield 302, 3) := by decide +kernel
theorem dX8_restore_4 : decode cX8_restore 4 = .ok (.ifCond .eq 14, 3) := by decide +kernel
theorem dX8_restore_7 : decode cX8_restore 7 = .ok (.aload_n 0, 1) := by decide +kernel
theorem dX8_restore_8 : decode cX8_restore 8 = .ok (.getfield 305, 3) := by decide +kernel
theorem dX8_restore_11 : decode cX8_restore 11 = .ok (.aload_n 0, 1) := by decide +kernel
theorem dX8_restore_12 : decode cX8_restore 12 = .ok (.getfield 145, 3) := by decide +kernel
theorem dX8_restore_15 : decode cX8_restore 15 = .ok (.if_icmp .eq 6, 3) := by decide +kernel
theorem dX8_restore_18 : decode cX8_restore 18 = .ok (.bipush (-103), 2) := by decide +kernel
theorem dX8_restore_20 : decode cX8_restore 20 = .ok (.ireturn, 1) := by decide +kernel
theorem dX8_restore_21 : decode cX8_restore 21 = .ok (.aload_n 0, 1) := by decide +kernel
theorem dX8_restore_22 : decode cX8_restore 22 = .ok (.aload_n 0, 1) := by decide +kernel
theorem dX8_restore_23 : decode cX8_restore 23 = .ok (.getfield 308, 3) := by decide +kernel
theorem dX8_restore_26 : decode cX8_restore 26 = .ok (.putfield 139, 3) := by decide +kernel
theorem dX8_restore_29 : decode cX8_restore 29 = .ok (.aload_n 0, 1) := by decide +kernel
theorem dX8_restore_30 : decode cX8_restore 30 = .ok (.aload_n 0, 1) := by decide +kernel
theorem dX8_restore_31 : decode cX8_restore 31 = .ok (.getfield 311, 3) := by decide +kernel
theorem dX8_restore_34 : decode cX8_restore 34 = .ok (.putfield 127, 3) := by decide +kernel
theorem dX8_restore_37 : decode cX8_restore 37 = .ok (.aload_n 0, 1) := by decide +kernel
theorem dX8_restore_38 : decode cX8_restore 38 = .ok (.aload_n 0, 1) := by decide +kernel
theorem dX8_restore_39 : decode cX8_restore 39 = .ok (.getfield 314, 3) := by decide +kernel
theorem dX8_restore_42 : decode cX8_restore 42 = .ok (.putfield 148, 3) := by decide +kernel
theorem dX8_restore_45 : decode cX8_restore 45 = .ok (.iconst 0, 1) := by decide +kernel
theorem dX8_restore_46 : decode cX8_restore 46 = .ok (.istore_n 1, 1) := by decide +kernel
theorem dX8_restore_47 : decode cX8_restore 47 = .ok (.iload_n 1, 1) := by decide +kernel
theorem dX8_restore_48 : decode cX8_restore 48 = .ok (.iconst 4, 1) := by decide +kernel
theorem dX8_restore_49 : decode cX8_restore 49 = .ok (.if_icmp .ge 45, 3) := by decide +kernel
theorem dX8_restore_52 : decode cX8_restore 52 = .ok (.aload_n 0, 1) := by decide +kernel
theorem dX8_restore_53 : decode cX8_restore 53 = .ok (.getfield 7, 3) := by decide +kernel
theorem dX8_restore_56 : decode cX8_restore 56 = .ok (.iload_n 1, 1) := by decide +kernel
theorem dX8_restore_57 : decode cX8_restore 57 = .ok (.aload_n 0, 1) := by decide +kernel
theorem dX8_restore_58 : decode cX8_restore 58 = .ok (.getfield 71, 3) := by decide +kernel
theorem dX8_restore_61 : decode cX8_restore 61 = .ok (.iload_n 1, 1) := by decide +kernel
theorem dX8_restore_62 : decode cX8_restore 62 = .ok (.iaload, 1) := by decide +kernel
theorem dX8_restore_63 : decode cX8_restore 63 = .ok (.iastore, 1) := by decide +kernel
theorem dX8_restore_64 : decode cX8_restore 64 = .ok (.aload_n 0, 1) := by decide +kernel
theorem dX8_restore_65 : decode cX8_restore 65 = .ok (.getfield 13, 3) := by decide +kernel
theorem dX8_restore_68 : decode cX8_restore 68 = .ok (.iload_n 1, 1) := by decide +kernel
theorem dX8_restore_69 : decode cX8_restore 69 = .ok (.aload_n 0, 1) := by decide +kernel
theorem dX8_restore_70 : decode cX8_restore 70 = .ok (.getfield 74, 3) := by decide +kernel
theorem dX8_restore_73 : decode cX8_restore 73 = .ok (.iload_n 1, 1) := by decide +kernel
theorem dX8_restore_74 : decode cX8_restore 74 = .ok (.iaload, 1) := by decide +kernel
theorem dX8_restore_75 : decode cX8_restore 75 = .ok (.iastore, 1) := by decide +kernel
theorem dX8_restore_76 : decode cX8_restore 76 = .ok (.aload_n 0, 1) := by decide +kernel
theorem dX8_restore_77 : decode cX8_restore 77 = .ok (.getfield 16, 3) := by decide +kernel
theorem dX8_restore_80 : decode cX8_restore 80 = .ok (.iload_n 1, 1) := by decide +kernel
theorem dX8_restore_81 : decode cX8_restore 81 = .ok (.aload_n 0, 1) := by decide +kernel
theorem dX8_restore_82 : decode cX8_restore 82 = .ok (.getfield 77, 3) := by decide +kernel
theorem dX8_restore_85 : decode cX8_restore 85 = .ok (.iload_n 1, 1) := by decide +kernel
theorem dX8_restore_86 : decode cX8_restore 86 = .ok (.iaload, 1) := by decide +kernel
theorem dX8_restore_87 : decode cX8_restore 87 = .ok (.iastore, 1) := by decide +kernel
theorem dX8_restore_88 : decode cX8_restore 88 = .ok (.iinc 1 1, 3) := by decide +kernel
theorem dX8_restore_91 : decode cX8_restore 91 = .ok (.goto (-44), 3) := by decide +kernel
theorem dX8_restore_94 : decode cX8_restore 94 = .ok (.iconst 0, 1) := by decide +kernel
theorem dX8_restore_95 : decode cX8_restore 95 = .ok (.istore_n 1, 1) := by decide +kernel
theorem dX8_restore_96 : decode cX8_restore 96 = .ok (.iload_n 1, 1) := by decide +kernel
theorem dX8_restore_97 : decode cX8_restore 97 = .ok (.bipush 6, 2) := by decide +kernel
theorem dX8_restore_99 : decode cX8_restore 99 = .ok (.if_icmp .ge 33, 3) := by decide +kernel
theorem dX8_restore_102 : decode cX8_restore 102 = .ok (.aload_n 0, 1) := by decide +kernel
theorem dX8_restore_103 : decode cX8_restore 103 = .ok (.getfield 25, 3) := by decide +kernel
theorem dX8_restore_106 : decode cX8_restore 106 = .ok (.iload_n 1, 1) := by decide +kernel
theorem dX8_restore_107 : decode cX8_restore 107 = .ok (.aload_n 0, 1) := by decide +kernel
theorem dX8_restore_108 : decode cX8_restore 108 = .ok (.getfield 80, 3) := by decide +kernel
theorem dX8_restore_111 : decode cX8_restore 111 = .ok (.iload_n 1, 1) := by decide +kernel
theorem dX8_restore_112 : decode cX8_restore 112 = .ok (.iaload, 1) := by decide +kernel
theorem dX8_restore_113 : decode cX8_restore 113 = .ok (.iastore, 1) := by decide +kernel
theorem dX8_restore_114 : decode cX8_restore 114 = .ok (.aload_n 0, 1) := by decide +kernel
theorem dX8_restore_115 : decode cX8_restore 115 = .ok (.getfield 28, 3) := by decide +kernel
theorem dX8_restore_118 : decode cX8_restore 118 = .ok (.iload_n 1, 1) := by decide +kernel
theorem dX8_restore_119 : decode cX8_restore 119 = .ok (.aload_n 0, 1) := by decide +kernel
theorem dX8_restore_120 : decode cX8_restore 120 = .ok (.getfield 83, 3) := by decide +kernel
theorem dX8_restore_123 : decode cX8_restore 123 = .ok (.iload_n 1, 1) := by decide +kernel
theorem dX8_restore_124 : decode cX8_restore 124 = .ok (.iaload, 1) := by decide +kernel
theorem dX8_restore_125 : decode cX8_restore 125 = .ok (.iastore, 1) := by decide +kernel
theorem dX8_restore_126 : decode cX8_restore 126 = .ok (.iinc 1 1, 3) := by decide +kernel
theorem dX8_restore_129 : decode cX8_restore 129 = .ok (.goto (-33), 3) := by decide +kernel
theorem dX8_restore_132 : decode cX8_restore 132 = .ok (.aload_n 0, 1) := by decide +kernel
theorem dX8_restore_133 : decode cX8_restore 133 = .ok (.invokevirtual 142, 3) := by decide +kernel
theorem dX8_restore_136 : decode cX8_restore 136 = .ok (.aload_n 0, 1) := by decide +kernel
theorem dX8_restore_137 : decode cX8_restore 137 = .ok (.getfield 124, 3) := by decide +kernel
theorem dX8_restore_140 : decode cX8_restore 140 = .ok (.ireturn, 1) := by decide +kernel
set_option maxRecDepth 20000 in
theorem ggX8_howMany_X8_isBoard : GoodIn wsX8_howMany wsX8_isBoard := goodIn_r _ [10, 2, 110, 111, 112, 113, 114, 115, 116, 117, 118, 119, 120, 121, 122, 123, 124, 125, 126, 127, 128, 129, 130, 131, 132, 133, 134, 135, 136, 137, 138, 139, 140, 141, 142, 143, 144, 145, 146, 147, 148, 149, 150, 151, 152, 153, 154, 155, 156] rfl (by decide +kernel)
set_option maxRecDepth 20000 in
theorem gX8_howMany_X8_isBoard : GoodIn wsX8_howMany (wsV RX8 151 RX8 yX8_isBoard wsX8_isBoard) := goodIn_app (goodIn_r _ [6, 7, 8, 9] rfl (by decide +kernel)) ggX8_howMany_X8_isBoard
set_option maxRecDepth 20000 in
theorem ggX8_howMany_X8_ways : GoodIn wsX8_howMany wsX8_ways := goodIn_r _ [14, 15, 1, 16, 17, 18, 19, 9, 20, 21, 22, 23, 24, 25, 26, 27, 28, 29, 30, 31, 32, 33, 34, 35, 36, 37, 38, 39, 40, 41, 42, 43, 44, 45, 46, 47, 48, 49, 50, 51, 52, 53, 54, 55, 56, 57, 58, 59, 60, 61, 62, 63, 2, 110, 111, 112, 113, 114, 115, 116, 117, 118, 119, 120, 121, 122, 123, 124, 125, 126, 127, 128, 129, 130, 131, 132, 133, 134, 135, 136, 137, 138, 139, 140, 141, 142, 143, 144, 145, 146, 147, 148, 149, 150, 151, 152, 153, 154, 155, 156] rfl (by decide +kernel)
set_option maxRecDepth 20000 in
theorem gX8_howMany_X8_ways : GoodIn wsX8_howMany (wsV RX8 202 RX8 yX8_ways wsX8_ways) := goodIn_app (goodIn_r _ [11, 12, 13, 9] rfl (by decide +kernel)) ggX8_howMany_X8_ways
set_option maxRecDepth 20000 in
theorem ggX8_howMany_X8_terms : GoodIn wsX8_howMany wsX8_terms := goodIn_r _ [67, 68, 6, 7, 8, 9, 10, 2, 69, 70, 71, 72, 73, 74, 75, 17, 18, 19, 20, 21, 76, 77, 78, 79, 80, 81, 82, 83, 84, 85, 86, 87, 88, 89, 90, 91, 92, 93, 94, 95, 96, 97, 98, 99, 100, 101, 102, 103, 104, 105, 110, 111, 112, 113, 114, 115, 116, 117, 118, 119, 120, 121, 122, 123, 124, 125, 126, 127, 128, 129, 130, 131, 132, 133, 134, 135, 136, 137, 138, 139, 140, 141, 142, 143, 144, 145, 146, 147, 148, 149, 150, 151, 152, 153, 154, 155, 156] rfl (by decide +kernel)
set_option maxRecDepth 20000 in
theorem gX8_howMany_X8_terms : GoodIn wsX8_howMany (wsV RX8 317 RX8 yX8_terms wsX8_terms) := goodIn_app (goodIn_r _ [64, 65, 66, 9] rfl (by decide +kernel)) ggX8_howMany_X8_terms
set_option maxRecDepth 20000 in
theorem ggX8_howMany_X8_timesOfAll : GoodIn wsX8_howMany wsX8_timesOfAll := goodIn_r _ [109, 68, 84, 69, 70, 71, 9, 72, 73, 74, 75, 17, 18, 19, 20, 21, 76, 77, 78, 79, 80, 81, 82, 83, 85, 86, 87, 88, 89, 90, 91, 92, 93, 94, 95, 96, 97, 98, 99, 100, 101, 102, 103, 104, 105, 110, 111, 112, 113, 114, 115, 116, 117, 118, 119, 120, 121, 122, 123, 124, 125, 126, 127, 128, 129, 130, 131, 132, 133, 134, 135, 136, 137, 138, 139, 140, 141, 142, 143, 144, 145, 146, 147, 148, 149, 150, 151, 152, 153, 154, 155, 156] rfl (by decide +kernel)
set_option maxRecDepth 20000 in
theorem gX8_howMany_X8_timesOfAll : GoodIn wsX8_howMany (wsV RX8 319 RX8 yX8_timesOfAll wsX8_timesOfAll) := goodIn_app (goodIn_r _ [106, 107, 108, 9] rfl (by decide +kernel)) ggX8_howMany_X8_timesOfAll
theorem dX8_howMany_0 : decode cX8_howMany 0 = .ok (.iload_n 1, 1) := by decide +kernel
theorem dX8_howMany_1 : decode cX8_howMany 1 = .ok (.tableswitch 120 0 7 #[47, 52, 57, 73, 89, 105, 110, 115], 47) := by decide +kernel
theorem dX8_howMany_48 : decode cX8_howMany 48 = .ok (.aload_n 0, 1) := by decide +kernel
theorem dX8_howMany_49 : decode cX8_howMany 49 = .ok (.getfield 124, 3) := by decide +kernel
theorem dX8_howMany_52 : decode cX8_howMany 52 = .ok (.ireturn, 1) := by decide +kernel
theorem dX8_howMany_53 : decode cX8_howMany 53 = .ok (.aload_n 0, 1) := by decide +kernel
theorem dX8_howMany_54 : decode cX8_howMany 54 = .ok (.getfield 127, 3) := by decide +kernel
theorem dX8_howMany_57 : decode cX8_howMany 57 = .ok (.ireturn, 1) := by decide +kernel
theorem dX8_howMany_58 : decode cX8_howMany 58 = .ok (.aload_n 0, 1) := by decide +kernel
theorem dX8_howMany_59 : decode cX8_howMany 59 = .ok (.invokevirtual 151, 3) := by decide +kernel
theorem dX8_howMany_62 : decode cX8_howMany 62 = .ok (.ifCond .eq 10, 3) := by decide +kernel
theorem dX8_howMany_65 : decode cX8_howMany 65 = .ok (.aload_n 0, 1) := by decide +kernel
theorem dX8_howMany_66 : decode cX8_howMany 66 = .ok (.invokevirtual 202, 3) := by decide +kernel
theorem dX8_howMany_69 : decode cX8_howMany 69 = .ok (.goto 4, 3) := by decide +kernel
theorem dX8_howMany_72 : decode cX8_howMany 72 = .ok (.iconst 0, 1) := by decide +kernel
theorem dX8_howMany_73 : decode cX8_howMany 73 = .ok (.ireturn, 1) := by decide +kernel
theorem dX8_howMany_74 : decode cX8_howMany 74 = .ok (.aload_n 0, 1) := by decide +kernel
theorem dX8_howMany_75 : decode cX8_howMany 75 = .ok (.invokevirtual 151, 3) := by decide +kernel
theorem dX8_howMany_78 : decode cX8_howMany 78 = .ok (.ifCond .eq 10, 3) := by decide +kernel
theorem dX8_howMany_81 : decode cX8_howMany 81 = .ok (.aload_n 0, 1) := by decide +kernel
theorem dX8_howMany_82 : decode cX8_howMany 82 = .ok (.invokevirtual 317, 3) := by decide +kernel
theorem dX8_howMany_85 : decode cX8_howMany 85 = .ok (.goto 4, 3) := by decide +kernel
theorem dX8_howMany_88 : decode cX8_howMany 88 = .ok (.iconst 0, 1) := by decide +kernel
theorem dX8_howMany_89 : decode cX8_howMany 89 = .ok (.ireturn, 1) := by decide +kernel
theorem dX8_howMany_90 : decode cX8_howMany 90 = .ok (.aload_n 0, 1) := by decide +kernel
theorem dX8_howMany_91 : decode cX8_howMany 91 = .ok (.invokevirtual 151, 3) := by decide +kernel
theorem dX8_howMany_94 : decode cX8_howMany 94 = .ok (.ifCond .eq 10, 3) := by decide +kernel
theorem dX8_howMany_97 : decode cX8_howMany 97 = .ok (.aload_n 0, 1) := by decide +kernel
theorem dX8_howMany_98 : decode cX8_howMany 98 = .ok (.invokevirtual 319, 3) := by decide +kernel
theorem dX8_howMany_101 : decode cX8_howMany 101 = .ok (.goto 4, 3) := by decide +kernel
theorem dX8_howMany_104 : decode cX8_howMany 104 = .ok (.iconst 0, 1) := by decide +kernel
theorem dX8_howMany_105 : decode cX8_howMany 105 = .ok (.ireturn, 1) := by decide +kernel
theorem dX8_howMany_106 : decode cX8_howMany 106 = .ok (.aload_n 0, 1) := by decide +kernel
theorem dX8_howMany_107 : decode cX8_howMany 107 = .ok (.getfield 148, 3) := by decide +kernel
theorem dX8_howMany_110 : decode cX8_howMany 110 = .ok (.ireturn, 1) := by decide +kernel
theorem dX8_howMany_111 : decode cX8_howMany 111 = .ok (.aload_n 0, 1) := by decide +kernel
theorem dX8_howMany_112 : decode cX8_howMany 112 = .ok (.getfield 90, 3) := by decide +kernel
theorem dX8_howMany_115 : decode cX8_howMany 115 = .ok (.ireturn, 1) := by decide +kernel
theorem dX8_howMany_116 : decode cX8_howMany 116 = .ok (.aload_n 0, 1) := by decide +kernel
theorem dX8_howMany_117 : decode cX8_howMany 117 = .ok (.getfield 145, 3) := by decide +kernel
theorem dX8_howMany_120 : decode cX8_howMany 120 = .ok (.ireturn, 1) := by decide +kernel
theorem dX8_howMany_121 : decode cX8_howMany 121 = .ok (.bipush (-102), 2) := by decide +kernel
theorem dX8_howMany_123 : decode cX8_howMany 123 = .ok (.ireturn, 1) := by decide +kernel
set_option maxRecDepth 20000 in
theorem ggX8_count_X8_howMany : GoodIn wsX8_count wsX8_howMany := goodIn_r _ [5, 6, 7, 8, 9, 10, 11, 12, 13, 4, 14, 15, 16, 17, 18, 19, 20, 21, 22, 23, 24, 25, 26, 27, 28, 29, 30, 31, 32, 33, 34, 35, 36, 37, 38, 39, 40, 41, 42, 43, 44, 45, 46, 47, 48, 49, 50, 51, 52, 53, 54, 55, 56, 57, 58, 59, 60, 61, 62, 63, 64, 65, 66, 67, 68, 69, 70, 71, 72, 73, 74, 75, 76, 77, 78, 79, 80, 81, 82, 83, 84, 85, 86, 87, 88, 89, 90, 91, 92, 93, 94, 95, 96, 97, 98, 99, 100, 101, 102, 103, 104, 105, 106, 107, 108, 109, 110, 111, 112, 113, 114, 115, 116, 117, 118, 119, 120, 121, 122, 123, 124, 125, 126, 127, 128, 129, 130, 131, 132, 133, 134, 135, 136, 137, 138, 139, 140, 141, 142, 143, 144, 145, 146, 147, 148, 149, 150, 151, 152, 153, 154, 155, 156, 157, 158, 159, 160] rfl (by decide +kernel)
set_option maxRecDepth 20000 in
theorem gX8_count_X8_howMany : GoodIn wsX8_count (wsV RX8 322 RX8 yX8_howMany wsX8_howMany) := goodIn_app (goodIn_r _ [1, 2, 3, 4] rfl (by decide +kernel)) ggX8_count_X8_howMany
theorem dX8_count_0 : decode cX8_count 0 = .ok (.aload_n 0, 1) := by decide +kernel
theorem dX8_count_1 : decode cX8_count 1 = .ok (.iload_n 1, 1) := by decide +kernel
theorem dX8_count_2 : decode cX8_count 2 = .ok (.invokevirtual 322, 3) := by decide +kernel
theorem dX8_count_5 : decode cX8_count 5 = .ok (.ireturn, 1) := by decide +kernel
theorem dX8_mix_0 : decode cX8_mix 0 = .ok (.aload_n 0, 1) := by decide +kernel
theorem dX8_mix_1 : decode cX8_mix 1 = .ok (.ldc2_w 325, 3) := by decide +kernel
theorem dX8_mix_4 : decode cX8_mix 4 = .ok (.aload_n 0, 1) := by decide +kernel
theorem dX8_mix_5 : decode cX8_mix 5 = .ok (.getfield 327, 3) := by decide +kernel
theorem dX8_mix_8 : decode cX8_mix 8 = .ok (.lmul, 1) := by decide +kernel
theorem dX8_mix_9 : decode cX8_mix 9 = .ok (.lload_n 1, 1) := by decide +kernel
theorem dX8_mix_10 : decode cX8_mix 10 = .ok (.ladd, 1) := by decide +kernel
theorem dX8_mix_11 : decode cX8_mix 11 = .ok (.putfield 327, 3) := by decide +kernel
theorem dX8_mix_14 : decode cX8_mix 14 = .ok (.return_, 1) := by decide +kernel
set_option maxRecDepth 20000 in
theorem ggX8_mixWay_X8_find : GoodIn wsX8_mixWay wsX8_find := goodIn_r _ [8, 1, 9, 10, 11, 7, 12, 3, 13, 14, 15, 16, 17, 18, 19, 20, 21, 22, 23, 24, 25, 26, 27, 28, 2, 29, 30, 31, 32, 33, 34, 35, 36, 37, 38, 39, 40, 41, 42, 43, 44, 45, 46, 47, 48, 49, 50, 51, 52, 53, 54, 55, 56, 57, 58, 59, 60, 61, 62, 63, 64, 65, 66, 67, 79, 80, 81, 82, 83, 84, 85, 86, 87, 88, 89, 90, 91, 92, 93, 94, 95, 96, 97, 98, 99, 100, 101, 102, 103, 104, 105, 106, 107, 108, 109, 110, 111, 112, 113, 114, 115, 116, 117, 118, 119, 120, 121, 122, 123, 124, 125] rfl (by decide +kernel)
set_option maxRecDepth 20000 in
theorem gX8_mixWay_X8_find : GoodIn wsX8_mixWay (wsV RX8 226 RX8 yX8_find wsX8_find) := goodIn_app (goodIn_r _ [4, 5, 6, 7] rfl (by decide +kernel)) ggX8_mixWay_X8_find
set_option maxRecDepth 20000 in
theorem ggX8_mixWay_X8_mix : GoodIn wsX8_mixWay wsX8_mix := goodIn_r _ [71, 72, 73, 79, 80, 81, 82, 83, 84, 85, 86, 87, 88, 89, 90, 91, 92, 93, 94, 95, 96, 97, 98, 99, 100, 101, 102, 103, 104, 105, 106, 107, 108, 109, 110, 111, 112, 113, 114, 115, 116, 117, 118, 119, 120, 121, 122, 123, 124, 125] rfl (by decide +kernel)
set_option maxRecDepth 20000 in
theorem gX8_mixWay_X8_mix : GoodIn wsX8_mixWay (wsV RX8 330 RX8 yX8_mix wsX8_mix) := goodIn_app (goodIn_r _ [68, 69, 70, 7] rfl (by decide +kernel)) ggX8_mixWay_X8_mix
set_option maxRecDepth 20000 in
theorem ggX8_mixWay_X8_hiveNow : GoodIn wsX8_mixWay wsX8_hiveNow := goodIn_r _ [77, 78, 1, 47, 2, 79, 80, 81, 82, 83, 84, 85, 86, 87, 88, 89, 90, 91, 92, 93, 94, 95, 96, 97, 98, 99, 100, 101, 102, 103, 104, 105, 106, 107, 108, 109, 110, 111, 112, 113, 114, 115, 116, 117, 118, 119, 120, 121, 122, 123, 124, 125] rfl (by decide +kernel)
set_option maxRecDepth 20000 in
theorem gX8_mixWay_X8_hiveNow : GoodIn wsX8_mixWay (wsV RX8 229 RX8 yX8_hiveNow wsX8_hiveNow) := goodIn_app (goodIn_r _ [74, 75, 76, 7] rfl (by decide +kernel)) ggX8_mixWay_X8_hiveNow
theorem dX8_mixWay_0 : decode cX8_mixWay 0 = .ok (.aload_n 0, 1) := by decide +kernel
theorem dX8_mixWay_1 : decode cX8_mixWay 1 = .ok (.iload_n 1, 1) := by decide +kernel
theorem dX8_mixWay_2 : decode cX8_mixWay 2 = .ok (.invokevirtual 226, 3) := by decide +kernel
theorem dX8_mixWay_5 : decode cX8_mixWay 5 = .ok (.pop, 1) := by decide +kernel
theorem dX8_mixWay_6 : decode cX8_mixWay 6 = .ok (.iconst 0, 1) := by decide +kernel
theorem dX8_mixWay_7 : decode cX8_mixWay 7 = .ok (.istore_n 2, 1) := by decide +kernel
theorem dX8_mixWay_8 : decode cX8_mixWay 8 = .ok (.iload_n 2, 1) := by decide +kernel
theorem dX8_mixWay_9 : decode cX8_mixWay 9 = .ok (.aload_n 0, 1) := by decide +kernel
theorem dX8_mixWay_10 : decode cX8_mixWay 10 = .ok (.getfield 124, 3) := by decide +kernel
theorem dX8_mixWay_13 : decode cX8_mixWay 13 = .ok (.if_icmp .ge 20, 3) := by decide +kernel
theorem dX8_mixWay_16 : decode cX8_mixWay 16 = .ok (.aload_n 0, 1) := by decide +kernel
theorem dX8_mixWay_17 : decode cX8_mixWay 17 = .ok (.aload_n 0, 1) := by decide +kernel
theorem dX8_mixWay_18 : decode cX8_mixWay 18 = .ok (.getfield 44, 3) := by decide +kernel
theorem dX8_mixWay_21 : decode cX8_mixWay 21 = .ok (.iload_n 2, 1) := by decide +kernel
theorem dX8_mixWay_22 : decode cX8_mixWay 22 = .ok (.iaload, 1) := by decide +kernel
theorem dX8_mixWay_23 : decode cX8_mixWay 23 = .ok (.i2l, 1) := by decide +kernel
theorem dX8_mixWay_24 : decode cX8_mixWay 24 = .ok (.invokevirtual 330, 3) := by decide +kernel
theorem dX8_mixWay_27 : decode cX8_mixWay 27 = .ok (.iinc 2 1, 3) := by decide +kernel
theorem dX8_mixWay_30 : decode cX8_mixWay 30 = .ok (.goto (-22), 3) := by decide +kernel
theorem dX8_mixWay_33 : decode cX8_mixWay 33 = .ok (.iconst 0, 1) := by decide +kernel
theorem dX8_mixWay_34 : decode cX8_mixWay 34 = .ok (.istore_n 2, 1) := by decide +kernel
theorem dX8_mixWay_35 : decode cX8_mixWay 35 = .ok (.iload_n 2, 1) := by decide +kernel
theorem dX8_mixWay_36 : decode cX8_mixWay 36 = .ok (.aload_n 0, 1) := by decide +kernel
theorem dX8_mixWay_37 : decode cX8_mixWay 37 = .ok (.getfield 127, 3) := by decide +kernel
theorem dX8_mixWay_40 : decode cX8_mixWay 40 = .ok (.if_icmp .gt 33, 3) := by decide +kernel
theorem dX8_mixWay_43 : decode cX8_mixWay 43 = .ok (.iconst 0, 1) := by decide +kernel
theorem dX8_mixWay_44 : decode cX8_mixWay 44 = .ok (.istore_n 3, 1) := by decide +kernel
theorem dX8_mixWay_45 : decode cX8_mixWay 45 = .ok (.iload_n 3, 1) := by decide +kernel
theorem dX8_mixWay_46 : decode cX8_mixWay 46 = .ok (.iconst 4, 1) := by decide +kernel
theorem dX8_mixWay_47 : decode cX8_mixWay 47 = .ok (.if_icmp .gt 20, 3) := by decide +kernel
theorem dX8_mixWay_50 : decode cX8_mixWay 50 = .ok (.aload_n 0, 1) := by decide +kernel
theorem dX8_mixWay_51 : decode cX8_mixWay 51 = .ok (.aload_n 0, 1) := by decide +kernel
theorem dX8_mixWay_52 : decode cX8_mixWay 52 = .ok (.iload_n 2, 1) := by decide +kernel
theorem dX8_mixWay_53 : decode cX8_mixWay 53 = .ok (.iload_n 3, 1) := by decide +kernel
theorem dX8_mixWay_54 : decode cX8_mixWay 54 = .ok (.invokevirtual 229, 3) := by decide +kernel
theorem dX8_mixWay_57 : decode cX8_mixWay 57 = .ok (.i2l, 1) := by decide +kernel
theorem dX8_mixWay_58 : decode cX8_mixWay 58 = .ok (.invokevirtual 330, 3) := by decide +kernel
theorem dX8_mixWay_61 : decode cX8_mixWay 61 = .ok (.iinc 3 1, 3) := by decide +kernel
theorem dX8_mixWay_64 : decode cX8_mixWay 64 = .ok (.goto (-19), 3) := by decide +kernel
theorem dX8_mixWay_67 : decode cX8_mixWay 67 = .ok (.iinc 2 1, 3) := by decide +kernel
theorem dX8_mixWay_70 : decode cX8_mixWay 70 = .ok (.goto (-35), 3) := by decide +kernel
theorem dX8_mixWay_73 : decode cX8_mixWay 73 = .ok (.return_, 1) := by decide +kernel
set_option maxRecDepth 20000 in
theorem ggX8_mixBoard_X8_aboutNow : GoodIn wsX8_mixBoard wsX8_aboutNow := goodIn_r _ [7, 8, 9, 10, 11, 12, 13, 6, 14, 15, 16, 17, 18, 19, 20, 21, 22, 23, 24, 25, 26, 27, 28, 29, 30, 31, 32, 33, 34, 35, 36, 37, 38, 39, 40, 41, 42, 43, 44, 45, 46, 47, 48, 49, 50, 51, 52, 53, 54, 55, 56, 57, 58, 59, 60, 61, 62, 136, 137, 138, 139, 140, 141, 142, 143, 144, 145, 146, 147, 148, 149, 150, 151, 152, 153, 154, 155, 156, 157, 158, 159, 160, 161, 162, 163, 164, 165, 166, 167, 168, 169, 170, 171, 172, 173, 174, 175, 176, 177, 178, 179, 180, 181, 182] rfl (by decide +kernel)
set_option maxRecDepth 20000 in
theorem gX8_mixBoard_X8_aboutNow : GoodIn wsX8_mixBoard (wsV RX8 211 RX8 yX8_aboutNow wsX8_aboutNow) := goodIn_app (goodIn_r _ [3, 4, 5, 6] rfl (by decide +kernel)) ggX8_mixBoard_X8_aboutNow
set_option maxRecDepth 20000 in
theorem ggX8_mixBoard_X8_mix : GoodIn wsX8_mixBoard wsX8_mix := goodIn_r _ [66, 67, 68, 136, 137, 138, 139, 140, 141, 142, 143, 144, 145, 146, 147, 148, 149, 150, 151, 152, 153, 154, 155, 156, 157, 158, 159, 160, 161, 162, 163, 164, 165, 166, 167, 168, 169, 170, 171, 172, 173, 174, 175, 176, 177, 178, 179, 180, 181, 182] rfl (by decide +kernel)
set_option maxRecDepth 20000 in
theorem gX8_mixBoard_X8_mix : GoodIn wsX8_mixBoard (wsV RX8 330 RX8 yX8_mix wsX8_mix) := goodIn_app (goodIn_r _ [63, 64, 65, 6] rfl (by decide +kernel)) ggX8_mixBoard_X8_mix
set_option maxRecDepth 20000 in
theorem ggX8_mixBoard_X8_letters : GoodIn wsX8_mixBoard wsX8_letters := goodIn_r _ [72, 10, 73, 74, 75, 6, 76, 136, 137, 138, 139, 140, 141, 142, 143, 144, 145, 146, 147, 148, 149, 150, 151, 152, 153, 154, 155, 156, 157, 158, 159, 160, 161, 162, 163, 164, 165, 166, 167, 168, 169, 170, 171, 172, 173, 174, 175, 176, 177, 178, 179, 180, 181, 182] rfl (by decide +kernel)
set_option maxRecDepth 20000 in
theorem gX8_mixBoard_X8_letters : GoodIn wsX8_mixBoard (wsV RX8 158 RX8 yX8_letters wsX8_letters) := goodIn_app (goodIn_r _ [69, 70, 71, 6] rfl (by decide +kernel)) ggX8_mixBoard_X8_letters
set_option maxRecDepth 20000 in
theorem ggX8_mixBoard_X8_letterAt : GoodIn wsX8_mixBoard wsX8_letterAt := goodIn_r _ [80, 8, 10, 81, 82, 15, 83, 84, 6, 85, 136, 137, 138, 139, 140, 141, 142, 143, 144, 145, 146, 147, 148, 149, 150, 151, 152, 153, 154, 155, 156, 157, 158, 159, 160, 161, 162, 163, 164, 165, 166, 167, 168, 169, 170, 171, 172, 173, 174, 175, 176, 177, 178, 179, 180, 181, 182] rfl (by decide +kernel)
set_option maxRecDepth 20000 in
theorem gX8_mixBoard_X8_letterAt : GoodIn wsX8_mixBoard (wsV RX8 161 RX8 yX8_letterAt wsX8_letterAt) := goodIn_app (goodIn_r _ [77, 78, 79, 6] rfl (by decide +kernel)) ggX8_mixBoard_X8_letterAt
set_option maxRecDepth 20000 in
theorem ggX8_mixBoard_X8_ways : GoodIn wsX8_mixBoard wsX8_ways := goodIn_r _ [19, 20, 9, 21, 11, 12, 13, 6, 14, 15, 22, 23, 24, 25, 26, 27, 28, 29, 30, 31, 32, 8, 33, 34, 35, 36, 37, 38, 39, 40, 41, 42, 43, 44, 45, 46, 47, 48, 49, 50, 51, 52, 53, 54, 55, 56, 57, 58, 59, 60, 61, 62, 10, 136, 137, 138, 139, 140, 141, 142, 143, 144, 145, 146, 147, 148, 149, 150, 151, 152, 153, 154, 155, 156, 157, 158, 159, 160, 161, 162, 163, 164, 165, 166, 167, 168, 169, 170, 171, 172, 173, 174, 175, 176, 177, 178, 179, 180, 181, 182] rfl (by decide +kernel)
set_option maxRecDepth 20000 in
theorem gX8_mixBoard_X8_ways : GoodIn wsX8_mixBoard (wsV RX8 202 RX8 yX8_ways wsX8_ways) := goodIn_app (goodIn_r _ [16, 17, 18, 6] rfl (by decide +kernel)) ggX8_mixBoard_X8_ways
set_option maxRecDepth 20000 in
theorem ggX8_mixBoard_X8_mixWay : GoodIn wsX8_mixBoard wsX8_mixWay := goodIn_r _ [89, 9, 27, 10, 90, 91, 92, 6, 93, 73, 74, 75, 76, 16, 17, 18, 19, 20, 21, 11, 12, 13, 14, 15, 22, 23, 24, 25, 26, 28, 29, 30, 31, 32, 8, 33, 34, 35, 36, 37, 38, 39, 40, 41, 42, 43, 44, 45, 46, 47, 48, 49, 50, 51, 52, 53, 54, 55, 56, 57, 58, 59, 60, 61, 62, 94, 95, 96, 63, 64, 65, 66, 67, 68, 97, 98, 99, 100, 82, 136, 137, 138, 139, 140, 141, 142, 143, 144, 145, 146, 147, 148, 149, 150, 151, 152, 153, 154, 155, 156, 157, 158, 159, 160, 161, 162, 163, 164, 165, 166, 167, 168, 169, 170, 171, 172, 173, 174, 175, 176, 177, 178, 179, 180, 181, 182] rfl (by decide +kernel)
set_option maxRecDepth 20000 in
theorem gX8_mixBoard_X8_mixWay : GoodIn wsX8_mixBoard (wsV RX8 334 RX8 yX8_mixWay wsX8_mixWay) := goodIn_app (goodIn_r _ [86, 87, 88, 6] rfl (by decide +kernel)) ggX8_mixBoard_X8_mixWay
set_option maxRecDepth 20000 in
theorem ggX8_mixBoard_X8_layTerms : GoodIn wsX8_mixBoard wsX8_layTerms := goodIn_r _ [104, 105, 1, 82, 106, 11, 12, 13, 6, 14, 15, 107, 108, 109, 110, 111, 112, 113, 114, 2, 115, 116, 117, 118, 119, 120, 121, 122, 123, 124, 125, 126, 127, 128, 129, 130, 131, 132, 133, 134, 135, 136, 137, 138, 139, 140, 141, 142, 143, 144, 145, 146, 147, 148, 149, 150, 151, 152, 153, 154, 155, 156, 157, 158, 159, 160, 161, 162, 163, 164, 165, 166, 167, 168, 169, 170, 171, 172, 173, 174, 175, 176, 177, 178, 179, 180, 181, 182] rfl (by decide +kernel)
set_option maxRecDepth 20000 in
theorem gX8_mixBoard_X8_layTerms : GoodIn wsX8_mixBoard (wsV RX8 258 RX8 yX8_layTerms wsX8_layTerms) := goodIn_app (goodIn_r _ [101, 102, 103, 6] rfl (by decide +kernel)) ggX8_mixBoard_X8_layTerms
theorem dX8_mixBoard_0 : decode cX8_mixBoard 0 = .ok (.iconst 0, 1) := by decide +kernel
theorem dX8_mixBoard_1 : decode cX8_mixBoard 1 = .ok (.istore_n 1, 1) := by decide +kernel
theorem dX8_mixBoard_2 : decode cX8_mixBoard 2 = .ok (.iload_n 1, 1) := by decide +kernel
theorem dX8_mixBoard_3 : decode cX8_mixBoard 3 = .ok (.iconst 5, 1) := by decide +kernel
theorem dX8_mixBoard_4 : decode cX8_mixBoard 4 = .ok (.if_icmp .ge 19, 3) := by decide +kernel
theorem dX8_mixBoard_7 : decode cX8_mixBoard 7 = .ok (.aload_n 0, 1) := by decide +kernel
theorem dX8_mixBoard_8 : decode cX8_mixBoard 8 = .ok (.aload_n 0, 1) := by decide +kernel
theorem dX8_mixBoard_9 : decode cX8_mixBoard 9 = .ok (.iload_n 1, 1) := by decide +kernel
theorem dX8_mixBoard_10 : decode cX8_mixBoard 10 = .ok (.invokevirtual 211, 3) := by decide +kernel
theorem dX8_mixBoard_13 : decode cX8_mixBoard 13 = .ok (.i2l, 1) := by decide +kernel
theorem dX8_mixBoard_14 : decode cX8_mixBoard 14 = .ok (.invokevirtual 330, 3) := by decide +kernel
theorem dX8_mixBoard_17 : decode cX8_mixBoard 17 = .ok (.iinc 1 1, 3) := by decide +kernel
theorem dX8_mixBoard_20 : decode cX8_mixBoard 20 = .ok (.goto (-18), 3) := by decide +kernel
theorem dX8_mixBoard_23 : decode cX8_mixBoard 23 = .ok (.iconst 0, 1) := by decide +kernel
theorem dX8_mixBoard_24 : decode cX8_mixBoard 24 = .ok (.istore_n 1, 1) := by decide +kernel
theorem dX8_mixBoard_25 : decode cX8_mixBoard 25 = .ok (.iload_n 1, 1) := by decide +kernel
theorem dX8_mixBoard_26 : decode cX8_mixBoard 26 = .ok (.aload_n 0, 1) := by decide +kernel
theorem dX8_mixBoard_27 : decode cX8_mixBoard 27 = .ok (.invokevirtual 158, 3) := by decide +kernel
theorem dX8_mixBoard_30 : decode cX8_mixBoard 30 = .ok (.if_icmp .ge 19, 3) := by decide +kernel
theorem dX8_mixBoard_33 : decode cX8_mixBoard 33 = .ok (.aload_n 0, 1) := by decide +kernel
theorem dX8_mixBoard_34 : decode cX8_mixBoard 34 = .ok (.aload_n 0, 1) := by decide +kernel
theorem dX8_mixBoard_35 : decode cX8_mixBoard 35 = .ok (.iload_n 1, 1) := by decide +kernel
theorem dX8_mixBoard_36 : decode cX8_mixBoard 36 = .ok (.invokevirtual 161, 3) := by decide +kernel
theorem dX8_mixBoard_39 : decode cX8_mixBoard 39 = .ok (.i2l, 1) := by decide +kernel
theorem dX8_mixBoard_40 : decode cX8_mixBoard 40 = .ok (.invokevirtual 330, 3) := by decide +kernel
theorem dX8_mixBoard_43 : decode cX8_mixBoard 43 = .ok (.iinc 1 1, 3) := by decide +kernel
theorem dX8_mixBoard_46 : decode cX8_mixBoard 46 = .ok (.goto (-21), 3) := by decide +kernel
theorem dX8_mixBoard_49 : decode cX8_mixBoard 49 = .ok (.iconst 0, 1) := by decide +kernel
theorem dX8_mixBoard_50 : decode cX8_mixBoard 50 = .ok (.istore_n 1, 1) := by decide +kernel
theorem dX8_mixBoard_51 : decode cX8_mixBoard 51 = .ok (.iload_n 1, 1) := by decide +kernel
theorem dX8_mixBoard_52 : decode cX8_mixBoard 52 = .ok (.iconst 3, 1) := by decide +kernel
theorem dX8_mixBoard_53 : decode cX8_mixBoard 53 = .ok (.if_icmp .ge 22, 3) := by decide +kernel
theorem dX8_mixBoard_56 : decode cX8_mixBoard 56 = .ok (.iload_n 1, 1) := by decide +kernel
theorem dX8_mixBoard_57 : decode cX8_mixBoard 57 = .ok (.aload_n 0, 1) := by decide +kernel
theorem dX8_mixBoard_58 : decode cX8_mixBoard 58 = .ok (.invokevirtual 202, 3) := by decide +kernel
theorem dX8_mixBoard_61 : decode cX8_mixBoard 61 = .ok (.if_icmp .ge 14, 3) := by decide +kernel
theorem dX8_mixBoard_64 : decode cX8_mixBoard 64 = .ok (.aload_n 0, 1) := by decide +kernel
theorem dX8_mixBoard_65 : decode cX8_mixBoard 65 = .ok (.iload_n 1, 1) := by decide +kernel
theorem dX8_mixBoard_66 : decode cX8_mixBoard 66 = .ok (.invokevirtual 334, 3) := by decide +kernel
theorem dX8_mixBoard_69 : decode cX8_mixBoard 69 = .ok (.iinc 1 1, 3) := by decide +kernel
theorem dX8_mixBoard_72 : decode cX8_mixBoard 72 = .ok (.goto (-21), 3) := by decide +kernel
theorem dX8_mixBoard_75 : decode cX8_mixBoard 75 = .ok (.aload_n 0, 1) := by decide +kernel
theorem dX8_mixBoard_76 : decode cX8_mixBoard 76 = .ok (.invokevirtual 258, 3) := by decide +kernel
theorem dX8_mixBoard_79 : decode cX8_mixBoard 79 = .ok (.iconst 0, 1) := by decide +kernel
theorem dX8_mixBoard_80 : decode cX8_mixBoard 80 = .ok (.istore_n 1, 1) := by decide +kernel
theorem dX8_mixBoard_81 : decode cX8_mixBoard 81 = .ok (.iload_n 1, 1) := by decide +kernel
theorem dX8_mixBoard_82 : decode cX8_mixBoard 82 = .ok (.iconst 5, 1) := by decide +kernel
theorem dX8_mixBoard_83 : decode cX8_mixBoard 83 = .ok (.aload_n 0, 1) := by decide +kernel
theorem dX8_mixBoard_84 : decode cX8_mixBoard 84 = .ok (.getfield 248, 3) := by decide +kernel
theorem dX8_mixBoard_87 : decode cX8_mixBoard 87 = .ok (.imul, 1) := by decide +kernel
theorem dX8_mixBoard_88 : decode cX8_mixBoard 88 = .ok (.if_icmp .ge 20, 3) := by decide +kernel
theorem dX8_mixBoard_91 : decode cX8_mixBoard 91 = .ok (.aload_n 0, 1) := by decide +kernel
theorem dX8_mixBoard_92 : decode cX8_mixBoard 92 = .ok (.aload_n 0, 1) := by decide +kernel
theorem dX8_mixBoard_93 : decode cX8_mixBoard 93 = .ok (.getfield 53, 3) := by decide +kernel
theorem dX8_mixBoard_96 : decode cX8_mixBoard 96 = .ok (.iload_n 1, 1) := by decide +kernel
theorem dX8_mixBoard_97 : decode cX8_mixBoard 97 = .ok (.iaload, 1) := by decide +kernel
theorem dX8_mixBoard_98 : decode cX8_mixBoard 98 = .ok (.i2l, 1) := by decide +kernel
theorem dX8_mixBoard_99 : decode cX8_mixBoard 99 = .ok (.invokevirtual 330, 3) := by decide +kernel
theorem dX8_mixBoard_102 : decode cX8_mixBoard 102 = .ok (.iinc 1 1, 3) := by decide +kernel
theorem dX8_mixBoard_105 : decode cX8_mixBoard 105 = .ok (.goto (-24), 3) := by decide +kernel
theorem dX8_mixBoard_108 : decode cX8_mixBoard 108 = .ok (.return_, 1) := by decide +kernel
set_option maxRecDepth 20000 in
theorem ggX8_digest_X8_isBoard : GoodIn wsX8_digest wsX8_isBoard := goodIn_r _ [9, 10, 177, 178, 179, 180, 181, 182, 183, 184, 185, 186, 187, 188, 189, 190, 191, 192, 193, 194, 195, 196, 197, 198, 199, 200, 201, 202, 203, 204, 205, 206, 207, 208, 209, 210, 211, 212, 213, 214, 215, 216, 217, 218, 219, 220, 221, 222, 223] rfl (by decide +kernel)
set_option maxRecDepth 20000 in
theorem gX8_digest_X8_isBoard : GoodIn wsX8_digest (wsV RX8 151 RX8 yX8_isBoard wsX8_isBoard) := goodIn_app (goodIn_r _ [5, 6, 7, 8] rfl (by decide +kernel)) ggX8_digest_X8_isBoard
set_option maxRecDepth 20000 in
theorem ggX8_digest_X8_mixBoard : GoodIn wsX8_digest wsX8_mixBoard := goodIn_r _ [14, 15, 16, 17, 18, 19, 8, 20, 21, 22, 10, 23, 24, 25, 26, 27, 28, 29, 30, 31, 32, 33, 34, 35, 36, 37, 38, 39, 40, 41, 42, 43, 44, 45, 46, 47, 48, 49, 50, 51, 52, 53, 54, 55, 56, 57, 58, 59, 60, 61, 62, 63, 64, 65, 66, 67, 68, 69, 70, 71, 72, 73, 74, 75, 76, 77, 78, 79, 2, 80, 81, 82, 83, 5, 6, 7, 9, 84, 85, 86, 87, 88, 89, 90, 91, 92, 93, 94, 95, 96, 97, 98, 99, 100, 101, 102, 103, 104, 105, 106, 107, 108, 109, 110, 111, 112, 113, 114, 115, 116, 117, 118, 119, 120, 121, 122, 123, 124, 125, 126, 127, 128, 129, 130, 131, 132, 133, 134, 135, 136, 137, 138, 139, 140, 141, 142, 177, 178, 179, 180, 181, 182, 183, 184, 185, 186, 187, 188, 189, 190, 191, 192, 193, 194, 195, 196, 197, 198, 199, 200, 201, 202, 203, 204, 205, 206, 207, 208, 209, 210, 211, 212, 213, 214, 215, 216, 217, 218, 219, 220, 221, 222, 223] rfl (by decide +kernel)
set_option maxRecDepth 20000 in
theorem gX8_digest_X8_mixBoard : GoodIn wsX8_digest (wsV RX8 339 RX8 yX8_mixBoard wsX8_mixBoard) := goodIn_app (goodIn_r _ [11, 12, 13, 8] rfl (by decide +kernel)) ggX8_digest_X8_mixBoard
set_option maxRecDepth 20000 in
theorem ggX8_digest_X8_sortsNow : GoodIn wsX8_digest wsX8_sortsNow := goodIn_r _ [146, 147, 148, 149, 150, 151, 8, 152, 177, 178, 179, 180, 181, 182, 183, 184, 185, 186, 187, 188, 189, 190, 191, 192, 193, 194, 195, 196, 197, 198, 199, 200, 201, 202, 203, 204, 205, 206, 207, 208, 209, 210, 211, 212, 213, 214, 215, 216, 217, 218, 219, 220, 221, 222, 223] rfl (by decide +kernel)
set_option maxRecDepth 20000 in
theorem gX8_digest_X8_sortsNow : GoodIn wsX8_digest (wsV RX8 264 RX8 yX8_sortsNow wsX8_sortsNow) := goodIn_app (goodIn_r _ [143, 144, 145, 8] rfl (by decide +kernel)) ggX8_digest_X8_sortsNow
set_option maxRecDepth 20000 in
theorem ggX8_digest_X8_mix : GoodIn wsX8_digest wsX8_mix := goodIn_r _ [78, 79, 2, 177, 178, 179, 180, 181, 182, 183, 184, 185, 186, 187, 188, 189, 190, 191, 192, 193, 194, 195, 196, 197, 198, 199, 200, 201, 202, 203, 204, 205, 206, 207, 208, 209, 210, 211, 212, 213, 214, 215, 216, 217, 218, 219, 220, 221, 222, 223] rfl (by decide +kernel)
set_option maxRecDepth 20000 in
theorem gX8_digest_X8_mix : GoodIn wsX8_digest (wsV RX8 330 RX8 yX8_mix wsX8_mix) := goodIn_app (goodIn_r _ [75, 76, 77, 8] rfl (by decide +kernel)) ggX8_digest_X8_mix
set_option maxRecDepth 20000 in
theorem ggX8_digest_X8_askNow : GoodIn wsX8_digest wsX8_askNow := goodIn_r _ [156, 157, 143, 144, 145, 8, 146, 147, 148, 149, 150, 151, 152, 158, 159, 160, 161, 162, 163, 177, 178, 179, 180, 181, 182, 183, 184, 185, 186, 187, 188, 189, 190, 191, 192, 193, 194, 195, 196, 197, 198, 199, 200, 201, 202, 203, 204, 205, 206, 207, 208, 209, 210, 211, 212, 213, 214, 215, 216, 217, 218, 219, 220, 221, 222, 223] rfl (by decide +kernel)
set_option maxRecDepth 20000 in
theorem gX8_digest_X8_askNow : GoodIn wsX8_digest (wsV RX8 274 RX8 yX8_askNow wsX8_askNow) := goodIn_app (goodIn_r _ [153, 154, 155, 8] rfl (by decide +kernel)) ggX8_digest_X8_askNow
set_option maxRecDepth 20000 in
theorem ggX8_digest_X8_howMany : GoodIn wsX8_digest wsX8_howMany := goodIn_r _ [167, 22, 10, 147, 3, 168, 5, 6, 7, 8, 9, 28, 29, 30, 31, 32, 33, 23, 24, 25, 26, 27, 34, 35, 36, 37, 38, 39, 40, 41, 42, 43, 44, 21, 45, 46, 47, 48, 49, 50, 51, 52, 53, 54, 55, 56, 57, 58, 59, 60, 61, 62, 63, 64, 65, 66, 67, 68, 69, 70, 71, 72, 73, 74, 169, 170, 171, 172, 15, 108, 109, 110, 111, 112, 89, 113, 114, 115, 116, 117, 118, 119, 120, 121, 16, 122, 123, 124, 125, 126, 127, 128, 129, 130, 131, 132, 133, 134, 135, 136, 137, 138, 139, 140, 141, 142, 173, 174, 175, 176, 177, 178, 179, 180, 181, 182, 183, 184, 185, 186, 187, 188, 189, 190, 191, 192, 193, 194, 195, 196, 197, 198, 199, 200, 201, 202, 203, 204, 205, 206, 207, 208, 209, 210, 211, 212, 213, 214, 215, 216, 217, 218, 219, 220, 221, 222, 223] rfl (by decide +kernel)
set_option maxRecDepth 20000 in
theorem gX8_digest_X8_howMany : GoodIn wsX8_digest (wsV RX8 322 RX8 yX8_howMany wsX8_howMany) := goodIn_app (goodIn_r _ [164, 165, 166, 8] rfl (by decide +kernel)) ggX8_digest_X8_howMany
theorem dX8_digest_0 : decode cX8_digest 0 = .ok (.aload_n 0, 1) := by decide +kernel
theorem dX8_digest_1 : decode cX8_digest 1 = .ok (.ldc2_w 337, 3) := by decide +kernel
theorem dX8_digest_4 : decode cX8_digest 4 = .ok (.putfield 327, 3) := by decide +kernel
theorem dX8_digest_7 : decode cX8_digest 7 = .ok (.aload_n 0, 1) := by decide +kernel
theorem dX8_digest_8 : decode cX8_digest 8 = .ok (.invokevirtual 151, 3) := by decide +kernel
theorem dX8_digest_11 : decode cX8_digest 11 = .ok (.ifCond .eq 7, 3) := by decide +kernel
theorem dX8_digest_14 : decode cX8_digest 14 = .ok (.aload_n 0, 1) := by decide +kernel
theorem dX8_digest_15 : decode cX8_digest 15 = .ok (.invokevirtual 339, 3) := by decide +kernel
theorem dX8_digest_18 : decode cX8_digest 18 = .ok (.aload_n 0, 1) := by decide +kernel
theorem dX8_digest_19 : decode cX8_digest 19 = .ok (.aload_n 0, 1) := by decide +kernel
theorem dX8_digest_20 : decode cX8_digest 20 = .ok (.invokevirtual 264, 3) := by decide +kernel
theorem dX8_digest_23 : decode cX8_digest 23 = .ok (.i2l, 1) := by decide +kernel
theorem dX8_digest_24 : decode cX8_digest 24 = .ok (.invokevirtual 330, 3) := by decide +kernel
theorem dX8_digest_27 : decode cX8_digest 27 = .ok (.aload_n 0, 1) := by decide +kernel
theorem dX8_digest_28 : decode cX8_digest 28 = .ok (.aload_n 0, 1) := by decide +kernel
theorem dX8_digest_29 : decode cX8_digest 29 = .ok (.invokevirtual 274, 3) := by decide +kernel
theorem dX8_digest_32 : decode cX8_digest 32 = .ok (.i2l, 1) := by decide +kernel
theorem dX8_digest_33 : decode cX8_digest 33 = .ok (.invokevirtual 330, 3) := by decide +kernel
theorem dX8_digest_36 : decode cX8_digest 36 = .ok (.iconst 0, 1) := by decide +kernel
theorem dX8_digest_37 : decode cX8_digest 37 = .ok (.istore_n 1, 1) := by decide +kernel
theorem dX8_digest_38 : decode cX8_digest 38 = .ok (.iload_n 1, 1) := by decide +kernel
theorem dX8_digest_39 : decode cX8_digest 39 = .ok (.aload_n 0, 1) := by decide +kernel
theorem dX8_digest_40 : decode cX8_digest 40 = .ok (.getfield 90, 3) := by decide +kernel
theorem dX8_digest_43 : decode cX8_digest 43 = .ok (.if_icmp .ge 20, 3) := by decide +kernel
theorem dX8_digest_46 : decode cX8_digest 46 = .ok (.aload_n 0, 1) := by decide +kernel
theorem dX8_digest_47 : decode cX8_digest 47 = .ok (.aload_n 0, 1) := by decide +kernel
theorem dX8_digest_48 : decode cX8_digest 48 = .ok (.getfield 31, 3) := by decide +kernel
theorem dX8_digest_51 : decode cX8_digest 51 = .ok (.iload_n 1, 1) := by decide +kernel
theorem dX8_digest_52 : decode cX8_digest 52 = .ok (.baload, 1) := by decide +kernel
theorem dX8_digest_53 : decode cX8_digest 53 = .ok (.i2l, 1) := by decide +kernel
theorem dX8_digest_54 : decode cX8_digest 54 = .ok (.invokevirtual 330, 3) := by decide +kernel
theorem dX8_digest_57 : decode cX8_digest 57 = .ok (.iinc 1 1, 3) := by decide +kernel
theorem dX8_digest_60 : decode cX8_digest 60 = .ok (.goto (-22), 3) := by decide +kernel
theorem dX8_digest_63 : decode cX8_digest 63 = .ok (.iconst 0, 1) := by decide +kernel
theorem dX8_digest_64 : decode cX8_digest 64 = .ok (.istore_n 1, 1) := by decide +kernel
theorem dX8_digest_65 : decode cX8_digest 65 = .ok (.iload_n 1, 1) := by decide +kernel
theorem dX8_digest_66 : decode cX8_digest 66 = .ok (.bipush 8, 2) := by decide +kernel
theorem dX8_digest_68 : decode cX8_digest 68 = .ok (.if_icmp .ge 19, 3) := by decide +kernel
theorem dX8_digest_71 : decode cX8_digest 71 = .ok (.aload_n 0, 1) := by decide +kernel
theorem dX8_digest_72 : decode cX8_digest 72 = .ok (.aload_n 0, 1) := by decide +kernel
theorem dX8_digest_73 : decode cX8_digest 73 = .ok (.iload_n 1, 1) := by decide +kernel
theorem dX8_digest_74 : decode cX8_digest 74 = .ok (.invokevirtual 322, 3) := by decide +kernel
theorem dX8_digest_77 : decode cX8_digest 77 = .ok (.i2l, 1) := by decide +kernel
theorem dX8_digest_78 : decode cX8_digest 78 = .ok (.invokevirtual 330, 3) := by decide +kernel
theorem dX8_digest_81 : decode cX8_digest 81 = .ok (.iinc 1 1, 3) := by decide +kernel
theorem dX8_digest_84 : decode cX8_digest 84 = .ok (.goto (-19), 3) := by decide +kernel
theorem dX8_digest_87 : decode cX8_digest 87 = .ok (.aload_n 0, 1) := by decide +kernel
theorem dX8_digest_88 : decode cX8_digest 88 = .ok (.getfield 327, 3) := by decide +kernel
theorem dX8_digest_91 : decode cX8_digest 91 = .ok (.lreturn, 1) := by decide +kernel
