set_option maxRecDepth 20000 in
theorem ggX7_init_X3_init : GoodIn wsX7_init wsX3_init := goodIn_r _ [32, 33, 2, 3, 34, 35, 79, 80] rfl (by decide +kernel)
set_option maxRecDepth 20000 in
theorem gX7_init_X3_init_n9 : GoodIn wsX7_init (wsX3_init) := ggX7_init_X3_init
set_option maxRecDepth 20000 in
theorem ggX7_init_X6_init : GoodIn wsX7_init wsX6_init := goodIn_r _ [37, 38, 2, 3, 39, 13, 14, 40, 41, 42, 43, 34, 44, 45, 46, 97, 98, 99, 100, 101, 94, 95, 96] rfl (by decide +kernel)
set_option maxRecDepth 20000 in
theorem gX7_init_X6_init_n18 : GoodIn wsX7_init (wsX6_init) := ggX7_init_X6_init
set_option maxRecDepth 20000 in
theorem ggX7_init_X4_init : GoodIn wsX7_init wsX4_init := goodIn_r _ [42, 43, 2, 3, 34, 44, 45, 46, 97, 98, 99, 100, 101] rfl (by decide +kernel)
set_option maxRecDepth 20000 in
theorem gX7_init_X4_init_n25 : GoodIn wsX7_init (wsX4_init) := ggX7_init_X4_init
set_option maxRecDepth 20000 in
theorem ggX7_init_X2_init : GoodIn wsX7_init wsX2_init := goodIn_r _ [48, 49, 2, 3, 50, 102, 103] rfl (by decide +kernel)
set_option maxRecDepth 20000 in
theorem gX7_init_X2_init_n35 : GoodIn wsX7_init (wsX2_init) := ggX7_init_X2_init
set_option maxRecDepth 20000 in
theorem ggX7_init_X0_init : GoodIn wsX7_init wsX0_init := goodIn_r _ [52, 53, 2, 3, 54, 55, 56, 57, 34, 58, 59, 60, 61, 62, 63, 64, 65, 66, 67, 68, 119, 120, 121, 122, 123, 124, 104, 105, 106, 107, 108, 109] rfl (by decide +kernel)
set_option maxRecDepth 20000 in
theorem gX7_init_X0_init_n48 : GoodIn wsX7_init (wsX0_init) := ggX7_init_X0_init
set_option maxRecDepth 20000 in
theorem ggX7_init_X5_init : GoodIn wsX7_init wsX5_init := goodIn_r _ [70, 71, 2, 3, 34, 72, 73, 74, 75, 76, 77, 78, 110, 111, 112, 113, 114, 115, 116, 117, 118] rfl (by decide +kernel)
set_option maxRecDepth 20000 in
theorem gX7_init_X5_init_n55 : GoodIn wsX7_init (wsX5_init) := ggX7_init_X5_init
theorem dX7_init_0 : decode cX7_init 0 = .ok (.aload_n 0, 1) := by decide +kernel
theorem dX7_init_1 : decode cX7_init 1 = .ok (.invokespecial 1, 3) := by decide +kernel
theorem dX7_init_4 : decode cX7_init 4 = .ok (.aload_n 0, 1) := by decide +kernel
theorem dX7_init_5 : decode cX7_init 5 = .ok (.new 7, 3) := by decide +kernel
theorem dX7_init_8 : decode cX7_init 8 = .ok (.dup, 1) := by decide +kernel
theorem dX7_init_9 : decode cX7_init 9 = .ok (.invokespecial 9, 3) := by decide +kernel
theorem dX7_init_12 : decode cX7_init 12 = .ok (.putfield 10, 3) := by decide +kernel
theorem dX7_init_15 : decode cX7_init 15 = .ok (.aload_n 0, 1) := by decide +kernel
theorem dX7_init_16 : decode cX7_init 16 = .ok (.new 16, 3) := by decide +kernel
theorem dX7_init_19 : decode cX7_init 19 = .ok (.dup, 1) := by decide +kernel
theorem dX7_init_20 : decode cX7_init 20 = .ok (.invokespecial 18, 3) := by decide +kernel
theorem dX7_init_23 : decode cX7_init 23 = .ok (.putfield 19, 3) := by decide +kernel
theorem dX7_init_26 : decode cX7_init 26 = .ok (.aload_n 0, 1) := by decide +kernel
theorem dX7_init_27 : decode cX7_init 27 = .ok (.new 23, 3) := by decide +kernel
theorem dX7_init_30 : decode cX7_init 30 = .ok (.dup, 1) := by decide +kernel
theorem dX7_init_31 : decode cX7_init 31 = .ok (.invokespecial 25, 3) := by decide +kernel
theorem dX7_init_34 : decode cX7_init 34 = .ok (.putfield 26, 3) := by decide +kernel
theorem dX7_init_37 : decode cX7_init 37 = .ok (.aload_n 0, 1) := by decide +kernel
theorem dX7_init_38 : decode cX7_init 38 = .ok (.new 23, 3) := by decide +kernel
theorem dX7_init_41 : decode cX7_init 41 = .ok (.dup, 1) := by decide +kernel
theorem dX7_init_42 : decode cX7_init 42 = .ok (.invokespecial 25, 3) := by decide +kernel
theorem dX7_init_45 : decode cX7_init 45 = .ok (.putfield 30, 3) := by decide +kernel
theorem dX7_init_48 : decode cX7_init 48 = .ok (.aload_n 0, 1) := by decide +kernel
theorem dX7_init_49 : decode cX7_init 49 = .ok (.new 33, 3) := by decide +kernel
theorem dX7_init_52 : decode cX7_init 52 = .ok (.dup, 1) := by decide +kernel
theorem dX7_init_53 : decode cX7_init 53 = .ok (.invokespecial 35, 3) := by decide +kernel
theorem dX7_init_56 : decode cX7_init 56 = .ok (.putfield 36, 3) := by decide +kernel
theorem dX7_init_59 : decode cX7_init 59 = .ok (.aload_n 0, 1) := by decide +kernel
theorem dX7_init_60 : decode cX7_init 60 = .ok (.new 23, 3) := by decide +kernel
theorem dX7_init_63 : decode cX7_init 63 = .ok (.dup, 1) := by decide +kernel
theorem dX7_init_64 : decode cX7_init 64 = .ok (.invokespecial 25, 3) := by decide +kernel
theorem dX7_init_67 : decode cX7_init 67 = .ok (.putfield 40, 3) := by decide +kernel
theorem dX7_init_70 : decode cX7_init 70 = .ok (.aload_n 0, 1) := by decide +kernel
theorem dX7_init_71 : decode cX7_init 71 = .ok (.new 33, 3) := by decide +kernel
theorem dX7_init_74 : decode cX7_init 74 = .ok (.dup, 1) := by decide +kernel
theorem dX7_init_75 : decode cX7_init 75 = .ok (.invokespecial 35, 3) := by decide +kernel
theorem dX7_init_78 : decode cX7_init 78 = .ok (.putfield 43, 3) := by decide +kernel
theorem dX7_init_81 : decode cX7_init 81 = .ok (.aload_n 0, 1) := by decide +kernel
theorem dX7_init_82 : decode cX7_init 82 = .ok (.new 46, 3) := by decide +kernel
theorem dX7_init_85 : decode cX7_init 85 = .ok (.dup, 1) := by decide +kernel
theorem dX7_init_86 : decode cX7_init 86 = .ok (.invokespecial 48, 3) := by decide +kernel
theorem dX7_init_89 : decode cX7_init 89 = .ok (.putfield 49, 3) := by decide +kernel
theorem dX7_init_92 : decode cX7_init 92 = .ok (.aload_n 0, 1) := by decide +kernel
theorem dX7_init_93 : decode cX7_init 93 = .ok (.new 53, 3) := by decide +kernel
theorem dX7_init_96 : decode cX7_init 96 = .ok (.dup, 1) := by decide +kernel
theorem dX7_init_97 : decode cX7_init 97 = .ok (.invokespecial 55, 3) := by decide +kernel
theorem dX7_init_100 : decode cX7_init 100 = .ok (.putfield 56, 3) := by decide +kernel
theorem dX7_init_103 : decode cX7_init 103 = .ok (.return_, 1) := by decide +kernel
set_option maxRecDepth 20000 in
theorem ggX7_letter_X3_append : GoodIn wsX7_letter wsX3_append := goodIn_r _ [7, 8, 9, 23, 24] rfl (by decide +kernel)
set_option maxRecDepth 20000 in
theorem gX7_letter_X3_append : GoodIn wsX7_letter (wsV RX7 60 RX3 yX3_append wsX3_append) := goodIn_app (goodIn_r _ [3, 4, 5, 6] rfl (by decide +kernel)) ggX7_letter_X3_append
theorem dX7_letter_0 : decode cX7_letter 0 = .ok (.iload_n 1, 1) := by decide +kernel
theorem dX7_letter_1 : decode cX7_letter 1 = .ok (.bipush 32, 2) := by decide +kernel
theorem dX7_letter_3 : decode cX7_letter 3 = .ok (.if_icmp .lt 9, 3) := by decide +kernel
theorem dX7_letter_6 : decode cX7_letter 6 = .ok (.iload_n 1, 1) := by decide +kernel
theorem dX7_letter_7 : decode cX7_letter 7 = .ok (.bipush 126, 2) := by decide +kernel
theorem dX7_letter_9 : decode cX7_letter 9 = .ok (.if_icmp .le 6, 3) := by decide +kernel
theorem dX7_letter_12 : decode cX7_letter 12 = .ok (.bipush (-102), 2) := by decide +kernel
theorem dX7_letter_14 : decode cX7_letter 14 = .ok (.ireturn, 1) := by decide +kernel
theorem dX7_letter_15 : decode cX7_letter 15 = .ok (.aload_n 0, 1) := by decide +kernel
theorem dX7_letter_16 : decode cX7_letter 16 = .ok (.getfield 10, 3) := by decide +kernel
theorem dX7_letter_19 : decode cX7_letter 19 = .ok (.iload_n 1, 1) := by decide +kernel
theorem dX7_letter_20 : decode cX7_letter 20 = .ok (.invokevirtual 60, 3) := by decide +kernel
theorem dX7_letter_23 : decode cX7_letter 23 = .ok (.ifCond .eq 13, 3) := by decide +kernel
theorem dX7_letter_26 : decode cX7_letter 26 = .ok (.aload_n 0, 1) := by decide +kernel
theorem dX7_letter_27 : decode cX7_letter 27 = .ok (.getfield 10, 3) := by decide +kernel
theorem dX7_letter_30 : decode cX7_letter 30 = .ok (.getfield 64, 3) := by decide +kernel
theorem dX7_letter_33 : decode cX7_letter 33 = .ok (.goto 5, 3) := by decide +kernel
theorem dX7_letter_36 : decode cX7_letter 36 = .ok (.bipush (-104), 2) := by decide +kernel
theorem dX7_letter_38 : decode cX7_letter 38 = .ok (.ireturn, 1) := by decide +kernel
set_option maxRecDepth 20000 in
theorem ggX7_blank_X3_clear : GoodIn wsX7_blank wsX3_clear := goodIn_r _ [7, 8, 22, 23] rfl (by decide +kernel)
set_option maxRecDepth 20000 in
theorem gX7_blank_X3_clear : GoodIn wsX7_blank (wsV RX7 68 RX3 yX3_clear wsX3_clear) := goodIn_app (goodIn_r _ [3, 4, 5, 6] rfl (by decide +kernel)) ggX7_blank_X3_clear
theorem dX7_blank_0 : decode cX7_blank 0 = .ok (.aload_n 0, 1) := by decide +kernel
theorem dX7_blank_1 : decode cX7_blank 1 = .ok (.getfield 10, 3) := by decide +kernel
theorem dX7_blank_4 : decode cX7_blank 4 = .ok (.getfield 64, 3) := by decide +kernel
theorem dX7_blank_7 : decode cX7_blank 7 = .ok (.istore_n 1, 1) := by decide +kernel
theorem dX7_blank_8 : decode cX7_blank 8 = .ok (.aload_n 0, 1) := by decide +kernel
theorem dX7_blank_9 : decode cX7_blank 9 = .ok (.getfield 10, 3) := by decide +kernel
theorem dX7_blank_12 : decode cX7_blank 12 = .ok (.invokevirtual 68, 3) := by decide +kernel
theorem dX7_blank_15 : decode cX7_blank 15 = .ok (.iload_n 1, 1) := by decide +kernel
theorem dX7_blank_16 : decode cX7_blank 16 = .ok (.ireturn, 1) := by decide +kernel
set_option maxRecDepth 20000 in
theorem ggX7_fault_X6_readFrom : GoodIn wsX7_fault wsX6_readFrom := goodIn_r _ [7, 8, 9, 10, 11, 12, 13, 14, 15, 16, 17, 18, 19, 20, 21, 22, 23, 24, 25, 26, 27, 6, 28, 29, 30, 31, 32, 33, 34, 35, 36, 37, 38, 39, 40, 41, 42, 43, 44, 45, 46, 47, 48, 49, 50, 51, 52, 53, 54, 55, 56, 57, 58, 59, 60, 61, 62, 63, 64, 65, 66, 67, 68, 69, 70, 71, 72, 73, 74, 75, 76, 77, 78, 79, 80, 81, 82, 83, 84, 85, 86, 87, 88, 89, 90, 91, 92, 93, 94, 95, 96, 97, 98, 99, 100, 101, 102, 103, 104, 105, 106, 107, 108, 109, 110, 111, 112, 113, 114, 115, 116, 117, 118, 119, 120, 121, 122, 123, 124, 125, 126, 127, 128, 129, 130, 131, 132, 133, 134, 135, 136, 137, 138, 139, 140, 141, 142, 143, 144, 145, 146, 147, 148, 149, 150, 151, 152, 166, 167, 168, 169, 170, 171, 172, 173, 174, 175] rfl (by decide +kernel)
set_option maxRecDepth 20000 in
theorem gX7_fault_X6_readFrom : GoodIn wsX7_fault (wsV RX7 71 RX6 yX6_readFrom wsX6_readFrom) := goodIn_app (goodIn_r _ [3, 4, 5, 6] rfl (by decide +kernel)) ggX7_fault_X6_readFrom
theorem dX7_fault_0 : decode cX7_fault 0 = .ok (.aload_n 0, 1) := by decide +kernel
theorem dX7_fault_1 : decode cX7_fault 1 = .ok (.getfield 19, 3) := by decide +kernel
theorem dX7_fault_4 : decode cX7_fault 4 = .ok (.aload_n 0, 1) := by decide +kernel
theorem dX7_fault_5 : decode cX7_fault 5 = .ok (.getfield 10, 3) := by decide +kernel
theorem dX7_fault_8 : decode cX7_fault 8 = .ok (.invokevirtual 71, 3) := by decide +kernel
theorem dX7_fault_11 : decode cX7_fault 11 = .ok (.ireturn, 1) := by decide +kernel
set_option maxRecDepth 20000 in
theorem ggX7_board_X6_readFrom : GoodIn wsX7_board wsX6_readFrom := goodIn_r _ [13, 14, 15, 16, 17, 18, 19, 20, 21, 22, 23, 24, 25, 26, 27, 28, 29, 30, 31, 32, 33, 12, 34, 35, 36, 37, 38, 39, 40, 41, 42, 43, 44, 45, 46, 47, 48, 49, 50, 51, 52, 53, 54, 55, 56, 57, 58, 59, 60, 61, 62, 63, 64, 65, 66, 67, 68, 69, 70, 71, 72, 73, 74, 75, 76, 77, 78, 79, 80, 81, 82, 83, 84, 85, 86, 87, 88, 89, 90, 91, 92, 93, 94, 95, 96, 97, 98, 99, 100, 101, 102, 103, 104, 105, 106, 107, 108, 109, 110, 111, 112, 113, 114, 115, 116, 117, 118, 119, 120, 121, 122, 123, 124, 125, 126, 127, 128, 129, 130, 131, 132, 133, 134, 135, 136, 137, 138, 139, 140, 141, 142, 143, 144, 145, 146, 147, 148, 149, 150, 151, 152, 153, 154, 155, 156, 157, 158, 210, 211, 212, 208, 209, 213, 214, 215, 216, 217] rfl (by decide +kernel)
set_option maxRecDepth 20000 in
theorem gX7_board_X6_readFrom : GoodIn wsX7_board (wsV RX7 71 RX6 yX6_readFrom wsX6_readFrom) := goodIn_app (goodIn_r _ [9, 10, 11, 12] rfl (by decide +kernel)) ggX7_board_X6_readFrom
set_option maxRecDepth 20000 in
theorem ggX7_board_X6_isComplete : GoodIn wsX7_board wsX6_isComplete := goodIn_r _ [162, 35, 36, 210, 211, 212] rfl (by decide +kernel)
set_option maxRecDepth 20000 in
theorem gX7_board_X6_isComplete : GoodIn wsX7_board (wsV RX7 75 RX6 yX6_isComplete wsX6_isComplete) := goodIn_app (goodIn_r _ [159, 160, 161, 12] rfl (by decide +kernel)) ggX7_board_X6_isComplete
set_option maxRecDepth 20000 in
theorem ggX7_board_X4_boxCount : GoodIn wsX7_board wsX4_boxCount := goodIn_r _ [166, 23, 24, 25, 213, 214, 215, 216, 217] rfl (by decide +kernel)
set_option maxRecDepth 20000 in
theorem gX7_board_X4_boxCount : GoodIn wsX7_board (wsV RX7 80 RX4 yX4_boxCount wsX4_boxCount) := goodIn_app (goodIn_r _ [163, 164, 165, 20] rfl (by decide +kernel)) ggX7_board_X4_boxCount
set_option maxRecDepth 20000 in
theorem ggX7_board_X4_takeOver : GoodIn wsX7_board wsX4_takeOver := goodIn_r _ [170, 22, 23, 24, 171, 172, 173, 174, 25, 26, 213, 214, 215, 216, 217] rfl (by decide +kernel)
set_option maxRecDepth 20000 in
theorem gX7_board_X4_takeOver : GoodIn wsX7_board (wsV RX7 84 RX4 yX4_takeOver wsX4_takeOver) := goodIn_app (goodIn_r _ [167, 168, 169, 20] rfl (by decide +kernel)) ggX7_board_X4_takeOver
set_option maxRecDepth 20000 in
theorem ggX7_board_X7_planChanged : GoodIn wsX7_board wsX7_planChanged := goodIn_r _ [179, 180, 181, 195, 196, 197, 198, 199, 200, 201, 202, 203, 204, 205, 206, 207] rfl (by decide +kernel)
set_option maxRecDepth 20000 in
theorem gX7_board_X7_planChanged : GoodIn wsX7_board (wsV RX7 88 RX7 yX7_planChanged wsX7_planChanged) := goodIn_app (goodIn_r _ [175, 176, 177, 178] rfl (by decide +kernel)) ggX7_board_X7_planChanged
set_option maxRecDepth 20000 in
theorem ggX7_board_X3_clear : GoodIn wsX7_board wsX3_clear := goodIn_r _ [186, 187, 208, 209] rfl (by decide +kernel)
set_option maxRecDepth 20000 in
theorem gX7_board_X3_clear : GoodIn wsX7_board (wsV RX7 68 RX3 yX3_clear wsX3_clear) := goodIn_app (goodIn_r _ [182, 183, 184, 185] rfl (by decide +kernel)) ggX7_board_X3_clear
set_option maxRecDepth 20000 in
theorem ggX7_board_X2_clear : GoodIn wsX7_board wsX2_clear := goodIn_r _ [192, 193, 194, 218, 219] rfl (by decide +kernel)
set_option maxRecDepth 20000 in
theorem gX7_board_X2_clear : GoodIn wsX7_board (wsV RX7 91 RX2 yX2_clear wsX2_clear) := goodIn_app (goodIn_r _ [188, 189, 190, 191] rfl (by decide +kernel)) ggX7_board_X2_clear
theorem dX7_board_0 : decode cX7_board 0 = .ok (.aload_n 0, 1) := by decide +kernel
theorem dX7_board_1 : decode cX7_board 1 = .ok (.getfield 19, 3) := by decide +kernel
theorem dX7_board_4 : decode cX7_board 4 = .ok (.aload_n 0, 1) := by decide +kernel
theorem dX7_board_5 : decode cX7_board 5 = .ok (.getfield 10, 3) := by decide +kernel
theorem dX7_board_8 : decode cX7_board 8 = .ok (.invokevirtual 71, 3) := by decide +kernel
theorem dX7_board_11 : decode cX7_board 11 = .ok (.aload_n 0, 1) := by decide +kernel
theorem dX7_board_12 : decode cX7_board 12 = .ok (.getfield 10, 3) := by decide +kernel
theorem dX7_board_15 : decode cX7_board 15 = .ok (.getfield 64, 3) := by decide +kernel
theorem dX7_board_18 : decode cX7_board 18 = .ok (.if_icmp .ne 7, 3) := by decide +kernel
theorem dX7_board_21 : decode cX7_board 21 = .ok (.iconst 1, 1) := by decide +kernel
theorem dX7_board_22 : decode cX7_board 22 = .ok (.goto 4, 3) := by decide +kernel
theorem dX7_board_25 : decode cX7_board 25 = .ok (.iconst 0, 1) := by decide +kernel
theorem dX7_board_26 : decode cX7_board 26 = .ok (.istore_n 1, 1) := by decide +kernel
theorem dX7_board_27 : decode cX7_board 27 = .ok (.iload_n 1, 1) := by decide +kernel
theorem dX7_board_28 : decode cX7_board 28 = .ok (.ifCond .eq 28, 3) := by decide +kernel
theorem dX7_board_31 : decode cX7_board 31 = .ok (.aload_n 0, 1) := by decide +kernel
theorem dX7_board_32 : decode cX7_board 32 = .ok (.getfield 19, 3) := by decide +kernel
theorem dX7_board_35 : decode cX7_board 35 = .ok (.invokevirtual 75, 3) := by decide +kernel
theorem dX7_board_38 : decode cX7_board 38 = .ok (.ifCond .eq 18, 3) := by decide +kernel
theorem dX7_board_41 : decode cX7_board 41 = .ok (.aload_n 0, 1) := by decide +kernel
theorem dX7_board_42 : decode cX7_board 42 = .ok (.getfield 19, 3) := by decide +kernel
theorem dX7_board_45 : decode cX7_board 45 = .ok (.getfield 79, 3) := by decide +kernel
theorem dX7_board_48 : decode cX7_board 48 = .ok (.invokevirtual 80, 3) := by decide +kernel
theorem dX7_board_51 : decode cX7_board 51 = .ok (.bipush 9, 2) := by decide +kernel
theorem dX7_board_53 : decode cX7_board 53 = .ok (.if_icmp .le 6, 3) := by decide +kernel
theorem dX7_board_56 : decode cX7_board 56 = .ok (.bipush (-103), 2) := by decide +kernel
theorem dX7_board_58 : decode cX7_board 58 = .ok (.ireturn, 1) := by decide +kernel
theorem dX7_board_59 : decode cX7_board 59 = .ok (.aload_n 0, 1) := by decide +kernel
theorem dX7_board_60 : decode cX7_board 60 = .ok (.getfield 26, 3) := by decide +kernel
theorem dX7_board_63 : decode cX7_board 63 = .ok (.aload_n 0, 1) := by decide +kernel
theorem dX7_board_64 : decode cX7_board 64 = .ok (.getfield 19, 3) := by decide +kernel
theorem dX7_board_67 : decode cX7_board 67 = .ok (.getfield 79, 3) := by decide +kernel
theorem dX7_board_70 : decode cX7_board 70 = .ok (.invokevirtual 84, 3) := by decide +kernel
theorem dX7_board_73 : decode cX7_board 73 = .ok (.aload_n 0, 1) := by decide +kernel
theorem dX7_board_74 : decode cX7_board 74 = .ok (.invokevirtual 88, 3) := by decide +kernel
theorem dX7_board_77 : decode cX7_board 77 = .ok (.aload_n 0, 1) := by decide +kernel
theorem dX7_board_78 : decode cX7_board 78 = .ok (.getfield 10, 3) := by decide +kernel
theorem dX7_board_81 : decode cX7_board 81 = .ok (.invokevirtual 68, 3) := by decide +kernel
theorem dX7_board_84 : decode cX7_board 84 = .ok (.aload_n 0, 1) := by decide +kernel
theorem dX7_board_85 : decode cX7_board 85 = .ok (.getfield 36, 3) := by decide +kernel
theorem dX7_board_88 : decode cX7_board 88 = .ok (.invokevirtual 91, 3) := by decide +kernel
theorem dX7_board_91 : decode cX7_board 91 = .ok (.aload_n 0, 1) := by decide +kernel
theorem dX7_board_92 : decode cX7_board 92 = .ok (.iconst 0, 1) := by decide +kernel
theorem dX7_board_93 : decode cX7_board 93 = .ok (.putfield 92, 3) := by decide +kernel
theorem dX7_board_96 : decode cX7_board 96 = .ok (.aload_n 0, 1) := by decide +kernel
theorem dX7_board_97 : decode cX7_board 97 = .ok (.dup, 1) := by decide +kernel
theorem dX7_board_98 : decode cX7_board 98 = .ok (.getfield 96, 3) := by decide +kernel
theorem dX7_board_101 : decode cX7_board 101 = .ok (.iconst 1, 1) := by decide +kernel
theorem dX7_board_102 : decode cX7_board 102 = .ok (.iadd, 1) := by decide +kernel
theorem dX7_board_103 : decode cX7_board 103 = .ok (.putfield 96, 3) := by decide +kernel
theorem dX7_board_106 : decode cX7_board 106 = .ok (.aload_n 0, 1) := by decide +kernel
theorem dX7_board_107 : decode cX7_board 107 = .ok (.getfield 26, 3) := by decide +kernel
theorem dX7_board_110 : decode cX7_board 110 = .ok (.invokevirtual 80, 3) := by decide +kernel
theorem dX7_board_113 : decode cX7_board 113 = .ok (.ireturn, 1) := by decide +kernel
set_option maxRecDepth 20000 in
theorem ggX7_filling_X4_isMissing : GoodIn wsX7_filling wsX4_isMissing := goodIn_r _ [7, 8, 131, 132, 133, 134, 135] rfl (by decide +kernel)
set_option maxRecDepth 20000 in
theorem gX7_filling_X4_isMissing : GoodIn wsX7_filling (wsV RX7 99 RX4 yX4_isMissing wsX4_isMissing) := goodIn_app (goodIn_r _ [3, 4, 5, 6] rfl (by decide +kernel)) ggX7_filling_X4_isMissing
set_option maxRecDepth 20000 in
theorem ggX7_filling_X4_boxCount : GoodIn wsX7_filling wsX4_boxCount := goodIn_r _ [12, 8, 13, 14, 131, 132, 133, 134, 135] rfl (by decide +kernel)
set_option maxRecDepth 20000 in
theorem gX7_filling_X4_boxCount : GoodIn wsX7_filling (wsV RX7 80 RX4 yX4_boxCount wsX4_boxCount) := goodIn_app (goodIn_r _ [9, 10, 11, 6] rfl (by decide +kernel)) ggX7_filling_X4_boxCount
set_option maxRecDepth 20000 in
theorem ggX7_filling_X3_isFillingOf : GoodIn wsX7_filling wsX3_isFillingOf := goodIn_r _ [19, 20, 21, 22, 23, 24, 136, 137] rfl (by decide +kernel)
set_option maxRecDepth 20000 in
theorem gX7_filling_X3_isFillingOf : GoodIn wsX7_filling (wsV RX7 102 RX3 yX3_isFillingOf wsX3_isFillingOf) := goodIn_app (goodIn_r _ [15, 16, 17, 18] rfl (by decide +kernel)) ggX7_filling_X3_isFillingOf
set_option maxRecDepth 20000 in
theorem ggX7_filling_X3_fillingCode : GoodIn wsX7_filling wsX3_fillingCode := goodIn_r _ [28, 20, 21, 29, 30, 31, 32, 136, 137] rfl (by decide +kernel)
set_option maxRecDepth 20000 in
theorem gX7_filling_X3_fillingCode : GoodIn wsX7_filling (wsV RX7 105 RX3 yX3_fillingCode wsX3_fillingCode) := goodIn_app (goodIn_r _ [25, 26, 27, 18] rfl (by decide +kernel)) ggX7_filling_X3_fillingCode
set_option maxRecDepth 20000 in
theorem ggX7_filling_X3_clear : GoodIn wsX7_filling wsX3_clear := goodIn_r _ [36, 20, 136, 137] rfl (by decide +kernel)
set_option maxRecDepth 20000 in
theorem gX7_filling_X3_clear : GoodIn wsX7_filling (wsV RX7 68 RX3 yX3_clear wsX3_clear) := goodIn_app (goodIn_r _ [33, 34, 35, 18] rfl (by decide +kernel)) ggX7_filling_X3_clear
set_option maxRecDepth 20000 in
theorem ggX7_filling_X7_freshFillings : GoodIn wsX7_filling wsX7_freshFillings := goodIn_r _ [40, 41, 42, 1, 43, 44, 45, 31, 46, 47, 48, 49, 50, 51, 52, 53, 54, 55, 56, 57, 58, 59, 60, 61, 62, 63, 64, 65, 66, 67, 68, 69, 70, 71, 72, 73, 74, 75, 76, 77, 78, 79, 80, 4, 5, 6, 7, 8, 81, 82, 83, 84, 85, 86, 87, 88, 89, 90, 91, 92, 93, 94, 95, 96, 97, 98, 99, 100, 101, 102, 103, 104, 105, 106, 107, 108, 109, 110, 111, 112, 113, 30, 32, 118, 119, 120, 121, 122, 123, 124, 125, 126, 127, 128, 129, 130, 138, 139, 140, 141, 142, 143, 131, 132, 133, 134, 135, 144, 145, 146, 147, 148, 149] rfl (by decide +kernel)
set_option maxRecDepth 20000 in
theorem gX7_filling_X7_freshFillings : GoodIn wsX7_filling (wsV RX7 108 RX7 yX7_freshFillings wsX7_freshFillings) := goodIn_app (goodIn_r _ [37, 38, 39, 23] rfl (by decide +kernel)) ggX7_filling_X7_freshFillings
set_option maxRecDepth 20000 in
theorem ggX7_filling_X0_indexOf : GoodIn wsX7_filling wsX0_indexOf := goodIn_r _ [117, 47, 95, 138, 139, 140, 141, 142, 143] rfl (by decide +kernel)
set_option maxRecDepth 20000 in
theorem gX7_filling_X0_indexOf : GoodIn wsX7_filling (wsV RX7 112 RX0 yX0_indexOf wsX0_indexOf) := goodIn_app (goodIn_r _ [114, 115, 116, 31] rfl (by decide +kernel)) ggX7_filling_X0_indexOf
theorem dX7_filling_0 : decode cX7_filling 0 = .ok (.aload_n 0, 1) := by decide +kernel
theorem dX7_filling_1 : decode cX7_filling 1 = .ok (.getfield 26, 3) := by decide +kernel
theorem dX7_filling_4 : decode cX7_filling 4 = .ok (.invokevirtual 99, 3) := by decide +kernel
theorem dX7_filling_7 : decode cX7_filling 7 = .ok (.ifCond .ne 20, 3) := by decide +kernel
theorem dX7_filling_10 : decode cX7_filling 10 = .ok (.aload_n 0, 1) := by decide +kernel
theorem dX7_filling_11 : decode cX7_filling 11 = .ok (.getfield 10, 3) := by decide +kernel
theorem dX7_filling_14 : decode cX7_filling 14 = .ok (.aload_n 0, 1) := by decide +kernel
theorem dX7_filling_15 : decode cX7_filling 15 = .ok (.getfield 26, 3) := by decide +kernel
theorem dX7_filling_18 : decode cX7_filling 18 = .ok (.invokevirtual 80, 3) := by decide +kernel
theorem dX7_filling_21 : decode cX7_filling 21 = .ok (.invokevirtual 102, 3) := by decide +kernel
theorem dX7_filling_24 : decode cX7_filling 24 = .ok (.ifCond .ne 6, 3) := by decide +kernel
theorem dX7_filling_27 : decode cX7_filling 27 = .ok (.bipush (-103), 2) := by decide +kernel
theorem dX7_filling_29 : decode cX7_filling 29 = .ok (.ireturn, 1) := by decide +kernel
theorem dX7_filling_30 : decode cX7_filling 30 = .ok (.aload_n 0, 1) := by decide +kernel
theorem dX7_filling_31 : decode cX7_filling 31 = .ok (.getfield 10, 3) := by decide +kernel
theorem dX7_filling_34 : decode cX7_filling 34 = .ok (.invokevirtual 105, 3) := by decide +kernel
theorem dX7_filling_37 : decode cX7_filling 37 = .ok (.istore_n 1, 1) := by decide +kernel
theorem dX7_filling_38 : decode cX7_filling 38 = .ok (.aload_n 0, 1) := by decide +kernel
theorem dX7_filling_39 : decode cX7_filling 39 = .ok (.getfield 10, 3) := by decide +kernel
theorem dX7_filling_42 : decode cX7_filling 42 = .ok (.invokevirtual 68, 3) := by decide +kernel
theorem dX7_filling_45 : decode cX7_filling 45 = .ok (.aload_n 0, 1) := by decide +kernel
theorem dX7_filling_46 : decode cX7_filling 46 = .ok (.invokevirtual 108, 3) := by decide +kernel
theorem dX7_filling_49 : decode cX7_filling 49 = .ok (.iload_n 1, 1) := by decide +kernel
theorem dX7_filling_50 : decode cX7_filling 50 = .ok (.invokevirtual 112, 3) := by decide +kernel
theorem dX7_filling_53 : decode cX7_filling 53 = .ok (.ireturn, 1) := by decide +kernel
set_option maxRecDepth 20000 in
theorem ggX7_text_X4_signAt : GoodIn wsX7_text wsX4_signAt := goodIn_r _ [6, 7, 8, 9, 10, 11, 12, 13, 14, 5, 15, 16, 17, 18, 19, 20, 21, 22, 23, 24, 25, 26, 27, 28, 29, 30, 31, 32, 33, 34, 35, 36, 37, 38, 39, 40, 41, 42, 43, 44, 45, 46, 47, 48, 49, 50, 51, 52, 53, 54, 55, 56, 70, 71, 72, 73, 74] rfl (by decide +kernel)
set_option maxRecDepth 20000 in
theorem gX7_text_X4_signAt : GoodIn wsX7_text (wsV RX7 116 RX4 yX4_signAt wsX4_signAt) := goodIn_app (goodIn_r _ [2, 3, 4, 5] rfl (by decide +kernel)) ggX7_text_X4_signAt
theorem dX7_text_0 : decode cX7_text 0 = .ok (.aload_n 0, 1) := by decide +kernel
theorem dX7_text_1 : decode cX7_text 1 = .ok (.getfield 26, 3) := by decide +kernel
theorem dX7_text_4 : decode cX7_text 4 = .ok (.iload_n 1, 1) := by decide +kernel
theorem dX7_text_5 : decode cX7_text 5 = .ok (.invokevirtual 116, 3) := by decide +kernel
theorem dX7_text_8 : decode cX7_text 8 = .ok (.ireturn, 1) := by decide +kernel
set_option maxRecDepth 20000 in
theorem ggX7_about_X4_isMissing : GoodIn wsX7_about wsX4_isMissing := goodIn_r _ [9, 10, 112, 113, 114, 115, 116] rfl (by decide +kernel)
set_option maxRecDepth 20000 in
theorem gX7_about_X4_isMissing : GoodIn wsX7_about (wsV RX7 99 RX4 yX4_isMissing wsX4_isMissing) := goodIn_app (goodIn_r _ [5, 6, 7, 8] rfl (by decide +kernel)) ggX7_about_X4_isMissing
set_option maxRecDepth 20000 in
theorem ggX7_about_X4_boxCount : GoodIn wsX7_about wsX4_boxCount := goodIn_r _ [14, 10, 15, 16, 112, 113, 114, 115, 116] rfl (by decide +kernel)
set_option maxRecDepth 20000 in
theorem gX7_about_X4_boxCount : GoodIn wsX7_about (wsV RX7 80 RX4 yX4_boxCount wsX4_boxCount) := goodIn_app (goodIn_r _ [11, 12, 13, 8] rfl (by decide +kernel)) ggX7_about_X4_boxCount
set_option maxRecDepth 20000 in
theorem ggX7_about_X4_contentSum : GoodIn wsX7_about wsX4_contentSum := goodIn_r _ [20, 21, 112, 113, 114, 115, 116] rfl (by decide +kernel)
set_option maxRecDepth 20000 in
theorem gX7_about_X4_contentSum : GoodIn wsX7_about (wsV RX7 125 RX4 yX4_contentSum wsX4_contentSum) := goodIn_app (goodIn_r _ [17, 18, 19, 8] rfl (by decide +kernel)) ggX7_about_X4_contentSum
set_option maxRecDepth 20000 in
theorem ggX7_about_X7_freshFillings : GoodIn wsX7_about wsX7_freshFillings := goodIn_r _ [26, 27, 28, 1, 29, 30, 31, 32, 33, 34, 35, 36, 37, 38, 39, 40, 41, 42, 43, 44, 45, 46, 47, 48, 49, 50, 51, 52, 53, 54, 55, 56, 57, 58, 59, 60, 61, 62, 63, 64, 65, 66, 67, 6, 7, 8, 9, 10, 68, 18, 19, 20, 21, 69, 70, 71, 72, 73, 74, 75, 76, 77, 78, 79, 80, 81, 82, 83, 84, 85, 86, 87, 88, 89, 90, 91, 92, 93, 94, 95, 96, 97, 98, 99, 100, 101, 102, 103, 104, 105, 106, 107, 108, 109, 110, 111, 117, 118, 119, 120, 121, 122, 112, 113, 114, 115, 116, 123, 124, 125, 126, 127, 128] rfl (by decide +kernel)
set_option maxRecDepth 20000 in
theorem gX7_about_X7_freshFillings : GoodIn wsX7_about (wsV RX7 108 RX7 yX7_freshFillings wsX7_freshFillings) := goodIn_app (goodIn_r _ [22, 23, 24, 25] rfl (by decide +kernel)) ggX7_about_X7_freshFillings
theorem dX7_about_0 : decode cX7_about 0 = .ok (.iload_n 1, 1) := by decide +kernel
theorem dX7_about_1 : decode cX7_about 1 = .ok (.ifCond .lt 8, 3) := by decide +kernel
theorem dX7_about_4 : decode cX7_about 4 = .ok (.iload_n 1, 1) := by decide +kernel
theorem dX7_about_5 : decode cX7_about 5 = .ok (.iconst 4, 1) := by decide +kernel
theorem dX7_about_6 : decode cX7_about 6 = .ok (.if_icmp .le 6, 3) := by decide +kernel
theorem dX7_about_9 : decode cX7_about 9 = .ok (.bipush (-102), 2) := by decide +kernel
theorem dX7_about_11 : decode cX7_about 11 = .ok (.ireturn, 1) := by decide +kernel
theorem dX7_about_12 : decode cX7_about 12 = .ok (.aload_n 0, 1) := by decide +kernel
theorem dX7_about_13 : decode cX7_about 13 = .ok (.getfield 26, 3) := by decide +kernel
theorem dX7_about_16 : decode cX7_about 16 = .ok (.invokevirtual 99, 3) := by decide +kernel
theorem dX7_about_19 : decode cX7_about 19 = .ok (.ifCond .eq 6, 3) := by decide +kernel
theorem dX7_about_22 : decode cX7_about 22 = .ok (.bipush (-103), 2) := by decide +kernel
theorem dX7_about_24 : decode cX7_about 24 = .ok (.ireturn, 1) := by decide +kernel
theorem dX7_about_25 : decode cX7_about 25 = .ok (.iload_n 1, 1) := by decide +kernel
theorem dX7_about_26 : decode cX7_about 26 = .ok (.tableswitch 62 0 3 #[30, 38, 46, 54], 30) := by decide +kernel
theorem dX7_about_56 : decode cX7_about 56 = .ok (.aload_n 0, 1) := by decide +kernel
theorem dX7_about_57 : decode cX7_about 57 = .ok (.getfield 26, 3) := by decide +kernel
theorem dX7_about_60 : decode cX7_about 60 = .ok (.getfield 119, 3) := by decide +kernel
theorem dX7_about_63 : decode cX7_about 63 = .ok (.ireturn, 1) := by decide +kernel
theorem dX7_about_64 : decode cX7_about 64 = .ok (.aload_n 0, 1) := by decide +kernel
theorem dX7_about_65 : decode cX7_about 65 = .ok (.getfield 26, 3) := by decide +kernel
theorem dX7_about_68 : decode cX7_about 68 = .ok (.invokevirtual 80, 3) := by decide +kernel
theorem dX7_about_71 : decode cX7_about 71 = .ok (.ireturn, 1) := by decide +kernel
theorem dX7_about_72 : decode cX7_about 72 = .ok (.aload_n 0, 1) := by decide +kernel
theorem dX7_about_73 : decode cX7_about 73 = .ok (.getfield 26, 3) := by decide +kernel
theorem dX7_about_76 : decode cX7_about 76 = .ok (.getfield 122, 3) := by decide +kernel
theorem dX7_about_79 : decode cX7_about 79 = .ok (.ireturn, 1) := by decide +kernel
theorem dX7_about_80 : decode cX7_about 80 = .ok (.aload_n 0, 1) := by decide +kernel
theorem dX7_about_81 : decode cX7_about 81 = .ok (.getfield 26, 3) := by decide +kernel
theorem dX7_about_84 : decode cX7_about 84 = .ok (.invokevirtual 125, 3) := by decide +kernel
theorem dX7_about_87 : decode cX7_about 87 = .ok (.ireturn, 1) := by decide +kernel
theorem dX7_about_88 : decode cX7_about 88 = .ok (.aload_n 0, 1) := by decide +kernel
theorem dX7_about_89 : decode cX7_about 89 = .ok (.invokevirtual 108, 3) := by decide +kernel
theorem dX7_about_92 : decode cX7_about 92 = .ok (.getfield 128, 3) := by decide +kernel
theorem dX7_about_95 : decode cX7_about 95 = .ok (.ireturn, 1) := by decide +kernel
set_option maxRecDepth 20000 in
theorem ggX7_as_X7_isKind : GoodIn wsX7_as wsX7_isKind := goodIn_r _ [6] rfl (by decide +kernel)
set_option maxRecDepth 20000 in
theorem gX7_as_X7_isKind : GoodIn wsX7_as (va_wsS RX7 129 yX7_isKind wsX7_isKind) := goodIn_app (goodIn_r _ [3, 4, 5] rfl (by decide +kernel)) ggX7_as_X7_isKind
set_option maxRecDepth 20000 in
theorem ggX7_as_X4_isMissing : GoodIn wsX7_as wsX4_isMissing := goodIn_r _ [11, 12, 29, 30, 31, 32, 33] rfl (by decide +kernel)
set_option maxRecDepth 20000 in
theorem gX7_as_X4_isMissing : GoodIn wsX7_as (wsV RX7 99 RX4 yX4_isMissing wsX4_isMissing) := goodIn_app (goodIn_r _ [7, 8, 9, 10] rfl (by decide +kernel)) ggX7_as_X4_isMissing
set_option maxRecDepth 20000 in
theorem ggX7_as_X7_extendsKind : GoodIn wsX7_as wsX7_extendsKind := goodIn_r _ [15] rfl (by decide +kernel)
set_option maxRecDepth 20000 in
theorem gX7_as_X7_extendsKind : GoodIn wsX7_as (va_wsS RX7 132 yX7_extendsKind wsX7_extendsKind) := goodIn_app (goodIn_r _ [13, 14, 5] rfl (by decide +kernel)) ggX7_as_X7_extendsKind
theorem dX7_as_0 : decode cX7_as 0 = .ok (.iload_n 1, 1) := by decide +kernel
theorem dX7_as_1 : decode cX7_as 1 = .ok (.invokestatic 129, 3) := by decide +kernel
theorem dX7_as_4 : decode cX7_as 4 = .ok (.ifCond .ne 6, 3) := by decide +kernel
theorem dX7_as_7 : decode cX7_as 7 = .ok (.bipush (-102), 2) := by decide +kernel
theorem dX7_as_9 : decode cX7_as 9 = .ok (.ireturn, 1) := by decide +kernel
theorem dX7_as_10 : decode cX7_as 10 = .ok (.aload_n 0, 1) := by decide +kernel
theorem dX7_as_11 : decode cX7_as 11 = .ok (.getfield 26, 3) := by decide +kernel
theorem dX7_as_14 : decode cX7_as 14 = .ok (.invokevirtual 99, 3) := by decide +kernel
theorem dX7_as_17 : decode cX7_as 17 = .ok (.ifCond .eq 6, 3) := by decide +kernel
theorem dX7_as_20 : decode cX7_as 20 = .ok (.bipush (-103), 2) := by decide +kernel
theorem dX7_as_22 : decode cX7_as 22 = .ok (.ireturn, 1) := by decide +kernel
theorem dX7_as_23 : decode cX7_as 23 = .ok (.aload_n 0, 1) := by decide +kernel
theorem dX7_as_24 : decode cX7_as 24 = .ok (.getfield 26, 3) := by decide +kernel
theorem dX7_as_27 : decode cX7_as 27 = .ok (.getfield 119, 3) := by decide +kernel
theorem dX7_as_30 : decode cX7_as 30 = .ok (.iload_n 1, 1) := by decide +kernel
theorem dX7_as_31 : decode cX7_as 31 = .ok (.invokestatic 132, 3) := by decide +kernel
theorem dX7_as_34 : decode cX7_as 34 = .ok (.ifCond .eq 13, 3) := by decide +kernel
theorem dX7_as_37 : decode cX7_as 37 = .ok (.aload_n 0, 1) := by decide +kernel
theorem dX7_as_38 : decode cX7_as 38 = .ok (.getfield 26, 3) := by decide +kernel
theorem dX7_as_41 : decode cX7_as 41 = .ok (.getfield 119, 3) := by decide +kernel
theorem dX7_as_44 : decode cX7_as 44 = .ok (.goto 4, 3) := by decide +kernel
theorem dX7_as_47 : decode cX7_as 47 = .ok (.iconst (-1), 1) := by decide +kernel
theorem dX7_as_48 : decode cX7_as 48 = .ok (.ireturn, 1) := by decide +kernel
set_option maxRecDepth 20000 in
theorem ggX7_row_X4_hasRow : GoodIn wsX7_row wsX4_hasRow := goodIn_r _ [8, 9, 23, 24, 25, 26, 27] rfl (by decide +kernel)
set_option maxRecDepth 20000 in
theorem gX7_row_X4_hasRow : GoodIn wsX7_row (wsV RX7 136 RX4 yX4_hasRow wsX4_hasRow) := goodIn_app (goodIn_r _ [4, 5, 6, 7] rfl (by decide +kernel)) ggX7_row_X4_hasRow
theorem dX7_row_0 : decode cX7_row 0 = .ok (.aload_n 0, 1) := by decide +kernel
theorem dX7_row_1 : decode cX7_row 1 = .ok (.getfield 26, 3) := by decide +kernel
theorem dX7_row_4 : decode cX7_row 4 = .ok (.iload_n 1, 1) := by decide +kernel
theorem dX7_row_5 : decode cX7_row 5 = .ok (.invokevirtual 136, 3) := by decide +kernel
theorem dX7_row_8 : decode cX7_row 8 = .ok (.ifCond .ne 6, 3) := by decide +kernel
theorem dX7_row_11 : decode cX7_row 11 = .ok (.bipush (-101), 2) := by decide +kernel
theorem dX7_row_13 : decode cX7_row 13 = .ok (.ireturn, 1) := by decide +kernel
theorem dX7_row_14 : decode cX7_row 14 = .ok (.iload_n 2, 1) := by decide +kernel
theorem dX7_row_15 : decode cX7_row 15 = .ok (.ifCond .lt 8, 3) := by decide +kernel
theorem dX7_row_18 : decode cX7_row 18 = .ok (.iload_n 2, 1) := by decide +kernel
theorem dX7_row_19 : decode cX7_row 19 = .ok (.iconst 1, 1) := by decide +kernel
theorem dX7_row_20 : decode cX7_row 20 = .ok (.if_icmp .le 6, 3) := by decide +kernel
theorem dX7_row_23 : decode cX7_row 23 = .ok (.bipush (-102), 2) := by decide +kernel
theorem dX7_row_25 : decode cX7_row 25 = .ok (.ireturn, 1) := by decide +kernel
theorem dX7_row_26 : decode cX7_row 26 = .ok (.iload_n 2, 1) := by decide +kernel
theorem dX7_row_27 : decode cX7_row 27 = .ok (.ifCond .ne 15, 3) := by decide +kernel
theorem dX7_row_30 : decode cX7_row 30 = .ok (.aload_n 0, 1) := by decide +kernel
theorem dX7_row_31 : decode cX7_row 31 = .ok (.getfield 26, 3) := by decide +kernel
theorem dX7_row_34 : decode cX7_row 34 = .ok (.getfield 139, 3) := by decide +kernel
theorem dX7_row_37 : decode cX7_row 37 = .ok (.iload_n 1, 1) := by decide +kernel
theorem dX7_row_38 : decode cX7_row 38 = .ok (.iaload, 1) := by decide +kernel
theorem dX7_row_39 : decode cX7_row 39 = .ok (.goto 12, 3) := by decide +kernel
theorem dX7_row_42 : decode cX7_row 42 = .ok (.aload_n 0, 1) := by decide +kernel
theorem dX7_row_43 : decode cX7_row 43 = .ok (.getfield 26, 3) := by decide +kernel
theorem dX7_row_46 : decode cX7_row 46 = .ok (.getfield 143, 3) := by decide +kernel
theorem dX7_row_49 : decode cX7_row 49 = .ok (.iload_n 1, 1) := by decide +kernel
theorem dX7_row_50 : decode cX7_row 50 = .ok (.iaload, 1) := by decide +kernel
theorem dX7_row_51 : decode cX7_row 51 = .ok (.ireturn, 1) := by decide +kernel
set_option maxRecDepth 20000 in
theorem ggX7_content_X7_isNumber : GoodIn wsX7_content wsX7_isNumber := goodIn_r _ [6] rfl (by decide +kernel)
set_option maxRecDepth 20000 in
theorem gX7_content_X7_isNumber : GoodIn wsX7_content (va_wsS RX7 146 yX7_isNumber wsX7_isNumber) := goodIn_app (goodIn_r _ [3, 4, 5] rfl (by decide +kernel)) ggX7_content_X7_isNumber
set_option maxRecDepth 20000 in
theorem ggX7_content_X4_isMissing : GoodIn wsX7_content wsX4_isMissing := goodIn_r _ [11, 12, 26, 27, 28, 29, 30] rfl (by decide +kernel)
set_option maxRecDepth 20000 in
theorem gX7_content_X4_isMissing : GoodIn wsX7_content (wsV RX7 99 RX4 yX4_isMissing wsX4_isMissing) := goodIn_app (goodIn_r _ [7, 8, 9, 10] rfl (by decide +kernel)) ggX7_content_X4_isMissing
theorem dX7_content_0 : decode cX7_content 0 = .ok (.iload_n 1, 1) := by decide +kernel
theorem dX7_content_1 : decode cX7_content 1 = .ok (.invokestatic 146, 3) := by decide +kernel
theorem dX7_content_4 : decode cX7_content 4 = .ok (.ifCond .ne 6, 3) := by decide +kernel
theorem dX7_content_7 : decode cX7_content 7 = .ok (.bipush (-102), 2) := by decide +kernel
theorem dX7_content_9 : decode cX7_content 9 = .ok (.ireturn, 1) := by decide +kernel
theorem dX7_content_10 : decode cX7_content 10 = .ok (.aload_n 0, 1) := by decide +kernel
theorem dX7_content_11 : decode cX7_content 11 = .ok (.getfield 26, 3) := by decide +kernel
theorem dX7_content_14 : decode cX7_content 14 = .ok (.invokevirtual 99, 3) := by decide +kernel
theorem dX7_content_17 : decode cX7_content 17 = .ok (.ifCond .eq 6, 3) := by decide +kernel
theorem dX7_content_20 : decode cX7_content 20 = .ok (.bipush (-103), 2) := by decide +kernel
theorem dX7_content_22 : decode cX7_content 22 = .ok (.ireturn, 1) := by decide +kernel
theorem dX7_content_23 : decode cX7_content 23 = .ok (.aload_n 0, 1) := by decide +kernel
theorem dX7_content_24 : decode cX7_content 24 = .ok (.getfield 26, 3) := by decide +kernel
theorem dX7_content_27 : decode cX7_content 27 = .ok (.getfield 149, 3) := by decide +kernel
theorem dX7_content_30 : decode cX7_content 30 = .ok (.iload_n 1, 1) := by decide +kernel
theorem dX7_content_31 : decode cX7_content 31 = .ok (.iconst 1, 1) := by decide +kernel
theorem dX7_content_32 : decode cX7_content 32 = .ok (.isub, 1) := by decide +kernel
theorem dX7_content_33 : decode cX7_content 33 = .ok (.iaload, 1) := by decide +kernel
theorem dX7_content_34 : decode cX7_content 34 = .ok (.ireturn, 1) := by decide +kernel
set_option maxRecDepth 20000 in
theorem ggX7_box_X7_freshFillings : GoodIn wsX7_box wsX7_freshFillings := goodIn_r _ [8, 9, 10, 11, 12, 13, 14, 15, 16, 17, 18, 19, 20, 21, 22, 23, 24, 25, 26, 27, 28, 29, 30, 31, 32, 33, 34, 35, 36, 37, 38, 39, 40, 41, 42, 43, 44, 45, 46, 47, 48, 49, 50, 51, 52, 53, 54, 55, 56, 57, 58, 59, 60, 61, 62, 63, 64, 65, 66, 67, 68, 69, 70, 71, 72, 73, 74, 75, 76, 77, 78, 79, 80, 81, 82, 83, 84, 85, 86, 87, 88, 89, 90, 107, 108, 109, 110, 111, 112, 113, 114, 115, 116, 117, 118, 119, 95, 96, 97, 98, 99, 100, 120, 121, 122, 123, 124, 101, 102, 103, 104, 105, 106] rfl (by decide +kernel)
set_option maxRecDepth 20000 in
theorem gX7_box_X7_freshFillings : GoodIn wsX7_box (wsV RX7 108 RX7 yX7_freshFillings wsX7_freshFillings) := goodIn_app (goodIn_r _ [4, 5, 6, 7] rfl (by decide +kernel)) ggX7_box_X7_freshFillings
set_option maxRecDepth 20000 in
theorem ggX7_box_X1_hasBox : GoodIn wsX7_box wsX1_hasBox := goodIn_r _ [94, 33, 101, 102, 103, 104, 105, 106] rfl (by decide +kernel)
set_option maxRecDepth 20000 in
theorem gX7_box_X1_hasBox : GoodIn wsX7_box (wsV RX7 156 RX1 yX1_hasBox wsX1_hasBox) := goodIn_app (goodIn_r _ [91, 92, 93, 31] rfl (by decide +kernel)) ggX7_box_X1_hasBox
theorem dX7_box_0 : decode cX7_box 0 = .ok (.aload_n 0, 1) := by decide +kernel
theorem dX7_box_1 : decode cX7_box 1 = .ok (.invokevirtual 108, 3) := by decide +kernel
theorem dX7_box_4 : decode cX7_box 4 = .ok (.getfield 152, 3) := by decide +kernel
theorem dX7_box_7 : decode cX7_box 7 = .ok (.astore_n 3, 1) := by decide +kernel
theorem dX7_box_8 : decode cX7_box 8 = .ok (.aload_n 3, 1) := by decide +kernel
theorem dX7_box_9 : decode cX7_box 9 = .ok (.iload_n 1, 1) := by decide +kernel
theorem dX7_box_10 : decode cX7_box 10 = .ok (.invokevirtual 156, 3) := by decide +kernel
theorem dX7_box_13 : decode cX7_box 13 = .ok (.ifCond .ne 6, 3) := by decide +kernel
theorem dX7_box_16 : decode cX7_box 16 = .ok (.bipush (-101), 2) := by decide +kernel
theorem dX7_box_18 : decode cX7_box 18 = .ok (.ireturn, 1) := by decide +kernel
theorem dX7_box_19 : decode cX7_box 19 = .ok (.iload_n 2, 1) := by decide +kernel
theorem dX7_box_20 : decode cX7_box 20 = .ok (.ifCond .lt 8, 3) := by decide +kernel
theorem dX7_box_23 : decode cX7_box 23 = .ok (.iload_n 2, 1) := by decide +kernel
theorem dX7_box_24 : decode cX7_box 24 = .ok (.iconst 1, 1) := by decide +kernel
theorem dX7_box_25 : decode cX7_box 25 = .ok (.if_icmp .le 6, 3) := by decide +kernel
theorem dX7_box_28 : decode cX7_box 28 = .ok (.bipush (-102), 2) := by decide +kernel
theorem dX7_box_30 : decode cX7_box 30 = .ok (.ireturn, 1) := by decide +kernel
theorem dX7_box_31 : decode cX7_box 31 = .ok (.iload_n 2, 1) := by decide +kernel
theorem dX7_box_32 : decode cX7_box 32 = .ok (.ifCond .ne 12, 3) := by decide +kernel
theorem dX7_box_35 : decode cX7_box 35 = .ok (.aload_n 3, 1) := by decide +kernel
theorem dX7_box_36 : decode cX7_box 36 = .ok (.getfield 161, 3) := by decide +kernel
theorem dX7_box_39 : decode cX7_box 39 = .ok (.iload_n 1, 1) := by decide +kernel
theorem dX7_box_40 : decode cX7_box 40 = .ok (.iaload, 1) := by decide +kernel
theorem dX7_box_41 : decode cX7_box 41 = .ok (.goto 9, 3) := by decide +kernel
theorem dX7_box_44 : decode cX7_box 44 = .ok (.aload_n 3, 1) := by decide +kernel
theorem dX7_box_45 : decode cX7_box 45 = .ok (.getfield 164, 3) := by decide +kernel
theorem dX7_box_48 : decode cX7_box 48 = .ok (.iload_n 1, 1) := by decide +kernel
theorem dX7_box_49 : decode cX7_box 49 = .ok (.iaload, 1) := by decide +kernel
theorem dX7_box_50 : decode cX7_box 50 = .ok (.ireturn, 1) := by decide +kernel
set_option maxRecDepth 20000 in
theorem ggX7_be_X7_isKind : GoodIn wsX7_be wsX7_isKind := goodIn_r _ [7] rfl (by decide +kernel)
set_option maxRecDepth 20000 in
theorem gX7_be_X7_isKind : GoodIn wsX7_be (va_wsS RX7 129 yX7_isKind wsX7_isKind) := goodIn_app (goodIn_r _ [4, 5, 6] rfl (by decide +kernel)) ggX7_be_X7_isKind
set_option maxRecDepth 20000 in
theorem ggX7_be_X4_isMissing : GoodIn wsX7_be wsX4_isMissing := goodIn_r _ [12, 13, 27, 28, 29, 30, 31] rfl (by decide +kernel)
set_option maxRecDepth 20000 in
theorem gX7_be_X4_isMissing : GoodIn wsX7_be (wsV RX7 99 RX4 yX4_isMissing wsX4_isMissing) := goodIn_app (goodIn_r _ [8, 9, 10, 11] rfl (by decide +kernel)) ggX7_be_X4_isMissing
theorem dX7_be_0 : decode cX7_be 0 = .ok (.iload_n 1, 1) := by decide +kernel
theorem dX7_be_1 : decode cX7_be 1 = .ok (.invokestatic 129, 3) := by decide +kernel
theorem dX7_be_4 : decode cX7_be 4 = .ok (.ifCond .ne 6, 3) := by decide +kernel
theorem dX7_be_7 : decode cX7_be 7 = .ok (.bipush (-102), 2) := by decide +kernel
theorem dX7_be_9 : decode cX7_be 9 = .ok (.ireturn, 1) := by decide +kernel
theorem dX7_be_10 : decode cX7_be 10 = .ok (.aload_n 0, 1) := by decide +kernel
theorem dX7_be_11 : decode cX7_be 11 = .ok (.getfield 26, 3) := by decide +kernel
theorem dX7_be_14 : decode cX7_be 14 = .ok (.invokevirtual 99, 3) := by decide +kernel
theorem dX7_be_17 : decode cX7_be 17 = .ok (.ifCond .eq 6, 3) := by decide +kernel
theorem dX7_be_20 : decode cX7_be 20 = .ok (.bipush (-103), 2) := by decide +kernel
theorem dX7_be_22 : decode cX7_be 22 = .ok (.ireturn, 1) := by decide +kernel
theorem dX7_be_23 : decode cX7_be 23 = .ok (.aload_n 0, 1) := by decide +kernel
theorem dX7_be_24 : decode cX7_be 24 = .ok (.getfield 26, 3) := by decide +kernel
theorem dX7_be_27 : decode cX7_be 27 = .ok (.getfield 119, 3) := by decide +kernel
theorem dX7_be_30 : decode cX7_be 30 = .ok (.istore_n 2, 1) := by decide +kernel
theorem dX7_be_31 : decode cX7_be 31 = .ok (.aload_n 0, 1) := by decide +kernel
theorem dX7_be_32 : decode cX7_be 32 = .ok (.getfield 26, 3) := by decide +kernel
theorem dX7_be_35 : decode cX7_be 35 = .ok (.iload_n 1, 1) := by decide +kernel
theorem dX7_be_36 : decode cX7_be 36 = .ok (.putfield 119, 3) := by decide +kernel
theorem dX7_be_39 : decode cX7_be 39 = .ok (.aload_n 0, 1) := by decide +kernel
theorem dX7_be_40 : decode cX7_be 40 = .ok (.iconst 0, 1) := by decide +kernel
theorem dX7_be_41 : decode cX7_be 41 = .ok (.putfield 167, 3) := by decide +kernel
theorem dX7_be_44 : decode cX7_be 44 = .ok (.iload_n 2, 1) := by decide +kernel
theorem dX7_be_45 : decode cX7_be 45 = .ok (.ireturn, 1) := by decide +kernel
set_option maxRecDepth 20000 in
theorem ggX7_grow_X4_hasRow : GoodIn wsX7_grow wsX4_hasRow := goodIn_r _ [8, 9, 62, 63, 64, 65, 66] rfl (by decide +kernel)
set_option maxRecDepth 20000 in
theorem gX7_grow_X4_hasRow : GoodIn wsX7_grow (wsV RX7 136 RX4 yX4_hasRow wsX4_hasRow) := goodIn_app (goodIn_r _ [4, 5, 6, 7] rfl (by decide +kernel)) ggX7_grow_X4_hasRow
set_option maxRecDepth 20000 in
theorem ggX7_grow_X4_takeOver : GoodIn wsX7_grow wsX4_takeOver := goodIn_r _ [13, 14, 9, 15, 16, 17, 18, 19, 20, 21, 62, 63, 64, 65, 66] rfl (by decide +kernel)
set_option maxRecDepth 20000 in
theorem gX7_grow_X4_takeOver : GoodIn wsX7_grow (wsV RX7 84 RX4 yX4_takeOver wsX4_takeOver) := goodIn_app (goodIn_r _ [10, 11, 12, 7] rfl (by decide +kernel)) ggX7_grow_X4_takeOver
set_option maxRecDepth 20000 in
theorem ggX7_grow_X7_draftError : GoodIn wsX7_grow wsX7_draftError := goodIn_r _ [26, 2, 27, 28, 29, 7, 30, 9, 15, 20, 31, 32, 33, 34, 35, 36, 37, 38, 39, 40, 41, 42, 49, 50, 51, 52, 53, 54, 55, 56, 57, 58, 59, 60, 61, 62, 63, 64, 65, 66] rfl (by decide +kernel)
set_option maxRecDepth 20000 in
theorem gX7_grow_X7_draftError : GoodIn wsX7_grow (wsV RX7 170 RX7 yX7_draftError wsX7_draftError) := goodIn_app (goodIn_r _ [22, 23, 24, 25] rfl (by decide +kernel)) ggX7_grow_X7_draftError
set_option maxRecDepth 20000 in
theorem ggX7_grow_X7_planChanged : GoodIn wsX7_grow wsX7_planChanged := goodIn_r _ [46, 47, 48, 49, 50, 51, 52, 53, 54, 55, 56, 57, 58, 59, 60, 61] rfl (by decide +kernel)
set_option maxRecDepth 20000 in
theorem gX7_grow_X7_planChanged : GoodIn wsX7_grow (wsV RX7 88 RX7 yX7_planChanged wsX7_planChanged) := goodIn_app (goodIn_r _ [43, 44, 45, 25] rfl (by decide +kernel)) ggX7_grow_X7_planChanged
set_option maxRecDepth 20000 in
theorem ggX7_grow_X4_boxCount : GoodIn wsX7_grow wsX4_boxCount := goodIn_r _ [42, 9, 15, 20, 62, 63, 64, 65, 66] rfl (by decide +kernel)
set_option maxRecDepth 20000 in
theorem gX7_grow_X4_boxCount : GoodIn wsX7_grow (wsV RX7 80 RX4 yX4_boxCount wsX4_boxCount) := goodIn_app (goodIn_r _ [39, 40, 41, 7] rfl (by decide +kernel)) ggX7_grow_X4_boxCount
theorem dX7_grow_0 : decode cX7_grow 0 = .ok (.aload_n 0, 1) := by decide +kernel
theorem dX7_grow_1 : decode cX7_grow 1 = .ok (.getfield 26, 3) := by decide +kernel
theorem dX7_grow_4 : decode cX7_grow 4 = .ok (.iload_n 1, 1) := by decide +kernel
theorem dX7_grow_5 : decode cX7_grow 5 = .ok (.invokevirtual 136, 3) := by decide +kernel
theorem dX7_grow_8 : decode cX7_grow 8 = .ok (.ifCond .ne 6, 3) := by decide +kernel
theorem dX7_grow_11 : decode cX7_grow 11 = .ok (.bipush (-101), 2) := by decide +kernel
theorem dX7_grow_13 : decode cX7_grow 13 = .ok (.ireturn, 1) := by decide +kernel
theorem dX7_grow_14 : decode cX7_grow 14 = .ok (.aload_n 0, 1) := by decide +kernel
theorem dX7_grow_15 : decode cX7_grow 15 = .ok (.getfield 30, 3) := by decide +kernel
theorem dX7_grow_18 : decode cX7_grow 18 = .ok (.aload_n 0, 1) := by decide +kernel
theorem dX7_grow_19 : decode cX7_grow 19 = .ok (.getfield 26, 3) := by decide +kernel
theorem dX7_grow_22 : decode cX7_grow 22 = .ok (.invokevirtual 84, 3) := by decide +kernel
theorem dX7_grow_25 : decode cX7_grow 25 = .ok (.aload_n 0, 1) := by decide +kernel
theorem dX7_grow_26 : decode cX7_grow 26 = .ok (.getfield 30, 3) := by decide +kernel
theorem dX7_grow_29 : decode cX7_grow 29 = .ok (.getfield 139, 3) := by decide +kernel
theorem dX7_grow_32 : decode cX7_grow 32 = .ok (.iload_n 1, 1) := by decide +kernel
theorem dX7_grow_33 : decode cX7_grow 33 = .ok (.dup2, 1) := by decide +kernel
theorem dX7_grow_34 : decode cX7_grow 34 = .ok (.iaload, 1) := by decide +kernel
theorem dX7_grow_35 : decode cX7_grow 35 = .ok (.iload_n 2, 1) := by decide +kernel
theorem dX7_grow_36 : decode cX7_grow 36 = .ok (.ifCond .eq 7, 3) := by decide +kernel
theorem dX7_grow_39 : decode cX7_grow 39 = .ok (.iconst 1, 1) := by decide +kernel
theorem dX7_grow_40 : decode cX7_grow 40 = .ok (.goto 4, 3) := by decide +kernel
theorem dX7_grow_43 : decode cX7_grow 43 = .ok (.iconst (-1), 1) := by decide +kernel
theorem dX7_grow_44 : decode cX7_grow 44 = .ok (.iadd, 1) := by decide +kernel
theorem dX7_grow_45 : decode cX7_grow 45 = .ok (.iastore, 1) := by decide +kernel
theorem dX7_grow_46 : decode cX7_grow 46 = .ok (.aload_n 0, 1) := by decide +kernel
theorem dX7_grow_47 : decode cX7_grow 47 = .ok (.invokevirtual 170, 3) := by decide +kernel
theorem dX7_grow_50 : decode cX7_grow 50 = .ok (.istore_n 3, 1) := by decide +kernel
theorem dX7_grow_51 : decode cX7_grow 51 = .ok (.iload_n 3, 1) := by decide +kernel
theorem dX7_grow_52 : decode cX7_grow 52 = .ok (.ifCond .eq 5, 3) := by decide +kernel
theorem dX7_grow_55 : decode cX7_grow 55 = .ok (.iload_n 3, 1) := by decide +kernel
theorem dX7_grow_56 : decode cX7_grow 56 = .ok (.ireturn, 1) := by decide +kernel
theorem dX7_grow_57 : decode cX7_grow 57 = .ok (.aload_n 0, 1) := by decide +kernel
theorem dX7_grow_58 : decode cX7_grow 58 = .ok (.getfield 26, 3) := by decide +kernel
theorem dX7_grow_61 : decode cX7_grow 61 = .ok (.aload_n 0, 1) := by decide +kernel
theorem dX7_grow_62 : decode cX7_grow 62 = .ok (.getfield 30, 3) := by decide +kernel
theorem dX7_grow_65 : decode cX7_grow 65 = .ok (.invokevirtual 84, 3) := by decide +kernel
theorem dX7_grow_68 : decode cX7_grow 68 = .ok (.aload_n 0, 1) := by decide +kernel
theorem dX7_grow_69 : decode cX7_grow 69 = .ok (.invokevirtual 88, 3) := by decide +kernel
theorem dX7_grow_72 : decode cX7_grow 72 = .ok (.aload_n 0, 1) := by decide +kernel
theorem dX7_grow_73 : decode cX7_grow 73 = .ok (.getfield 26, 3) := by decide +kernel
theorem dX7_grow_76 : decode cX7_grow 76 = .ok (.invokevirtual 80, 3) := by decide +kernel
theorem dX7_grow_79 : decode cX7_grow 79 = .ok (.ireturn, 1) := by decide +kernel
set_option maxRecDepth 20000 in
theorem ggX7_cut_X4_hasRow : GoodIn wsX7_cut wsX4_hasRow := goodIn_r _ [8, 9, 62, 63, 64, 65, 66] rfl (by decide +kernel)
set_option maxRecDepth 20000 in
theorem gX7_cut_X4_hasRow : GoodIn wsX7_cut (wsV RX7 136 RX4 yX4_hasRow wsX4_hasRow) := goodIn_app (goodIn_r _ [4, 5, 6, 7] rfl (by decide +kernel)) ggX7_cut_X4_hasRow
set_option maxRecDepth 20000 in
theorem ggX7_cut_X4_takeOver : GoodIn wsX7_cut wsX4_takeOver := goodIn_r _ [13, 14, 9, 15, 16, 17, 18, 19, 20, 21, 62, 63, 64, 65, 66] rfl (by decide +kernel)
set_option maxRecDepth 20000 in
theorem gX7_cut_X4_takeOver : GoodIn wsX7_cut (wsV RX7 84 RX4 yX4_takeOver wsX4_takeOver) := goodIn_app (goodIn_r _ [10, 11, 12, 7] rfl (by decide +kernel)) ggX7_cut_X4_takeOver
set_option maxRecDepth 20000 in
theorem ggX7_cut_X7_draftError : GoodIn wsX7_cut wsX7_draftError := goodIn_r _ [26, 2, 27, 28, 29, 7, 30, 9, 15, 20, 31, 32, 33, 34, 35, 36, 37, 38, 39, 40, 41, 42, 49, 50, 51, 52, 53, 54, 55, 56, 57, 58, 59, 60, 61, 62, 63, 64, 65, 66] rfl (by decide +kernel)
set_option maxRecDepth 20000 in
theorem gX7_cut_X7_draftError : GoodIn wsX7_cut (wsV RX7 170 RX7 yX7_draftError wsX7_draftError) := goodIn_app (goodIn_r _ [22, 23, 24, 25] rfl (by decide +kernel)) ggX7_cut_X7_draftError
set_option maxRecDepth 20000 in
theorem ggX7_cut_X7_planChanged : GoodIn wsX7_cut wsX7_planChanged := goodIn_r _ [46, 47, 48, 49, 50, 51, 52, 53, 54, 55, 56, 57, 58, 59, 60, 61] rfl (by decide +kernel)
set_option maxRecDepth 20000 in
theorem gX7_cut_X7_planChanged : GoodIn wsX7_cut (wsV RX7 88 RX7 yX7_planChanged wsX7_planChanged) := goodIn_app (goodIn_r _ [43, 44, 45, 25] rfl (by decide +kernel)) ggX7_cut_X7_planChanged
theorem dX7_cut_0 : decode cX7_cut 0 = .ok (.aload_n 0, 1) := by decide +kernel
theorem dX7_cut_1 : decode cX7_cut 1 = .ok (.getfield 26, 3) := by decide +kernel
theorem dX7_cut_4 : decode cX7_cut 4 = .ok (.iload_n 1, 1) := by decide +kernel
theorem dX7_cut_5 : decode cX7_cut 5 = .ok (.invokevirtual 136, 3) := by decide +kernel
theorem dX7_cut_8 : decode cX7_cut 8 = .ok (.ifCond .ne 6, 3) := by decide +kernel
theorem dX7_cut_11 : decode cX7_cut 11 = .ok (.bipush (-101), 2) := by decide +kernel
theorem dX7_cut_13 : decode cX7_cut 13 = .ok (.ireturn, 1) := by decide +kernel
theorem dX7_cut_14 : decode cX7_cut 14 = .ok (.aload_n 0, 1) := by decide +kernel
theorem dX7_cut_15 : decode cX7_cut 15 = .ok (.getfield 30, 3) := by decide +kernel
theorem dX7_cut_18 : decode cX7_cut 18 = .ok (.aload_n 0, 1) := by decide +kernel
theorem dX7_cut_19 : decode cX7_cut 19 = .ok (.getfield 26, 3) := by decide +kernel
theorem dX7_cut_22 : decode cX7_cut 22 = .ok (.invokevirtual 84, 3) := by decide +kernel
theorem dX7_cut_25 : decode cX7_cut 25 = .ok (.aload_n 0, 1) := by decide +kernel
theorem dX7_cut_26 : decode cX7_cut 26 = .ok (.getfield 30, 3) := by decide +kernel
theorem dX7_cut_29 : decode cX7_cut 29 = .ok (.getfield 143, 3) := by decide +kernel
theorem dX7_cut_32 : decode cX7_cut 32 = .ok (.iload_n 1, 1) := by decide +kernel
theorem dX7_cut_33 : decode cX7_cut 33 = .ok (.iload_n 2, 1) := by decide +kernel
theorem dX7_cut_34 : decode cX7_cut 34 = .ok (.iastore, 1) := by decide +kernel
theorem dX7_cut_35 : decode cX7_cut 35 = .ok (.aload_n 0, 1) := by decide +kernel
theorem dX7_cut_36 : decode cX7_cut 36 = .ok (.invokevirtual 170, 3) := by decide +kernel
theorem dX7_cut_39 : decode cX7_cut 39 = .ok (.istore_n 3, 1) := by decide +kernel
theorem dX7_cut_40 : decode cX7_cut 40 = .ok (.iload_n 3, 1) := by decide +kernel
theorem dX7_cut_41 : decode cX7_cut 41 = .ok (.ifCond .eq 5, 3) := by decide +kernel
theorem dX7_cut_44 : decode cX7_cut 44 = .ok (.iload_n 3, 1) := by decide +kernel
theorem dX7_cut_45 : decode cX7_cut 45 = .ok (.ireturn, 1) := by decide +kernel
theorem dX7_cut_46 : decode cX7_cut 46 = .ok (.aload_n 0, 1) := by decide +kernel
theorem dX7_cut_47 : decode cX7_cut 47 = .ok (.getfield 26, 3) := by decide +kernel
theorem dX7_cut_50 : decode cX7_cut 50 = .ok (.getfield 143, 3) := by decide +kernel
theorem dX7_cut_53 : decode cX7_cut 53 = .ok (.iload_n 1, 1) := by decide +kernel
theorem dX7_cut_54 : decode cX7_cut 54 = .ok (.iaload, 1) := by decide +kernel
theorem dX7_cut_55 : decode cX7_cut 55 = .ok (.istore 4, 2) := by decide +kernel
theorem dX7_cut_57 : decode cX7_cut 57 = .ok (.aload_n 0, 1) := by decide +kernel
theorem dX7_cut_58 : decode cX7_cut 58 = .ok (.getfield 26, 3) := by decide +kernel
theorem dX7_cut_61 : decode cX7_cut 61 = .ok (.aload_n 0, 1) := by decide +kernel
theorem dX7_cut_62 : decode cX7_cut 62 = .ok (.getfield 30, 3) := by decide +kernel
theorem dX7_cut_65 : decode cX7_cut 65 = .ok (.invokevirtual 84, 3) := by decide +kernel
theorem dX7_cut_68 : decode cX7_cut 68 = .ok (.aload_n 0, 1) := by decide +kernel
theorem dX7_cut_69 : decode cX7_cut 69 = .ok (.invokevirtual 88, 3) := by decide +kernel
theorem dX7_cut_72 : decode cX7_cut 72 = .ok (.iload 4, 2) := by decide +kernel
theorem dX7_cut_74 : decode cX7_cut 74 = .ok (.ireturn, 1) := by decide +kernel
set_option maxRecDepth 20000 in
theorem ggX7_give_X7_isNumber : GoodIn wsX7_give wsX7_isNumber := goodIn_r _ [6] rfl (by decide +kernel)
set_option maxRecDepth 20000 in
theorem gX7_give_X7_isNumber : GoodIn wsX7_give (va_wsS RX7 146 yX7_isNumber wsX7_isNumber) := goodIn_app (goodIn_r _ [3, 4, 5] rfl (by decide +kernel)) ggX7_give_X7_isNumber
set_option maxRecDepth 20000 in
theorem ggX7_give_X4_isMissing : GoodIn wsX7_give wsX4_isMissing := goodIn_r _ [11, 12, 32, 33, 34, 35, 36] rfl (by decide +kernel)
set_option maxRecDepth 20000 in
theorem gX7_give_X4_isMissing : GoodIn wsX7_give (wsV RX7 99 RX4 yX4_isMissing wsX4_isMissing) := goodIn_app (goodIn_r _ [7, 8, 9, 10] rfl (by decide +kernel)) ggX7_give_X4_isMissing
set_option maxRecDepth 20000 in
theorem ggX7_give_X7_planChanged : GoodIn wsX7_give wsX7_planChanged := goodIn_r _ [16, 17, 18, 19, 20, 21, 22, 23, 24, 25, 26, 27, 28, 29, 30, 31] rfl (by decide +kernel)
set_option maxRecDepth 20000 in
theorem gX7_give_X7_planChanged : GoodIn wsX7_give (wsV RX7 88 RX7 yX7_planChanged wsX7_planChanged) := goodIn_app (goodIn_r _ [13, 14, 15, 5] rfl (by decide +kernel)) ggX7_give_X7_planChanged
theorem dX7_give_0 : decode cX7_give 0 = .ok (.iload_n 1, 1) := by decide +kernel
theorem dX7_give_1 : decode cX7_give 1 = .ok (.invokestatic 146, 3) := by decide +kernel
theorem dX7_give_4 : decode cX7_give 4 = .ok (.ifCond .eq 10, 3) := by decide +kernel
theorem dX7_give_7 : decode cX7_give 7 = .ok (.iload_n 2, 1) := by decide +kernel
theorem dX7_give_8 : decode cX7_give 8 = .ok (.invokestatic 146, 3) := by decide +kernel
theorem dX7_give_11 : decode cX7_give 11 = .ok (.ifCond .ne 6, 3) := by decide +kernel
theorem dX7_give_14 : decode cX7_give 14 = .ok (.bipush (-102), 2) := by decide +kernel
theorem dX7_give_16 : decode cX7_give 16 = .ok (.ireturn, 1) := by decide +kernel
theorem dX7_give_17 : decode cX7_give 17 = .ok (.aload_n 0, 1) := by decide +kernel
theorem dX7_give_18 : decode cX7_give 18 = .ok (.getfield 26, 3) := by decide +kernel
theorem dX7_give_21 : decode cX7_give 21 = .ok (.invokevirtual 99, 3) := by decide +kernel
theorem dX7_give_24 : decode cX7_give 24 = .ok (.ifCond .ne 17, 3) := by decide +kernel
theorem dX7_give_27 : decode cX7_give 27 = .ok (.aload_n 0, 1) := by decide +kernel
theorem dX7_give_28 : decode cX7_give 28 = .ok (.getfield 26, 3) := by decide +kernel
theorem dX7_give_31 : decode cX7_give 31 = .ok (.getfield 149, 3) := by decide +kernel
theorem dX7_give_34 : decode cX7_give 34 = .ok (.iload_n 1, 1) := by decide +kernel
theorem dX7_give_35 : decode cX7_give 35 = .ok (.iconst 1, 1) := by decide +kernel
theorem dX7_give_36 : decode cX7_give 36 = .ok (.isub, 1) := by decide +kernel
theorem dX7_give_37 : decode cX7_give 37 = .ok (.iaload, 1) := by decide +kernel
theorem dX7_give_38 : decode cX7_give 38 = .ok (.ifCond .ne 6, 3) := by decide +kernel
theorem dX7_give_41 : decode cX7_give 41 = .ok (.bipush (-103), 2) := by decide +kernel
theorem dX7_give_43 : decode cX7_give 43 = .ok (.ireturn, 1) := by decide +kernel
theorem dX7_give_44 : decode cX7_give 44 = .ok (.aload_n 0, 1) := by decide +kernel
theorem dX7_give_45 : decode cX7_give 45 = .ok (.getfield 26, 3) := by decide +kernel
theorem dX7_give_48 : decode cX7_give 48 = .ok (.getfield 149, 3) := by decide +kernel
theorem dX7_give_51 : decode cX7_give 51 = .ok (.iload_n 2, 1) := by decide +kernel
theorem dX7_give_52 : decode cX7_give 52 = .ok (.iconst 1, 1) := by decide +kernel
theorem dX7_give_53 : decode cX7_give 53 = .ok (.isub, 1) := by decide +kernel
theorem dX7_give_54 : decode cX7_give 54 = .ok (.iaload, 1) := by decide +kernel
theorem dX7_give_55 : decode cX7_give 55 = .ok (.bipush 9, 2) := by decide +kernel
theorem dX7_give_57 : decode cX7_give 57 = .ok (.if_icmp .lt 6, 3) := by decide +kernel
theorem dX7_give_60 : decode cX7_give 60 = .ok (.bipush (-104), 2) := by decide +kernel
theorem dX7_give_62 : decode cX7_give 62 = .ok (.ireturn, 1) := by decide +kernel
theorem dX7_give_63 : decode cX7_give 63 = .ok (.aload_n 0, 1) := by decide +kernel
theorem dX7_give_64 : decode cX7_give 64 = .ok (.getfield 26, 3) := by decide +kernel
theorem dX7_give_67 : decode cX7_give 67 = .ok (.getfield 149, 3) := by decide +kernel
theorem dX7_give_70 : decode cX7_give 70 = .ok (.iload_n 1, 1) := by decide +kernel
theorem dX7_give_71 : decode cX7_give 71 = .ok (.iconst 1, 1) := by decide +kernel
theorem dX7_give_72 : decode cX7_give 72 = .ok (.isub, 1) := by decide +kernel
theorem dX7_give_73 : decode cX7_give 73 = .ok (.dup2, 1) := by decide +kernel
theorem dX7_give_74 : decode cX7_give 74 = .ok (.iaload, 1) := by decide +kernel
theorem dX7_give_75 : decode cX7_give 75 = .ok (.iconst 1, 1) := by decide +kernel
theorem dX7_give_76 : decode cX7_give 76 = .ok (.isub, 1) := by decide +kernel
theorem dX7_give_77 : decode cX7_give 77 = .ok (.iastore, 1) := by decide +kernel
theorem dX7_give_78 : decode cX7_give 78 = .ok (.aload_n 0, 1) := by decide +kernel
theorem dX7_give_79 : decode cX7_give 79 = .ok (.getfield 26, 3) := by decide +kernel
theorem dX7_give_82 : decode cX7_give 82 = .ok (.getfield 149, 3) := by decide +kernel
theorem dX7_give_85 : decode cX7_give 85 = .ok (.iload_n 2, 1) := by decide +kernel
theorem dX7_give_86 : decode cX7_give 86 = .ok (.iconst 1, 1) := by decide +kernel
theorem dX7_give_87 : decode cX7_give 87 = .ok (.isub, 1) := by decide +kernel
theorem dX7_give_88 : decode cX7_give 88 = .ok (.dup2, 1) := by decide +kernel
theorem dX7_give_89 : decode cX7_give 89 = .ok (.iaload, 1) := by decide +kernel
theorem dX7_give_90 : decode cX7_give 90 = .ok (.iconst 1, 1) := by decide +kernel
theorem dX7_give_91 : decode cX7_give 91 = .ok (.iadd, 1) := by decide +kernel
theorem dX7_give_92 : decode cX7_give 92 = .ok (.iastore, 1) := by decide +kernel
theorem dX7_give_93 : decode cX7_give 93 = .ok (.aload_n 0, 1) := by decide +kernel
theorem dX7_give_94 : decode cX7_give 94 = .ok (.invokevirtual 88, 3) := by decide +kernel
theorem dX7_give_97 : decode cX7_give 97 = .ok (.aload_n 0, 1) := by decide +kernel
theorem dX7_give_98 : decode cX7_give 98 = .ok (.getfield 26, 3) := by decide +kernel
theorem dX7_give_101 : decode cX7_give 101 = .ok (.getfield 149, 3) := by decide +kernel
theorem dX7_give_104 : decode cX7_give 104 = .ok (.iload_n 2, 1) := by decide +kernel
theorem dX7_give_105 : decode cX7_give 105 = .ok (.iconst 1, 1) := by decide +kernel
theorem dX7_give_106 : decode cX7_give 106 = .ok (.isub, 1) := by decide +kernel
theorem dX7_give_107 : decode cX7_give 107 = .ok (.iaload, 1) := by decide +kernel
theorem dX7_give_108 : decode cX7_give 108 = .ok (.ireturn, 1) := by decide +kernel
set_option maxRecDepth 20000 in
theorem ggX7_way_X7_freshFillings : GoodIn wsX7_way wsX7_freshFillings := goodIn_r _ [6, 7, 8, 9, 10, 11, 12, 13, 14, 15, 16, 17, 18, 19, 20, 21, 22, 23, 24, 25, 26, 27, 28, 29, 30, 31, 32, 33, 34, 35, 36, 37, 38, 39, 40, 41, 42, 43, 44, 45, 46, 47, 48, 49, 50, 51, 52, 53, 54, 55, 56, 57, 58, 59, 60, 61, 62, 63, 64, 65, 66, 67, 68, 69, 70, 71, 72, 73, 74, 75, 76, 77, 78, 79, 80, 81, 82, 83, 84, 85, 86, 87, 88, 107, 108, 109, 110, 111, 112, 113, 114, 115, 116, 117, 118, 119, 101, 102, 103, 104, 105, 106, 120, 121, 122, 123, 124, 125, 126, 127, 128, 129, 130] rfl (by decide +kernel)
set_option maxRecDepth 20000 in
theorem gX7_way_X7_freshFillings : GoodIn wsX7_way (wsV RX7 108 RX7 yX7_freshFillings wsX7_freshFillings) := goodIn_app (goodIn_r _ [2, 3, 4, 5] rfl (by decide +kernel)) ggX7_way_X7_freshFillings
set_option maxRecDepth 20000 in
theorem ggX7_way_X0_hasFilling : GoodIn wsX7_way wsX0_hasFilling := goodIn_r _ [92, 15, 101, 102, 103, 104, 105, 106] rfl (by decide +kernel)
set_option maxRecDepth 20000 in
theorem gX7_way_X0_hasFilling : GoodIn wsX7_way (wsV RX7 173 RX0 yX0_hasFilling wsX0_hasFilling) := goodIn_app (goodIn_r _ [89, 90, 91, 13] rfl (by decide +kernel)) ggX7_way_X0_hasFilling
set_option maxRecDepth 20000 in
theorem ggX7_way_X1_hasBox : GoodIn wsX7_way wsX1_hasBox := goodIn_r _ [96, 31, 125, 126, 127, 128, 129, 130] rfl (by decide +kernel)
set_option maxRecDepth 20000 in
theorem gX7_way_X1_hasBox : GoodIn wsX7_way (wsV RX7 156 RX1 yX1_hasBox wsX1_hasBox) := goodIn_app (goodIn_r _ [93, 94, 95, 29] rfl (by decide +kernel)) ggX7_way_X1_hasBox
set_option maxRecDepth 20000 in
theorem ggX7_way_X0_numberIn : GoodIn wsX7_way wsX0_numberIn := goodIn_r _ [100, 18, 25, 68, 101, 102, 103, 104, 105, 106, 125, 126, 127, 128, 129, 130] rfl (by decide +kernel)
set_option maxRecDepth 20000 in
theorem gX7_way_X0_numberIn : GoodIn wsX7_way (wsV RX7 176 RX0 yX0_numberIn wsX0_numberIn) := goodIn_app (goodIn_r _ [97, 98, 99, 13] rfl (by decide +kernel)) ggX7_way_X0_numberIn
theorem dX7_way_0 : decode cX7_way 0 = .ok (.aload_n 0, 1) := by decide +kernel
theorem dX7_way_1 : decode cX7_way 1 = .ok (.invokevirtual 108, 3) := by decide +kernel
theorem dX7_way_4 : decode cX7_way 4 = .ok (.astore_n 3, 1) := by decide +kernel
theorem dX7_way_5 : decode cX7_way 5 = .ok (.aload_n 3, 1) := by decide +kernel
theorem dX7_way_6 : decode cX7_way 6 = .ok (.iload_n 1, 1) := by decide +kernel
theorem dX7_way_7 : decode cX7_way 7 = .ok (.invokevirtual 173, 3) := by decide +kernel
theorem dX7_way_10 : decode cX7_way 10 = .ok (.ifCond .eq 14, 3) := by decide +kernel
theorem dX7_way_13 : decode cX7_way 13 = .ok (.aload_n 3, 1) := by decide +kernel
theorem dX7_way_14 : decode cX7_way 14 = .ok (.getfield 152, 3) := by decide +kernel
theorem dX7_way_17 : decode cX7_way 17 = .ok (.iload_n 2, 1) := by decide +kernel
theorem dX7_way_18 : decode cX7_way 18 = .ok (.invokevirtual 156, 3) := by decide +kernel
theorem dX7_way_21 : decode cX7_way 21 = .ok (.ifCond .ne 6, 3) := by decide +kernel
theorem dX7_way_24 : decode cX7_way 24 = .ok (.bipush (-101), 2) := by decide +kernel
theorem dX7_way_26 : decode cX7_way 26 = .ok (.ireturn, 1) := by decide +kernel
theorem dX7_way_27 : decode cX7_way 27 = .ok (.aload_n 3, 1) := by decide +kernel
theorem dX7_way_28 : decode cX7_way 28 = .ok (.iload_n 1, 1) := by decide +kernel
theorem dX7_way_29 : decode cX7_way 29 = .ok (.iload_n 2, 1) := by decide +kernel
theorem dX7_way_30 : decode cX7_way 30 = .ok (.invokevirtual 176, 3) := by decide +kernel
theorem dX7_way_33 : decode cX7_way 33 = .ok (.ireturn, 1) := by decide +kernel
set_option maxRecDepth 20000 in
theorem ggX7_hive_X7_freshFillings : GoodIn wsX7_hive wsX7_freshFillings := goodIn_r _ [7, 8, 9, 1, 10, 11, 12, 13, 14, 15, 16, 17, 18, 19, 20, 21, 22, 23, 24, 25, 26, 27, 28, 29, 30, 31, 32, 33, 34, 35, 36, 37, 38, 39, 40, 41, 42, 43, 44, 45, 46, 47, 48, 49, 50, 51, 52, 53, 54, 55, 56, 57, 58, 59, 60, 61, 62, 63, 64, 65, 66, 67, 68, 69, 70, 71, 72, 73, 74, 75, 76, 77, 78, 79, 80, 81, 82, 83, 84, 85, 86, 87, 88, 111, 112, 113, 114, 115, 116, 117, 118, 119, 120, 121, 122, 123, 129, 130, 131, 132, 133, 134, 124, 125, 126, 127, 128, 135, 136, 137, 138, 139, 140] rfl (by decide +kernel)
set_option maxRecDepth 20000 in
theorem gX7_hive_X7_freshFillings : GoodIn wsX7_hive (wsV RX7 108 RX7 yX7_freshFillings wsX7_freshFillings) := goodIn_app (goodIn_r _ [3, 4, 5, 6] rfl (by decide +kernel)) ggX7_hive_X7_freshFillings
set_option maxRecDepth 20000 in
theorem ggX7_hive_X0_hasFilling : GoodIn wsX7_hive wsX0_hasFilling := goodIn_r _ [92, 15, 129, 130, 131, 132, 133, 134] rfl (by decide +kernel)
set_option maxRecDepth 20000 in
theorem gX7_hive_X0_hasFilling : GoodIn wsX7_hive (wsV RX7 173 RX0 yX0_hasFilling wsX0_hasFilling) := goodIn_app (goodIn_r _ [89, 90, 91, 13] rfl (by decide +kernel)) ggX7_hive_X0_hasFilling
set_option maxRecDepth 20000 in
theorem ggX7_hive_X7_partialSum : GoodIn wsX7_hive wsX7_partialSum := goodIn_r _ [96, 1, 97, 98, 99, 51, 100, 53, 101, 102, 103, 104, 13, 105, 18, 25, 106, 107, 108, 109, 110, 68, 111, 112, 113, 114, 115, 116, 117, 118, 119, 120, 121, 122, 123, 124, 125, 126, 127, 128, 129, 130, 131, 132, 133, 134, 135, 136, 137, 138, 139, 140] rfl (by decide +kernel)
set_option maxRecDepth 20000 in
theorem gX7_hive_X7_partialSum : GoodIn wsX7_hive (wsV RX7 180 RX7 yX7_partialSum wsX7_partialSum) := goodIn_app (goodIn_r _ [93, 94, 95, 6] rfl (by decide +kernel)) ggX7_hive_X7_partialSum
theorem dX7_hive_0 : decode cX7_hive 0 = .ok (.aload_n 0, 1) := by decide +kernel
theorem dX7_hive_1 : decode cX7_hive 1 = .ok (.invokevirtual 108, 3) := by decide +kernel
theorem dX7_hive_4 : decode cX7_hive 4 = .ok (.astore 4, 2) := by decide +kernel
theorem dX7_hive_6 : decode cX7_hive 6 = .ok (.aload 4, 2) := by decide +kernel
theorem dX7_hive_8 : decode cX7_hive 8 = .ok (.iload_n 1, 1) := by decide +kernel
theorem dX7_hive_9 : decode cX7_hive 9 = .ok (.invokevirtual 173, 3) := by decide +kernel
theorem dX7_hive_12 : decode cX7_hive 12 = .ok (.ifCond .ne 6, 3) := by decide +kernel
theorem dX7_hive_15 : decode cX7_hive 15 = .ok (.bipush (-101), 2) := by decide +kernel
theorem dX7_hive_17 : decode cX7_hive 17 = .ok (.ireturn, 1) := by decide +kernel
theorem dX7_hive_18 : decode cX7_hive 18 = .ok (.iload_n 2, 1) := by decide +kernel
theorem dX7_hive_19 : decode cX7_hive 19 = .ok (.ifCond .lt 23, 3) := by decide +kernel
theorem dX7_hive_22 : decode cX7_hive 22 = .ok (.iload_n 2, 1) := by decide +kernel
theorem dX7_hive_23 : decode cX7_hive 23 = .ok (.aload_n 0, 1) := by decide +kernel
theorem dX7_hive_24 : decode cX7_hive 24 = .ok (.getfield 26, 3) := by decide +kernel
theorem dX7_hive_27 : decode cX7_hive 27 = .ok (.getfield 122, 3) := by decide +kernel
theorem dX7_hive_30 : decode cX7_hive 30 = .ok (.if_icmp .gt 12, 3) := by decide +kernel
theorem dX7_hive_33 : decode cX7_hive 33 = .ok (.iload_n 3, 1) := by decide +kernel
theorem dX7_hive_34 : decode cX7_hive 34 = .ok (.ifCond .lt 8, 3) := by decide +kernel
theorem dX7_hive_37 : decode cX7_hive 37 = .ok (.iload_n 3, 1) := by decide +kernel
theorem dX7_hive_38 : decode cX7_hive 38 = .ok (.iconst 4, 1) := by decide +kernel
theorem dX7_hive_39 : decode cX7_hive 39 = .ok (.if_icmp .le 6, 3) := by decide +kernel
theorem dX7_hive_42 : decode cX7_hive 42 = .ok (.bipush (-102), 2) := by decide +kernel
theorem dX7_hive_44 : decode cX7_hive 44 = .ok (.ireturn, 1) := by decide +kernel
theorem dX7_hive_45 : decode cX7_hive 45 = .ok (.aload_n 0, 1) := by decide +kernel
theorem dX7_hive_46 : decode cX7_hive 46 = .ok (.aload 4, 2) := by decide +kernel
theorem dX7_hive_48 : decode cX7_hive 48 = .ok (.iload_n 1, 1) := by decide +kernel
theorem dX7_hive_49 : decode cX7_hive 49 = .ok (.iload_n 2, 1) := by decide +kernel
theorem dX7_hive_50 : decode cX7_hive 50 = .ok (.iload_n 3, 1) := by decide +kernel
theorem dX7_hive_51 : decode cX7_hive 51 = .ok (.invokevirtual 180, 3) := by decide +kernel
theorem dX7_hive_54 : decode cX7_hive 54 = .ok (.ireturn, 1) := by decide +kernel
set_option maxRecDepth 20000 in
theorem ggX7_terms_X4_isMissing : GoodIn wsX7_terms wsX4_isMissing := goodIn_r _ [7, 8, 88, 89, 90, 91, 92] rfl (by decide +kernel)
set_option maxRecDepth 20000 in
theorem gX7_terms_X4_isMissing : GoodIn wsX7_terms (wsV RX7 99 RX4 yX4_isMissing wsX4_isMissing) := goodIn_app (goodIn_r _ [3, 4, 5, 6] rfl (by decide +kernel)) ggX7_terms_X4_isMissing
set_option maxRecDepth 20000 in
theorem ggX7_terms_X7_freshProducts : GoodIn wsX7_terms wsX7_freshProducts := goodIn_r _ [13, 14, 15, 1, 16, 17, 18, 19, 20, 21, 22, 23, 24, 25, 26, 27, 28, 29, 30, 31, 32, 33, 34, 35, 36, 37, 6, 38, 39, 40, 4, 5, 7, 8, 41, 42, 43, 44, 45, 46, 47, 48, 49, 50, 51, 52, 53, 54, 55, 56, 57, 58, 59, 60, 61, 62, 63, 64, 65, 66, 67, 68, 69, 70, 71, 72, 73, 74, 75, 76, 77, 78, 79, 80, 81, 82, 83, 84, 85, 86, 87, 88, 89, 90, 91, 92] rfl (by decide +kernel)
set_option maxRecDepth 20000 in
theorem gX7_terms_X7_freshProducts : GoodIn wsX7_terms (wsV RX7 184 RX7 yX7_freshProducts wsX7_freshProducts) := goodIn_app (goodIn_r _ [9, 10, 11, 12] rfl (by decide +kernel)) ggX7_terms_X7_freshProducts
theorem dX7_terms_0 : decode cX7_terms 0 = .ok (.aload_n 0, 1) := by decide +kernel
theorem dX7_terms_1 : decode cX7_terms 1 = .ok (.getfield 26, 3) := by decide +kernel
theorem dX7_terms_4 : decode cX7_terms 4 = .ok (.invokevirtual 99, 3) := by decide +kernel
theorem dX7_terms_7 : decode cX7_terms 7 = .ok (.ifCond .eq 6, 3) := by decide +kernel
theorem dX7_terms_10 : decode cX7_terms 10 = .ok (.bipush (-103), 2) := by decide +kernel
theorem dX7_terms_12 : decode cX7_terms 12 = .ok (.ireturn, 1) := by decide +kernel
theorem dX7_terms_13 : decode cX7_terms 13 = .ok (.aload_n 0, 1) := by decide +kernel
theorem dX7_terms_14 : decode cX7_terms 14 = .ok (.invokevirtual 184, 3) := by decide +kernel
theorem dX7_terms_17 : decode cX7_terms 17 = .ok (.getfield 188, 3) := by decide +kernel
theorem dX7_terms_20 : decode cX7_terms 20 = .ok (.ireturn, 1) := by decide +kernel
set_option maxRecDepth 20000 in
theorem ggX7_term_X7_freshProducts : GoodIn wsX7_term wsX7_freshProducts := goodIn_r _ [5, 6, 7, 8, 9, 10, 11, 12, 13, 14, 15, 16, 17, 18, 19, 20, 21, 22, 23, 24, 25, 26, 27, 28, 29, 30, 31, 32, 33, 34, 35, 36, 37, 38, 39, 40, 41, 42, 43, 44, 45, 46, 47, 48, 49, 50, 51, 52, 53, 54, 55, 56, 57, 58, 59, 60, 61, 62, 63, 72, 73, 74, 75, 76, 77, 78, 79, 80, 81, 82, 83, 84, 85, 86, 87, 88, 89, 90, 91, 92, 93, 94, 95, 96, 97, 98] rfl (by decide +kernel)
set_option maxRecDepth 20000 in
theorem gX7_term_X7_freshProducts : GoodIn wsX7_term (wsV RX7 184 RX7 yX7_freshProducts wsX7_freshProducts) := goodIn_app (goodIn_r _ [1, 2, 3, 4] rfl (by decide +kernel)) ggX7_term_X7_freshProducts
set_option maxRecDepth 20000 in
theorem ggX7_term_X5_hasTerm : GoodIn wsX7_term wsX5_hasTerm := goodIn_r _ [67, 14, 85, 86, 87, 88, 89, 90, 91, 92, 93] rfl (by decide +kernel)
set_option maxRecDepth 20000 in
theorem gX7_term_X5_hasTerm : GoodIn wsX7_term (wsV RX7 189 RX5 yX5_hasTerm wsX5_hasTerm) := goodIn_app (goodIn_r _ [64, 65, 66, 12] rfl (by decide +kernel)) ggX7_term_X5_hasTerm
set_option maxRecDepth 20000 in
theorem ggX7_term_X5_propertyOf : GoodIn wsX7_term wsX5_propertyOf := goodIn_r _ [71, 63, 26, 16, 17, 85, 86, 87, 88, 89, 90, 91, 92, 93] rfl (by decide +kernel)
set_option maxRecDepth 20000 in
theorem gX7_term_X5_propertyOf : GoodIn wsX7_term (wsV RX7 192 RX5 yX5_propertyOf wsX5_propertyOf) := goodIn_app (goodIn_r _ [68, 69, 70, 12] rfl (by decide +kernel)) ggX7_term_X5_propertyOf
theorem dX7_term_0 : decode cX7_term 0 = .ok (.aload_n 0, 1) := by decide +kernel
theorem dX7_term_1 : decode cX7_term 1 = .ok (.invokevirtual 184, 3) := by decide +kernel
theorem dX7_term_4 : decode cX7_term 4 = .ok (.astore_n 3, 1) := by decide +kernel
theorem dX7_term_5 : decode cX7_term 5 = .ok (.aload_n 3, 1) := by decide +kernel
theorem dX7_term_6 : decode cX7_term 6 = .ok (.iload_n 1, 1) := by decide +kernel
theorem dX7_term_7 : decode cX7_term 7 = .ok (.invokevirtual 189, 3) := by decide +kernel
theorem dX7_term_10 : decode cX7_term 10 = .ok (.ifCond .ne 6, 3) := by decide +kernel
theorem dX7_term_13 : decode cX7_term 13 = .ok (.bipush (-101), 2) := by decide +kernel
theorem dX7_term_15 : decode cX7_term 15 = .ok (.ireturn, 1) := by decide +kernel
theorem dX7_term_16 : decode cX7_term 16 = .ok (.iload_n 2, 1) := by decide +kernel
theorem dX7_term_17 : decode cX7_term 17 = .ok (.ifCond .lt 8, 3) := by decide +kernel
theorem dX7_term_20 : decode cX7_term 20 = .ok (.iload_n 2, 1) := by decide +kernel
theorem dX7_term_21 : decode cX7_term 21 = .ok (.iconst 4, 1) := by decide +kernel
theorem dX7_term_22 : decode cX7_term 22 = .ok (.if_icmp .le 6, 3) := by decide +kernel
theorem dX7_term_25 : decode cX7_term 25 = .ok (.bipush (-102), 2) := by decide +kernel
theorem dX7_term_27 : decode cX7_term 27 = .ok (.ireturn, 1) := by decide +kernel
theorem dX7_term_28 : decode cX7_term 28 = .ok (.aload_n 3, 1) := by decide +kernel
theorem dX7_term_29 : decode cX7_term 29 = .ok (.iload_n 1, 1) := by decide +kernel
theorem dX7_term_30 : decode cX7_term 30 = .ok (.iload_n 2, 1) := by decide +kernel
theorem dX7_term_31 : decode cX7_term 31 = .ok (.invokevirtual 192, 3) := by decide +kernel
theorem dX7_term_34 : decode cX7_term 34 = .ok (.ireturn, 1) := by decide +kernel
set_option maxRecDepth 20000 in
theorem ggX7_see_X4_isMissing : GoodIn wsX7_see wsX4_isMissing := goodIn_r _ [9, 10, 33, 34, 35, 36, 37] rfl (by decide +kernel)
set_option maxRecDepth 20000 in
theorem gX7_see_X4_isMissing : GoodIn wsX7_see (wsV RX7 99 RX4 yX4_isMissing wsX4_isMissing) := goodIn_app (goodIn_r _ [5, 6, 7, 8] rfl (by decide +kernel)) ggX7_see_X4_isMissing
set_option maxRecDepth 20000 in
theorem ggX7_see_X2_add : GoodIn wsX7_see wsX2_add := goodIn_r _ [15, 16, 17, 31, 32] rfl (by decide +kernel)
set_option maxRecDepth 20000 in
theorem gX7_see_X2_add : GoodIn wsX7_see (wsV RX7 199 RX2 yX2_add wsX2_add) := goodIn_app (goodIn_r _ [11, 12, 13, 14] rfl (by decide +kernel)) ggX7_see_X2_add
theorem dX7_see_0 : decode cX7_see 0 = .ok (.iload_n 1, 1) := by decide +kernel
theorem dX7_see_1 : decode cX7_see 1 = .ok (.ifCond .lt 11, 3) := by decide +kernel
theorem dX7_see_4 : decode cX7_see 4 = .ok (.iload_n 1, 1) := by decide +kernel
theorem dX7_see_5 : decode cX7_see 5 = .ok (.getstatic 195, 3) := by decide +kernel
theorem dX7_see_8 : decode cX7_see 8 = .ok (.arraylength, 1) := by decide +kernel
theorem dX7_see_9 : decode cX7_see 9 = .ok (.if_icmp .lt 6, 3) := by decide +kernel
theorem dX7_see_12 : decode cX7_see 12 = .ok (.bipush (-102), 2) := by decide +kernel
theorem dX7_see_14 : decode cX7_see 14 = .ok (.ireturn, 1) := by decide +kernel
theorem dX7_see_15 : decode cX7_see 15 = .ok (.aload_n 0, 1) := by decide +kernel
theorem dX7_see_16 : decode cX7_see 16 = .ok (.getfield 26, 3) := by decide +kernel
theorem dX7_see_19 : decode cX7_see 19 = .ok (.invokevirtual 99, 3) := by decide +kernel
theorem dX7_see_22 : decode cX7_see 22 = .ok (.ifCond .eq 6, 3) := by decide +kernel
theorem dX7_see_25 : decode cX7_see 25 = .ok (.bipush (-103), 2) := by decide +kernel
theorem dX7_see_27 : decode cX7_see 27 = .ok (.ireturn, 1) := by decide +kernel
theorem dX7_see_28 : decode cX7_see 28 = .ok (.aload_n 0, 1) := by decide +kernel
theorem dX7_see_29 : decode cX7_see 29 = .ok (.getfield 36, 3) := by decide +kernel
theorem dX7_see_32 : decode cX7_see 32 = .ok (.getfield 198, 3) := by decide +kernel
theorem dX7_see_35 : decode cX7_see 35 = .ok (.bipush 6, 2) := by decide +kernel
theorem dX7_see_37 : decode cX7_see 37 = .ok (.if_icmp .lt 6, 3) := by decide +kernel
theorem dX7_see_40 : decode cX7_see 40 = .ok (.bipush (-104), 2) := by decide +kernel
theorem dX7_see_42 : decode cX7_see 42 = .ok (.ireturn, 1) := by decide +kernel
theorem dX7_see_43 : decode cX7_see 43 = .ok (.aload_n 0, 1) := by decide +kernel
theorem dX7_see_44 : decode cX7_see 44 = .ok (.getfield 36, 3) := by decide +kernel
theorem dX7_see_47 : decode cX7_see 47 = .ok (.iload_n 1, 1) := by decide +kernel
theorem dX7_see_48 : decode cX7_see 48 = .ok (.iload_n 2, 1) := by decide +kernel
theorem dX7_see_49 : decode cX7_see 49 = .ok (.invokevirtual 199, 3) := by decide +kernel
theorem dX7_see_52 : decode cX7_see 52 = .ok (.aload_n 0, 1) := by decide +kernel
theorem dX7_see_53 : decode cX7_see 53 = .ok (.getfield 36, 3) := by decide +kernel
theorem dX7_see_56 : decode cX7_see 56 = .ok (.getfield 198, 3) := by decide +kernel
theorem dX7_see_59 : decode cX7_see 59 = .ok (.ireturn, 1) := by decide +kernel
set_option maxRecDepth 20000 in
theorem ggX7_forget_X2_clear : GoodIn wsX7_forget wsX2_clear := goodIn_r _ [7, 8, 9, 23, 24] rfl (by decide +kernel)
set_option maxRecDepth 20000 in
theorem gX7_forget_X2_clear : GoodIn wsX7_forget (wsV RX7 91 RX2 yX2_clear wsX2_clear) := goodIn_app (goodIn_r _ [3, 4, 5, 6] rfl (by decide +kernel)) ggX7_forget_X2_clear
theorem dX7_forget_0 : decode cX7_forget 0 = .ok (.aload_n 0, 1) := by decide +kernel
theorem dX7_forget_1 : decode cX7_forget 1 = .ok (.getfield 36, 3) := by decide +kernel
theorem dX7_forget_4 : decode cX7_forget 4 = .ok (.getfield 198, 3) := by decide +kernel
theorem dX7_forget_7 : decode cX7_forget 7 = .ok (.istore_n 1, 1) := by decide +kernel
theorem dX7_forget_8 : decode cX7_forget 8 = .ok (.aload_n 0, 1) := by decide +kernel
theorem dX7_forget_9 : decode cX7_forget 9 = .ok (.getfield 36, 3) := by decide +kernel
theorem dX7_forget_12 : decode cX7_forget 12 = .ok (.invokevirtual 91, 3) := by decide +kernel
theorem dX7_forget_15 : decode cX7_forget 15 = .ok (.iload_n 1, 1) := by decide +kernel
theorem dX7_forget_16 : decode cX7_forget 16 = .ok (.ireturn, 1) := by decide +kernel
set_option maxRecDepth 20000 in
theorem ggX7_sorts_X2_bestQuestion : GoodIn wsX7_sorts wsX2_bestQuestion := goodIn_r _ [7, 8, 9, 10, 11, 6, 12, 13, 14, 15, 16, 17, 18, 19, 20, 21, 22, 23, 37, 38] rfl (by decide +kernel)
set_option maxRecDepth 20000 in
theorem gX7_sorts_X2_bestQuestion : GoodIn wsX7_sorts (wsV RX7 206 RX2 yX2_bestQuestion wsX2_bestQuestion) := goodIn_app (goodIn_r _ [3, 4, 5, 6] rfl (by decide +kernel)) ggX7_sorts_X2_bestQuestion
theorem dX7_sorts_0 : decode cX7_sorts 0 = .ok (.iload_n 1, 1) := by decide +kernel
theorem dX7_sorts_1 : decode cX7_sorts 1 = .ok (.ifCond .lt 8, 3) := by decide +kernel
theorem dX7_sorts_4 : decode cX7_sorts 4 = .ok (.iload_n 1, 1) := by decide +kernel
theorem dX7_sorts_5 : decode cX7_sorts 5 = .ok (.iconst 1, 1) := by decide +kernel
theorem dX7_sorts_6 : decode cX7_sorts 6 = .ok (.if_icmp .le 6, 3) := by decide +kernel
theorem dX7_sorts_9 : decode cX7_sorts 9 = .ok (.bipush (-102), 2) := by decide +kernel
theorem dX7_sorts_11 : decode cX7_sorts 11 = .ok (.ireturn, 1) := by decide +kernel
theorem dX7_sorts_12 : decode cX7_sorts 12 = .ok (.iload_n 1, 1) := by decide +kernel
theorem dX7_sorts_13 : decode cX7_sorts 13 = .ok (.ifCond .ne 13, 3) := by decide +kernel
theorem dX7_sorts_16 : decode cX7_sorts 16 = .ok (.aload_n 0, 1) := by decide +kernel
theorem dX7_sorts_17 : decode cX7_sorts 17 = .ok (.getfield 36, 3) := by decide +kernel
theorem dX7_sorts_20 : decode cX7_sorts 20 = .ok (.getfield 203, 3) := by decide +kernel
theorem dX7_sorts_23 : decode cX7_sorts 23 = .ok (.goto 10, 3) := by decide +kernel
theorem dX7_sorts_26 : decode cX7_sorts 26 = .ok (.aload_n 0, 1) := by decide +kernel
theorem dX7_sorts_27 : decode cX7_sorts 27 = .ok (.getfield 36, 3) := by decide +kernel
theorem dX7_sorts_30 : decode cX7_sorts 30 = .ok (.invokevirtual 206, 3) := by decide +kernel
theorem dX7_sorts_33 : decode cX7_sorts 33 = .ok (.ireturn, 1) := by decide +kernel
set_option maxRecDepth 20000 in
theorem ggX7_drawn_X4_isMissing : GoodIn wsX7_drawn wsX4_isMissing := goodIn_r _ [6, 7, 122, 123, 124, 125, 126] rfl (by decide +kernel)
set_option maxRecDepth 20000 in
theorem gX7_drawn_X4_isMissing : GoodIn wsX7_drawn (wsV RX7 99 RX4 yX4_isMissing wsX4_isMissing) := goodIn_app (goodIn_r _ [2, 3, 4, 5] rfl (by decide +kernel)) ggX7_drawn_X4_isMissing
set_option maxRecDepth 20000 in
theorem ggX7_drawn_X7_freshFillings : GoodIn wsX7_drawn wsX7_freshFillings := goodIn_r _ [12, 13, 14, 1, 15, 16, 17, 18, 19, 20, 21, 22, 23, 24, 25, 26, 27, 28, 29, 30, 31, 32, 33, 34, 35, 36, 37, 38, 39, 40, 41, 42, 43, 44, 45, 46, 47, 48, 49, 50, 51, 52, 53, 3, 4, 5, 6, 7, 54, 55, 56, 57, 58, 59, 60, 61, 62, 63, 64, 65, 66, 67, 68, 69, 70, 71, 72, 73, 74, 75, 76, 77, 78, 79, 80, 81, 82, 83, 84, 85, 86, 87, 88, 109, 110, 111, 112, 113, 114, 115, 116, 117, 118, 119, 120, 121, 127, 128, 129, 130, 131, 132, 122, 123, 124, 125, 126, 133, 134, 135, 136, 137, 138] rfl (by decide +kernel)
set_option maxRecDepth 20000 in
theorem gX7_drawn_X7_freshFillings : GoodIn wsX7_drawn (wsV RX7 108 RX7 yX7_freshFillings wsX7_freshFillings) := goodIn_app (goodIn_r _ [8, 9, 10, 11] rfl (by decide +kernel)) ggX7_drawn_X7_freshFillings
set_option maxRecDepth 20000 in
theorem ggX7_drawn_X0_drawNumbers : GoodIn wsX7_drawn wsX0_drawNumbers := goodIn_r _ [92, 23, 30, 93, 94, 95, 63, 96, 127, 128, 129, 130, 131, 132, 133, 134, 135, 136, 137, 138] rfl (by decide +kernel)
set_option maxRecDepth 20000 in
theorem gX7_drawn_X0_drawNumbers : GoodIn wsX7_drawn (wsV RX7 209 RX0 yX0_drawNumbers wsX0_drawNumbers) := goodIn_app (goodIn_r _ [89, 90, 91, 18] rfl (by decide +kernel)) ggX7_drawn_X0_drawNumbers
set_option maxRecDepth 20000 in
theorem ggX7_drawn_X0_satisfiesRule : GoodIn wsX7_drawn wsX0_satisfiesRule := goodIn_r _ [100, 23, 30, 69, 70, 71, 18, 72, 63, 73, 74, 22, 75, 76, 77, 78, 79, 80, 81, 82, 83, 84, 85, 127, 128, 129, 130, 131, 132, 133, 134, 135, 136, 137, 138] rfl (by decide +kernel)
set_option maxRecDepth 20000 in
theorem gX7_drawn_X0_satisfiesRule : GoodIn wsX7_drawn (wsV RX7 213 RX0 yX0_satisfiesRule wsX0_satisfiesRule) := goodIn_app (goodIn_r _ [97, 98, 99, 18] rfl (by decide +kernel)) ggX7_drawn_X0_satisfiesRule
set_option maxRecDepth 20000 in
theorem ggX7_drawn_X0_hasContent : GoodIn wsX7_drawn wsX0_hasContent := goodIn_r _ [104, 24, 105, 106, 107, 18, 108, 23, 30, 63, 122, 123, 124, 125, 126, 127, 128, 129, 130, 131, 132, 133, 134, 135, 136, 137, 138] rfl (by decide +kernel)
set_option maxRecDepth 20000 in
theorem gX7_drawn_X0_hasContent : GoodIn wsX7_drawn (wsV RX7 216 RX0 yX0_hasContent wsX0_hasContent) := goodIn_app (goodIn_r _ [101, 102, 103, 18] rfl (by decide +kernel)) ggX7_drawn_X0_hasContent
theorem dX7_drawn_0 : decode cX7_drawn 0 = .ok (.iload_n 1, 1) := by decide +kernel
theorem dX7_drawn_1 : decode cX7_drawn 1 = .ok (.iconst 1, 1) := by decide +kernel
theorem dX7_drawn_2 : decode cX7_drawn 2 = .ok (.if_icmp .lt 22, 3) := by decide +kernel
theorem dX7_drawn_5 : decode cX7_drawn 5 = .ok (.iload_n 1, 1) := by decide +kernel
theorem dX7_drawn_6 : decode cX7_drawn 6 = .ok (.bipush 100, 2) := by decide +kernel
theorem dX7_drawn_8 : decode cX7_drawn 8 = .ok (.if_icmp .gt 16, 3) := by decide +kernel
theorem dX7_drawn_11 : decode cX7_drawn 11 = .ok (.iload_n 2, 1) := by decide +kernel
theorem dX7_drawn_12 : decode cX7_drawn 12 = .ok (.ifCond .lt 12, 3) := by decide +kernel
theorem dX7_drawn_15 : decode cX7_drawn 15 = .ok (.iload_n 3, 1) := by decide +kernel
theorem dX7_drawn_16 : decode cX7_drawn 16 = .ok (.ifCond .lt 8, 3) := by decide +kernel
theorem dX7_drawn_19 : decode cX7_drawn 19 = .ok (.iload_n 3, 1) := by decide +kernel
theorem dX7_drawn_20 : decode cX7_drawn 20 = .ok (.iconst 2, 1) := by decide +kernel
theorem dX7_drawn_21 : decode cX7_drawn 21 = .ok (.if_icmp .le 6, 3) := by decide +kernel
theorem dX7_drawn_24 : decode cX7_drawn 24 = .ok (.bipush (-102), 2) := by decide +kernel
theorem dX7_drawn_26 : decode cX7_drawn 26 = .ok (.ireturn, 1) := by decide +kernel
theorem dX7_drawn_27 : decode cX7_drawn 27 = .ok (.aload_n 0, 1) := by decide +kernel
theorem dX7_drawn_28 : decode cX7_drawn 28 = .ok (.getfield 26, 3) := by decide +kernel
theorem dX7_drawn_31 : decode cX7_drawn 31 = .ok (.invokevirtual 99, 3) := by decide +kernel
theorem dX7_drawn_34 : decode cX7_drawn 34 = .ok (.ifCond .eq 6, 3) := by decide +kernel
theorem dX7_drawn_37 : decode cX7_drawn 37 = .ok (.bipush (-103), 2) := by decide +kernel
theorem dX7_drawn_39 : decode cX7_drawn 39 = .ok (.ireturn, 1) := by decide +kernel
theorem dX7_drawn_40 : decode cX7_drawn 40 = .ok (.aload_n 0, 1) := by decide +kernel
theorem dX7_drawn_41 : decode cX7_drawn 41 = .ok (.invokevirtual 108, 3) := by decide +kernel
theorem dX7_drawn_44 : decode cX7_drawn 44 = .ok (.astore 4, 2) := by decide +kernel
theorem dX7_drawn_46 : decode cX7_drawn 46 = .ok (.iload_n 2, 1) := by decide +kernel
theorem dX7_drawn_47 : decode cX7_drawn 47 = .ok (.i2l, 1) := by decide +kernel
theorem dX7_drawn_48 : decode cX7_drawn 48 = .ok (.lstore 5, 2) := by decide +kernel
theorem dX7_drawn_50 : decode cX7_drawn 50 = .ok (.iconst 0, 1) := by decide +kernel
theorem dX7_drawn_51 : decode cX7_drawn 51 = .ok (.istore 7, 2) := by decide +kernel
theorem dX7_drawn_53 : decode cX7_drawn 53 = .ok (.iconst 0, 1) := by decide +kernel
theorem dX7_drawn_54 : decode cX7_drawn 54 = .ok (.istore 8, 2) := by decide +kernel
theorem dX7_drawn_56 : decode cX7_drawn 56 = .ok (.iconst 0, 1) := by decide +kernel
theorem dX7_drawn_57 : decode cX7_drawn 57 = .ok (.istore 9, 2) := by decide +kernel
theorem dX7_drawn_59 : decode cX7_drawn 59 = .ok (.iload 9, 2) := by decide +kernel
theorem dX7_drawn_61 : decode cX7_drawn 61 = .ok (.iload_n 1, 1) := by decide +kernel
theorem dX7_drawn_62 : decode cX7_drawn 62 = .ok (.if_icmp .ge 51, 3) := by decide +kernel
theorem dX7_drawn_65 : decode cX7_drawn 65 = .ok (.aload 4, 2) := by decide +kernel
theorem dX7_drawn_67 : decode cX7_drawn 67 = .ok (.lload 5, 2) := by decide +kernel
theorem dX7_drawn_69 : decode cX7_drawn 69 = .ok (.invokevirtual 209, 3) := by decide +kernel
theorem dX7_drawn_72 : decode cX7_drawn 72 = .ok (.lstore 5, 2) := by decide +kernel
theorem dX7_drawn_74 : decode cX7_drawn 74 = .ok (.aload 4, 2) := by decide +kernel
theorem dX7_drawn_76 : decode cX7_drawn 76 = .ok (.invokevirtual 213, 3) := by decide +kernel
theorem dX7_drawn_79 : decode cX7_drawn 79 = .ok (.ifCond .eq 28, 3) := by decide +kernel
theorem dX7_drawn_82 : decode cX7_drawn 82 = .ok (.iinc 7 1, 3) := by decide +kernel
theorem dX7_drawn_85 : decode cX7_drawn 85 = .ok (.iload 8, 2) := by decide +kernel
theorem dX7_drawn_87 : decode cX7_drawn 87 = .ok (.aload 4, 2) := by decide +kernel
theorem dX7_drawn_89 : decode cX7_drawn 89 = .ok (.aload_n 0, 1) := by decide +kernel
theorem dX7_drawn_90 : decode cX7_drawn 90 = .ok (.getfield 26, 3) := by decide +kernel
theorem dX7_drawn_93 : decode cX7_drawn 93 = .ok (.invokevirtual 216, 3) := by decide +kernel
theorem dX7_drawn_96 : decode cX7_drawn 96 = .ok (.ifCond .eq 7, 3) := by decide +kernel
theorem dX7_drawn_99 : decode cX7_drawn 99 = .ok (.iconst 1, 1) := by decide +kernel
theorem dX7_drawn_100 : decode cX7_drawn 100 = .ok (.goto 4, 3) := by decide +kernel
theorem dX7_drawn_103 : decode cX7_drawn 103 = .ok (.iconst 0, 1) := by decide +kernel
theorem dX7_drawn_104 : decode cX7_drawn 104 = .ok (.iadd, 1) := by decide +kernel
theorem dX7_drawn_105 : decode cX7_drawn 105 = .ok (.istore 8, 2) := by decide +kernel
theorem dX7_drawn_107 : decode cX7_drawn 107 = .ok (.iinc 9 1, 3) := by decide +kernel
theorem dX7_drawn_110 : decode cX7_drawn 110 = .ok (.goto (-51), 3) := by decide +kernel
theorem dX7_drawn_113 : decode cX7_drawn 113 = .ok (.iload_n 3, 1) := by decide +kernel
theorem dX7_drawn_114 : decode cX7_drawn 114 = .ok (.iconst 2, 1) := by decide +kernel
theorem dX7_drawn_115 : decode cX7_drawn 115 = .ok (.if_icmp .ne 7, 3) := by decide +kernel
theorem dX7_drawn_118 : decode cX7_drawn 118 = .ok (.lload 5, 2) := by decide +kernel
theorem dX7_drawn_120 : decode cX7_drawn 120 = .ok (.l2i, 1) := by decide +kernel
theorem dX7_drawn_121 : decode cX7_drawn 121 = .ok (.ireturn, 1) := by decide +kernel
theorem dX7_drawn_122 : decode cX7_drawn 122 = .ok (.iload_n 3, 1) := by decide +kernel
theorem dX7_drawn_123 : decode cX7_drawn 123 = .ok (.ifCond .ne 8, 3) := by decide +kernel
theorem dX7_drawn_126 : decode cX7_drawn 126 = .ok (.iload 7, 2) := by decide +kernel
theorem dX7_drawn_128 : decode cX7_drawn 128 = .ok (.goto 5, 3) := by decide +kernel
theorem dX7_drawn_131 : decode cX7_drawn 131 = .ok (.iload 8, 2) := by decide +kernel
theorem dX7_drawn_133 : decode cX7_drawn 133 = .ok (.ireturn, 1) := by decide +kernel
set_option maxRecDepth 20000 in
theorem ggX7_image_X4_isMissing : GoodIn wsX7_image wsX4_isMissing := goodIn_r _ [10, 11, 48, 49, 50, 51, 52] rfl (by decide +kernel)
set_option maxRecDepth 20000 in
theorem gX7_image_X4_isMissing : GoodIn wsX7_image (wsV RX7 99 RX4 yX4_isMissing wsX4_isMissing) := goodIn_app (goodIn_r _ [6, 7, 8, 9] rfl (by decide +kernel)) ggX7_image_X4_isMissing
set_option maxRecDepth 20000 in
theorem ggX7_image_X4_takeOver : GoodIn wsX7_image wsX4_takeOver := goodIn_r _ [15, 16, 11, 17, 18, 19, 20, 21, 22, 23, 48, 49, 50, 51, 52] rfl (by decide +kernel)
set_option maxRecDepth 20000 in
theorem gX7_image_X4_takeOver : GoodIn wsX7_image (wsV RX7 84 RX4 yX4_takeOver wsX4_takeOver) := goodIn_app (goodIn_r _ [12, 13, 14, 9] rfl (by decide +kernel)) ggX7_image_X4_takeOver
set_option maxRecDepth 20000 in
theorem ggX7_image_X2_takeOver : GoodIn wsX7_image wsX2_takeOver := goodIn_r _ [28, 29, 30, 53, 54] rfl (by decide +kernel)
set_option maxRecDepth 20000 in
theorem gX7_image_X2_takeOver : GoodIn wsX7_image (wsV RX7 220 RX2 yX2_takeOver wsX2_takeOver) := goodIn_app (goodIn_r _ [24, 25, 26, 27] rfl (by decide +kernel)) ggX7_image_X2_takeOver
set_option maxRecDepth 20000 in
theorem ggX7_image_X4_boxCount : GoodIn wsX7_image wsX4_boxCount := goodIn_r _ [34, 11, 17, 22, 48, 49, 50, 51, 52] rfl (by decide +kernel)
set_option maxRecDepth 20000 in
theorem gX7_image_X4_boxCount : GoodIn wsX7_image (wsV RX7 80 RX4 yX4_boxCount wsX4_boxCount) := goodIn_app (goodIn_r _ [31, 32, 33, 9] rfl (by decide +kernel)) ggX7_image_X4_boxCount
theorem dX7_image_0 : decode cX7_image 0 = .ok (.aload_n 0, 1) := by decide +kernel
theorem dX7_image_1 : decode cX7_image 1 = .ok (.getfield 26, 3) := by decide +kernel
theorem dX7_image_4 : decode cX7_image 4 = .ok (.invokevirtual 99, 3) := by decide +kernel
theorem dX7_image_7 : decode cX7_image 7 = .ok (.ifCond .eq 6, 3) := by decide +kernel
theorem dX7_image_10 : decode cX7_image 10 = .ok (.bipush (-103), 2) := by decide +kernel
theorem dX7_image_12 : decode cX7_image 12 = .ok (.ireturn, 1) := by decide +kernel
theorem dX7_image_13 : decode cX7_image 13 = .ok (.aload_n 0, 1) := by decide +kernel
theorem dX7_image_14 : decode cX7_image 14 = .ok (.getfield 40, 3) := by decide +kernel
theorem dX7_image_17 : decode cX7_image 17 = .ok (.aload_n 0, 1) := by decide +kernel
theorem dX7_image_18 : decode cX7_image 18 = .ok (.getfield 26, 3) := by decide +kernel
theorem dX7_image_21 : decode cX7_image 21 = .ok (.invokevirtual 84, 3) := by decide +kernel
theorem dX7_image_24 : decode cX7_image 24 = .ok (.aload_n 0, 1) := by decide +kernel
theorem dX7_image_25 : decode cX7_image 25 = .ok (.getfield 43, 3) := by decide +kernel
theorem dX7_image_28 : decode cX7_image 28 = .ok (.aload_n 0, 1) := by decide +kernel
theorem dX7_image_29 : decode cX7_image 29 = .ok (.getfield 36, 3) := by decide +kernel
theorem dX7_image_32 : decode cX7_image 32 = .ok (.invokevirtual 220, 3) := by decide +kernel
theorem dX7_image_35 : decode cX7_image 35 = .ok (.aload_n 0, 1) := by decide +kernel
theorem dX7_image_36 : decode cX7_image 36 = .ok (.iconst 1, 1) := by decide +kernel
theorem dX7_image_37 : decode cX7_image 37 = .ok (.putfield 92, 3) := by decide +kernel
theorem dX7_image_40 : decode cX7_image 40 = .ok (.aload_n 0, 1) := by decide +kernel
theorem dX7_image_41 : decode cX7_image 41 = .ok (.getfield 26, 3) := by decide +kernel
theorem dX7_image_44 : decode cX7_image 44 = .ok (.invokevirtual 80, 3) := by decide +kernel
theorem dX7_image_47 : decode cX7_image 47 = .ok (.ireturn, 1) := by decide +kernel
set_option maxRecDepth 20000 in
theorem ggX7_restore_X4_takeOver : GoodIn wsX7_restore wsX4_takeOver := goodIn_r _ [10, 11, 12, 13, 14, 15, 16, 17, 18, 19, 51, 52, 53, 54, 55] rfl (by decide +kernel)
set_option maxRecDepth 20000 in
theorem gX7_restore_X4_takeOver : GoodIn wsX7_restore (wsV RX7 84 RX4 yX4_takeOver wsX4_takeOver) := goodIn_app (goodIn_r _ [6, 7, 8, 9] rfl (by decide +kernel)) ggX7_restore_X4_takeOver
set_option maxRecDepth 20000 in
theorem ggX7_restore_X7_planChanged : GoodIn wsX7_restore wsX7_planChanged := goodIn_r _ [24, 25, 26, 38, 39, 40, 41, 42, 43, 44, 45, 46, 47, 48, 49, 50] rfl (by decide +kernel)
set_option maxRecDepth 20000 in
theorem gX7_restore_X7_planChanged : GoodIn wsX7_restore (wsV RX7 88 RX7 yX7_planChanged wsX7_planChanged) := goodIn_app (goodIn_r _ [20, 21, 22, 23] rfl (by decide +kernel)) ggX7_restore_X7_planChanged
set_option maxRecDepth 20000 in
theorem ggX7_restore_X2_takeOver : GoodIn wsX7_restore wsX2_takeOver := goodIn_r _ [31, 32, 33, 56, 57] rfl (by decide +kernel)
set_option maxRecDepth 20000 in
theorem gX7_restore_X2_takeOver : GoodIn wsX7_restore (wsV RX7 220 RX2 yX2_takeOver wsX2_takeOver) := goodIn_app (goodIn_r _ [27, 28, 29, 30] rfl (by decide +kernel)) ggX7_restore_X2_takeOver
set_option maxRecDepth 20000 in
theorem ggX7_restore_X4_boxCount : GoodIn wsX7_restore wsX4_boxCount := goodIn_r _ [37, 12, 13, 18, 51, 52, 53, 54, 55] rfl (by decide +kernel)
set_option maxRecDepth 20000 in
theorem gX7_restore_X4_boxCount : GoodIn wsX7_restore (wsV RX7 80 RX4 yX4_boxCount wsX4_boxCount) := goodIn_app (goodIn_r _ [34, 35, 36, 9] rfl (by decide +kernel)) ggX7_restore_X4_boxCount
theorem dX7_restore_0 : decode cX7_restore 0 = .ok (.aload_n 0, 1) := by decide +kernel
theorem dX7_restore_1 : decode cX7_restore 1 = .ok (.getfield 92, 3) := by decide +kernel
theorem dX7_restore_4 : decode cX7_restore 4 = .ok (.ifCond .ne 6, 3) := by decide +kernel
theorem dX7_restore_7 : decode cX7_restore 7 = .ok (.bipush (-103), 2) := by decide +kernel
theorem dX7_restore_9 : decode cX7_restore 9 = .ok (.ireturn, 1) := by decide +kernel
theorem dX7_restore_10 : decode cX7_restore 10 = .ok (.aload_n 0, 1) := by decide +kernel
theorem dX7_restore_11 : decode cX7_restore 11 = .ok (.getfield 26, 3) := by decide +kernel
theorem dX7_restore_14 : decode cX7_restore 14 = .ok (.aload_n 0, 1) := by decide +kernel
theorem dX7_restore_15 : decode cX7_restore 15 = .ok (.getfield 40, 3) := by decide +kernel
theorem dX7_restore_18 : decode cX7_restore 18 = .ok (.invokevirtual 84, 3) := by decide +kernel
theorem dX7_restore_21 : decode cX7_restore 21 = .ok (.aload_n 0, 1) := by decide +kernel
theorem dX7_restore_22 : decode cX7_restore 22 = .ok (.invokevirtual 88, 3) := by decide +kernel
theorem dX7_restore_25 : decode cX7_restore 25 = .ok (.aload_n 0, 1) := by decide +kernel
theorem dX7_restore_26 : decode cX7_restore 26 = .ok (.getfield 36, 3) := by decide +kernel
theorem dX7_restore_29 : decode cX7_restore 29 = .ok (.aload_n 0, 1) := by decide +kernel
theorem dX7_restore_30 : decode cX7_restore 30 = .ok (.getfield 43, 3) := by decide +kernel
theorem dX7_restore_33 : decode cX7_restore 33 = .ok (.invokevirtual 220, 3) := by decide +kernel
theorem dX7_restore_36 : decode cX7_restore 36 = .ok (.aload_n 0, 1) := by decide +kernel
theorem dX7_restore_37 : decode cX7_restore 37 = .ok (.getfield 26, 3) := by decide +kernel
theorem dX7_restore_40 : decode cX7_restore 40 = .ok (.invokevirtual 80, 3) := by decide +kernel
theorem dX7_restore_43 : decode cX7_restore 43 = .ok (.ireturn, 1) := by decide +kernel
set_option maxRecDepth 20000 in
theorem ggX7_count_X4_boxCount : GoodIn wsX7_count wsX4_boxCount := goodIn_r _ [15, 16, 17, 18, 165, 166, 167, 168, 169] rfl (by decide +kernel)
set_option maxRecDepth 20000 in
theorem gX7_count_X4_boxCount : GoodIn wsX7_count (wsV RX7 80 RX4 yX4_boxCount wsX4_boxCount) := goodIn_app (goodIn_r _ [11, 12, 13, 14] rfl (by decide +kernel)) ggX7_count_X4_boxCount
set_option maxRecDepth 20000 in
theorem ggX7_count_X7_freshFillings : GoodIn wsX7_count wsX7_freshFillings := goodIn_r _ [23, 24, 25, 1, 26, 27, 28, 29, 30, 31, 32, 33, 34, 35, 36, 37, 38, 39, 40, 41, 42, 43, 44, 45, 46, 47, 48, 49, 50, 51, 52, 53, 54, 55, 56, 57, 58, 59, 60, 61, 62, 63, 64, 65, 66, 14, 67, 16, 68, 69, 70, 71, 72, 73, 74, 75, 76, 77, 78, 79, 80, 81, 82, 83, 84, 85, 86, 87, 88, 89, 90, 91, 92, 93, 94, 95, 96, 97, 98, 99, 100, 101, 102, 152, 153, 154, 155, 156, 157, 158, 159, 160, 161, 162, 163, 164, 170, 171, 172, 173, 174, 175, 165, 166, 167, 168, 169, 189, 190, 191, 192, 193, 194] rfl (by decide +kernel)
set_option maxRecDepth 20000 in
theorem gX7_count_X7_freshFillings : GoodIn wsX7_count (wsV RX7 108 RX7 yX7_freshFillings wsX7_freshFillings) := goodIn_app (goodIn_r _ [19, 20, 21, 22] rfl (by decide +kernel)) ggX7_count_X7_freshFillings
set_option maxRecDepth 20000 in
theorem ggX7_count_X7_freshProducts : GoodIn wsX7_count wsX7_freshProducts := goodIn_r _ [106, 107, 108, 1, 109, 110, 111, 112, 113, 114, 115, 116, 117, 118, 119, 120, 121, 38, 39, 40, 122, 123, 124, 125, 69, 70, 14, 71, 72, 126, 65, 66, 67, 16, 127, 128, 129, 130, 131, 132, 133, 134, 135, 136, 137, 138, 139, 140, 141, 142, 143, 144, 145, 146, 147, 148, 149, 150, 151, 152, 153, 154, 155, 156, 157, 158, 159, 160, 161, 162, 163, 164, 176, 177, 178, 179, 180, 181, 182, 183, 184, 165, 166, 167, 168, 169] rfl (by decide +kernel)
set_option maxRecDepth 20000 in
theorem gX7_count_X7_freshProducts : GoodIn wsX7_count (wsV RX7 184 RX7 yX7_freshProducts wsX7_freshProducts) := goodIn_app (goodIn_r _ [103, 104, 105, 22] rfl (by decide +kernel)) ggX7_count_X7_freshProducts
theorem dX7_count_0 : decode cX7_count 0 = .ok (.iload_n 1, 1) := by decide +kernel
theorem dX7_count_1 : decode cX7_count 1 = .ok (.tableswitch 108 0 7 #[47, 55, 63, 71, 79, 87, 95, 103], 47) := by decide +kernel
theorem dX7_count_48 : decode cX7_count 48 = .ok (.aload_n 0, 1) := by decide +kernel
theorem dX7_count_49 : decode cX7_count 49 = .ok (.getfield 26, 3) := by decide +kernel
theorem dX7_count_52 : decode cX7_count 52 = .ok (.invokevirtual 80, 3) := by decide +kernel
theorem dX7_count_55 : decode cX7_count 55 = .ok (.ireturn, 1) := by decide +kernel
theorem dX7_count_56 : decode cX7_count 56 = .ok (.aload_n 0, 1) := by decide +kernel
theorem dX7_count_57 : decode cX7_count 57 = .ok (.getfield 26, 3) := by decide +kernel
theorem dX7_count_60 : decode cX7_count 60 = .ok (.getfield 122, 3) := by decide +kernel
theorem dX7_count_63 : decode cX7_count 63 = .ok (.ireturn, 1) := by decide +kernel
theorem dX7_count_64 : decode cX7_count 64 = .ok (.aload_n 0, 1) := by decide +kernel
theorem dX7_count_65 : decode cX7_count 65 = .ok (.invokevirtual 108, 3) := by decide +kernel
theorem dX7_count_68 : decode cX7_count 68 = .ok (.getfield 128, 3) := by decide +kernel
theorem dX7_count_71 : decode cX7_count 71 = .ok (.ireturn, 1) := by decide +kernel
theorem dX7_count_72 : decode cX7_count 72 = .ok (.aload_n 0, 1) := by decide +kernel
theorem dX7_count_73 : decode cX7_count 73 = .ok (.invokevirtual 184, 3) := by decide +kernel
theorem dX7_count_76 : decode cX7_count 76 = .ok (.getfield 188, 3) := by decide +kernel
theorem dX7_count_79 : decode cX7_count 79 = .ok (.ireturn, 1) := by decide +kernel
theorem dX7_count_80 : decode cX7_count 80 = .ok (.aload_n 0, 1) := by decide +kernel
theorem dX7_count_81 : decode cX7_count 81 = .ok (.invokevirtual 184, 3) := by decide +kernel
theorem dX7_count_84 : decode cX7_count 84 = .ok (.getfield 223, 3) := by decide +kernel
theorem dX7_count_87 : decode cX7_count 87 = .ok (.ireturn, 1) := by decide +kernel
theorem dX7_count_88 : decode cX7_count 88 = .ok (.aload_n 0, 1) := by decide +kernel
theorem dX7_count_89 : decode cX7_count 89 = .ok (.getfield 36, 3) := by decide +kernel
theorem dX7_count_92 : decode cX7_count 92 = .ok (.getfield 198, 3) := by decide +kernel
theorem dX7_count_95 : decode cX7_count 95 = .ok (.ireturn, 1) := by decide +kernel
theorem dX7_count_96 : decode cX7_count 96 = .ok (.aload_n 0, 1) := by decide +kernel
theorem dX7_count_97 : decode cX7_count 97 = .ok (.getfield 10, 3) := by decide +kernel
theorem dX7_count_100 : decode cX7_count 100 = .ok (.getfield 64, 3) := by decide +kernel
theorem dX7_count_103 : decode cX7_count 103 = .ok (.ireturn, 1) := by decide +kernel
theorem dX7_count_104 : decode cX7_count 104 = .ok (.aload_n 0, 1) := by decide +kernel
theorem dX7_count_105 : decode cX7_count 105 = .ok (.getfield 96, 3) := by decide +kernel
theorem dX7_count_108 : decode cX7_count 108 = .ok (.ireturn, 1) := by decide +kernel
theorem dX7_count_109 : decode cX7_count 109 = .ok (.bipush (-102), 2) := by decide +kernel
theorem dX7_count_111 : decode cX7_count 111 = .ok (.ireturn, 1) := by decide +kernel
set_option maxRecDepth 20000 in
theorem ggX7_digest_X4_isMissing : GoodIn wsX7_digest wsX4_isMissing := goodIn_r _ [10, 11, 296, 297, 298, 299, 300] rfl (by decide +kernel)
set_option maxRecDepth 20000 in
theorem gX7_digest_X4_isMissing : GoodIn wsX7_digest (wsV RX7 99 RX4 yX4_isMissing wsX4_isMissing) := goodIn_app (goodIn_r _ [6, 7, 8, 9] rfl (by decide +kernel)) ggX7_digest_X4_isMissing
set_option maxRecDepth 20000 in
theorem ggX7_digest_X7_about : GoodIn wsX7_digest wsX7_about := goodIn_r _ [16, 2, 17, 18, 19, 6, 7, 8, 9, 10, 11, 20, 21, 22, 23, 24, 25, 26, 27, 28, 29, 30, 31, 32, 33, 15, 34, 35, 36, 37, 38, 39, 40, 41, 42, 43, 44, 45, 46, 47, 48, 49, 50, 51, 52, 53, 54, 55, 56, 57, 58, 59, 60, 61, 62, 63, 64, 65, 66, 67, 68, 69, 70, 71, 72, 73, 74, 75, 76, 77, 78, 79, 80, 81, 82, 83, 84, 85, 86, 87, 88, 89, 90, 91, 92, 93, 94, 95, 96, 97, 98, 99, 100, 101, 102, 103, 104, 105, 106, 281, 282, 283, 284, 285, 286, 287, 288, 289, 290, 291, 292, 293, 296, 297, 298, 299, 300, 301, 302, 303, 304, 305, 306, 307, 308, 309, 310, 311, 312] rfl (by decide +kernel)
set_option maxRecDepth 20000 in
theorem gX7_digest_X7_about : GoodIn wsX7_digest (wsV RX7 228 RX7 yX7_about wsX7_about) := goodIn_app (goodIn_r _ [12, 13, 14, 15] rfl (by decide +kernel)) ggX7_digest_X7_about
set_option maxRecDepth 20000 in
theorem ggX7_digest_X7_mix : GoodIn wsX7_digest wsX7_mix := goodIn_r _ [109, 110] rfl (by decide +kernel)
set_option maxRecDepth 20000 in
theorem gX7_digest_X7_mix : GoodIn wsX7_digest (va_wsS RX7 231 yX7_mix wsX7_mix) := goodIn_app (goodIn_r _ [107, 108, 15] rfl (by decide +kernel)) ggX7_digest_X7_mix
set_option maxRecDepth 20000 in
theorem ggX7_digest_X4_signCount : GoodIn wsX7_digest wsX4_signCount := goodIn_r _ [114, 11, 296, 297, 298, 299, 300] rfl (by decide +kernel)
set_option maxRecDepth 20000 in
theorem gX7_digest_X4_signCount : GoodIn wsX7_digest (wsV RX7 235 RX4 yX4_signCount wsX4_signCount) := goodIn_app (goodIn_r _ [111, 112, 113, 9] rfl (by decide +kernel)) ggX7_digest_X4_signCount
set_option maxRecDepth 20000 in
theorem ggX7_digest_X7_text : GoodIn wsX7_digest wsX7_text := goodIn_r _ [118, 2, 119, 120, 121, 9, 122, 11, 123, 24, 25, 30, 124, 112, 113, 114, 125, 126, 127, 128, 129, 130, 131, 132, 133, 134, 135, 136, 137, 138, 139, 140, 141, 142, 143, 144, 145, 146, 147, 148, 149, 150, 151, 152, 153, 154, 155, 156, 157, 158, 159, 160, 161, 162, 163, 164, 165, 281, 282, 283, 284, 285, 286, 287, 288, 289, 290, 291, 292, 293, 296, 297, 298, 299, 300] rfl (by decide +kernel)
set_option maxRecDepth 20000 in
theorem gX7_digest_X7_text : GoodIn wsX7_digest (wsV RX7 238 RX7 yX7_text wsX7_text) := goodIn_app (goodIn_r _ [115, 116, 117, 15] rfl (by decide +kernel)) ggX7_digest_X7_text
set_option maxRecDepth 20000 in
theorem ggX7_digest_X7_digestFillings : GoodIn wsX7_digest wsX7_digestFillings := goodIn_r _ [169, 19, 170, 171, 2, 18, 31, 32, 33, 15, 34, 35, 36, 37, 38, 39, 40, 41, 42, 43, 44, 45, 46, 47, 48, 49, 50, 51, 52, 53, 54, 55, 56, 57, 58, 59, 60, 61, 62, 63, 64, 65, 66, 67, 68, 69, 70, 71, 72, 73, 74, 75, 7, 8, 9, 10, 11, 76, 27, 28, 29, 30, 77, 78, 79, 80, 81, 82, 83, 84, 85, 86, 87, 88, 89, 90, 91, 92, 93, 94, 95, 96, 97, 98, 99, 100, 101, 102, 103, 104, 105, 106, 172, 173, 174, 175, 107, 108, 109, 110, 176, 177, 178, 179, 180, 181, 182, 183, 25, 184, 185, 186, 187, 188, 189, 301, 302, 303, 304, 305, 306, 307, 308, 309, 310, 311, 312, 281, 282, 283, 284, 285, 286, 287, 288, 289, 290, 291, 292, 293, 296, 297, 298, 299, 300] rfl (by decide +kernel)
set_option maxRecDepth 20000 in
theorem gX7_digest_X7_digestFillings : GoodIn wsX7_digest (wsV RX7 241 RX7 yX7_digestFillings wsX7_digestFillings) := goodIn_app (goodIn_r _ [166, 167, 168, 15] rfl (by decide +kernel)) ggX7_digest_X7_digestFillings
set_option maxRecDepth 20000 in
theorem ggX7_digest_X7_digestTerms : GoodIn wsX7_digest wsX7_digestTerms := goodIn_r _ [193, 194, 195, 196, 197, 15, 198, 199, 200, 2, 201, 202, 203, 204, 205, 206, 207, 208, 209, 210, 211, 212, 213, 49, 50, 51, 214, 215, 216, 217, 27, 28, 9, 29, 30, 218, 7, 8, 10, 11, 219, 220, 221, 222, 223, 224, 225, 226, 227, 228, 229, 230, 231, 232, 233, 234, 235, 236, 237, 238, 239, 240, 241, 242, 243, 244, 245, 246, 247, 107, 108, 109, 110, 313, 314, 315, 316, 317, 318, 319, 320, 321, 281, 282, 283, 284, 285, 286, 287, 288, 289, 290, 291, 292, 293, 296, 297, 298, 299, 300] rfl (by decide +kernel)
set_option maxRecDepth 20000 in
theorem gX7_digest_X7_digestTerms : GoodIn wsX7_digest (wsV RX7 244 RX7 yX7_digestTerms wsX7_digestTerms) := goodIn_app (goodIn_r _ [190, 191, 192, 15] rfl (by decide +kernel)) ggX7_digest_X7_digestTerms
set_option maxRecDepth 20000 in
theorem ggX7_digest_X7_sorts : GoodIn wsX7_digest wsX7_sorts := goodIn_r _ [251, 252, 253, 254, 255, 256, 257, 258, 259, 260, 261, 262, 263, 264, 265, 237, 266, 267, 268, 269, 270, 271, 272, 273, 281, 282, 283, 284, 285, 286, 287, 288, 289, 290, 291, 292, 293, 322, 323] rfl (by decide +kernel)
set_option maxRecDepth 20000 in
theorem gX7_digest_X7_sorts : GoodIn wsX7_digest (wsV RX7 247 RX7 yX7_sorts wsX7_sorts) := goodIn_app (goodIn_r _ [248, 249, 250, 15] rfl (by decide +kernel)) ggX7_digest_X7_sorts
set_option maxRecDepth 20000 in
theorem ggX7_digest_X7_count : GoodIn wsX7_digest wsX7_count := goodIn_r _ [277, 2, 18, 19, 194, 278, 252, 279, 3, 4, 280, 20, 21, 22, 9, 23, 11, 24, 25, 31, 32, 33, 15, 34, 35, 36, 37, 38, 39, 40, 41, 42, 43, 44, 45, 46, 47, 48, 49, 50, 51, 52, 53, 54, 55, 56, 57, 58, 59, 60, 61, 62, 63, 64, 65, 66, 67, 68, 69, 70, 71, 72, 73, 74, 75, 7, 8, 10, 76, 27, 28, 29, 30, 77, 78, 79, 80, 81, 82, 83, 84, 85, 86, 87, 88, 89, 90, 91, 92, 93, 94, 95, 96, 97, 98, 99, 100, 101, 102, 103, 104, 105, 106, 195, 196, 197, 198, 199, 200, 201, 202, 203, 204, 205, 206, 207, 208, 209, 210, 211, 212, 213, 214, 215, 216, 217, 218, 219, 220, 221, 222, 223, 224, 225, 226, 227, 228, 229, 230, 231, 232, 233, 234, 235, 236, 237, 238, 239, 240, 241, 242, 243, 281, 282, 283, 284, 285, 286, 287, 288, 289, 290, 291, 292, 293, 296, 297, 298, 299, 300, 301, 302, 303, 304, 305, 306, 313, 314, 315, 316, 317, 318, 319, 320, 321, 322, 323, 294, 295, 307, 308, 309, 310, 311, 312] rfl (by decide +kernel)
set_option maxRecDepth 20000 in
theorem gX7_digest_X7_count : GoodIn wsX7_digest (wsV RX7 253 RX7 yX7_count wsX7_count) := goodIn_app (goodIn_r _ [274, 275, 276, 15] rfl (by decide +kernel)) ggX7_digest_X7_count
theorem dX7_digest_0 : decode cX7_digest 0 = .ok (.ldc2_w 226, 3) := by decide +kernel
theorem dX7_digest_3 : decode cX7_digest 3 = .ok (.lstore_n 1, 1) := by decide +kernel
theorem dX7_digest_4 : decode cX7_digest 4 = .ok (.aload_n 0, 1) := by decide +kernel
theorem dX7_digest_5 : decode cX7_digest 5 = .ok (.getfield 26, 3) := by decide +kernel
theorem dX7_digest_8 : decode cX7_digest 8 = .ok (.invokevirtual 99, 3) := by decide +kernel
theorem dX7_digest_11 : decode cX7_digest 11 = .ok (.ifCond .ne 69, 3) := by decide +kernel
theorem dX7_digest_14 : decode cX7_digest 14 = .ok (.iconst 0, 1) := by decide +kernel
theorem dX7_digest_15 : decode cX7_digest 15 = .ok (.istore_n 3, 1) := by decide +kernel
theorem dX7_digest_16 : decode cX7_digest 16 = .ok (.iload_n 3, 1) := by decide +kernel
theorem dX7_digest_17 : decode cX7_digest 17 = .ok (.iconst 4, 1) := by decide +kernel
theorem dX7_digest_18 : decode cX7_digest 18 = .ok (.if_icmp .gt 20, 3) := by decide +kernel
theorem dX7_digest_21 : decode cX7_digest 21 = .ok (.lload_n 1, 1) := by decide +kernel
theorem dX7_digest_22 : decode cX7_digest 22 = .ok (.aload_n 0, 1) := by decide +kernel
theorem dX7_digest_23 : decode cX7_digest 23 = .ok (.iload_n 3, 1) := by decide +kernel
theorem dX7_digest_24 : decode cX7_digest 24 = .ok (.invokevirtual 228, 3) := by decide +kernel
theorem dX7_digest_27 : decode cX7_digest 27 = .ok (.i2l, 1) := by decide +kernel
theorem dX7_digest_28 : decode cX7_digest 28 = .ok (.invokestatic 231, 3) := by decide +kernel
theorem dX7_digest_31 : decode cX7_digest 31 = .ok (.lstore_n 1, 1) := by decide +kernel
theorem dX7_digest_32 : decode cX7_digest 32 = .ok (.iinc 3 1, 3) := by decide +kernel
theorem dX7_digest_35 : decode cX7_digest 35 = .ok (.goto (-19), 3) := by decide +kernel
theorem dX7_digest_38 : decode cX7_digest 38 = .ok (.iconst 0, 1) := by decide +kernel
theorem dX7_digest_39 : decode cX7_digest 39 = .ok (.istore_n 3, 1) := by decide +kernel
theorem dX7_digest_40 : decode cX7_digest 40 = .ok (.iload_n 3, 1) := by decide +kernel
theorem dX7_digest_41 : decode cX7_digest 41 = .ok (.aload_n 0, 1) := by decide +kernel
theorem dX7_digest_42 : decode cX7_digest 42 = .ok (.getfield 26, 3) := by decide +kernel
theorem dX7_digest_45 : decode cX7_digest 45 = .ok (.invokevirtual 235, 3) := by decide +kernel
theorem dX7_digest_48 : decode cX7_digest 48 = .ok (.if_icmp .ge 20, 3) := by decide +kernel
theorem dX7_digest_51 : decode cX7_digest 51 = .ok (.lload_n 1, 1) := by decide +kernel
theorem dX7_digest_52 : decode cX7_digest 52 = .ok (.aload_n 0, 1) := by decide +kernel
theorem dX7_digest_53 : decode cX7_digest 53 = .ok (.iload_n 3, 1) := by decide +kernel
theorem dX7_digest_54 : decode cX7_digest 54 = .ok (.invokevirtual 238, 3) := by decide +kernel
theorem dX7_digest_57 : decode cX7_digest 57 = .ok (.i2l, 1) := by decide +kernel
theorem dX7_digest_58 : decode cX7_digest 58 = .ok (.invokestatic 231, 3) := by decide +kernel
theorem dX7_digest_61 : decode cX7_digest 61 = .ok (.lstore_n 1, 1) := by decide +kernel
theorem dX7_digest_62 : decode cX7_digest 62 = .ok (.iinc 3 1, 3) := by decide +kernel
theorem dX7_digest_65 : decode cX7_digest 65 = .ok (.goto (-25), 3) := by decide +kernel
theorem dX7_digest_68 : decode cX7_digest 68 = .ok (.aload_n 0, 1) := by decide +kernel
theorem dX7_digest_69 : decode cX7_digest 69 = .ok (.lload_n 1, 1) := by decide +kernel
theorem dX7_digest_70 : decode cX7_digest 70 = .ok (.invokevirtual 241, 3) := by decide +kernel
theorem dX7_digest_73 : decode cX7_digest 73 = .ok (.lstore_n 1, 1) := by decide +kernel
theorem dX7_digest_74 : decode cX7_digest 74 = .ok (.aload_n 0, 1) := by decide +kernel
theorem dX7_digest_75 : decode cX7_digest 75 = .ok (.lload_n 1, 1) := by decide +kernel
theorem dX7_digest_76 : decode cX7_digest 76 = .ok (.invokevirtual 244, 3) := by decide +kernel
theorem dX7_digest_79 : decode cX7_digest 79 = .ok (.lstore_n 1, 1) := by decide +kernel
theorem dX7_digest_80 : decode cX7_digest 80 = .ok (.lload_n 1, 1) := by decide +kernel
theorem dX7_digest_81 : decode cX7_digest 81 = .ok (.aload_n 0, 1) := by decide +kernel
theorem dX7_digest_82 : decode cX7_digest 82 = .ok (.iconst 0, 1) := by decide +kernel
theorem dX7_digest_83 : decode cX7_digest 83 = .ok (.invokevirtual 247, 3) := by decide +kernel
theorem dX7_digest_86 : decode cX7_digest 86 = .ok (.i2l, 1) := by decide +kernel
theorem dX7_digest_87 : decode cX7_digest 87 = .ok (.invokestatic 231, 3) := by decide +kernel
theorem dX7_digest_90 : decode cX7_digest 90 = .ok (.lstore_n 1, 1) := by decide +kernel
theorem dX7_digest_91 : decode cX7_digest 91 = .ok (.lload_n 1, 1) := by decide +kernel
theorem dX7_digest_92 : decode cX7_digest 92 = .ok (.aload_n 0, 1) := by decide +kernel
theorem dX7_digest_93 : decode cX7_digest 93 = .ok (.iconst 1, 1) := by decide +kernel
theorem dX7_digest_94 : decode cX7_digest 94 = .ok (.invokevirtual 247, 3) := by decide +kernel
theorem dX7_digest_97 : decode cX7_digest 97 = .ok (.i2l, 1) := by decide +kernel
theorem dX7_digest_98 : decode cX7_digest 98 = .ok (.invokestatic 231, 3) := by decide +kernel
theorem dX7_digest_101 : decode cX7_digest 101 = .ok (.lstore_n 1, 1) := by decide +kernel
theorem dX7_digest_102 : decode cX7_digest 102 = .ok (.iconst 0, 1) := by decide +kernel
theorem dX7_digest_103 : decode cX7_digest 103 = .ok (.istore_n 3, 1) := by decide +kernel
theorem dX7_digest_104 : decode cX7_digest 104 = .ok (.iload_n 3, 1) := by decide +kernel
theorem dX7_digest_105 : decode cX7_digest 105 = .ok (.aload_n 0, 1) := by decide +kernel
theorem dX7_digest_106 : decode cX7_digest 106 = .ok (.getfield 10, 3) := by decide +kernel
theorem dX7_digest_109 : decode cX7_digest 109 = .ok (.getfield 64, 3) := by decide +kernel
theorem dX7_digest_112 : decode cX7_digest 112 = .ok (.if_icmp .ge 24, 3) := by decide +kernel
theorem dX7_digest_115 : decode cX7_digest 115 = .ok (.lload_n 1, 1) := by decide +kernel
theorem dX7_digest_116 : decode cX7_digest 116 = .ok (.aload_n 0, 1) := by decide +kernel
theorem dX7_digest_117 : decode cX7_digest 117 = .ok (.getfield 10, 3) := by decide +kernel
theorem dX7_digest_120 : decode cX7_digest 120 = .ok (.getfield 250, 3) := by decide +kernel
theorem dX7_digest_123 : decode cX7_digest 123 = .ok (.iload_n 3, 1) := by decide +kernel
theorem dX7_digest_124 : decode cX7_digest 124 = .ok (.iaload, 1) := by decide +kernel
theorem dX7_digest_125 : decode cX7_digest 125 = .ok (.i2l, 1) := by decide +kernel
theorem dX7_digest_126 : decode cX7_digest 126 = .ok (.invokestatic 231, 3) := by decide +kernel
theorem dX7_digest_129 : decode cX7_digest 129 = .ok (.lstore_n 1, 1) := by decide +kernel
theorem dX7_digest_130 : decode cX7_digest 130 = .ok (.iinc 3 1, 3) := by decide +kernel
theorem dX7_digest_133 : decode cX7_digest 133 = .ok (.goto (-29), 3) := by decide +kernel
theorem dX7_digest_136 : decode cX7_digest 136 = .ok (.iconst 0, 1) := by decide +kernel
theorem dX7_digest_137 : decode cX7_digest 137 = .ok (.istore_n 3, 1) := by decide +kernel
theorem dX7_digest_138 : decode cX7_digest 138 = .ok (.iload_n 3, 1) := by decide +kernel
theorem dX7_digest_139 : decode cX7_digest 139 = .ok (.bipush 7, 2) := by decide +kernel
theorem dX7_digest_141 : decode cX7_digest 141 = .ok (.if_icmp .gt 20, 3) := by decide +kernel
theorem dX7_digest_144 : decode cX7_digest 144 = .ok (.lload_n 1, 1) := by decide +kernel
theorem dX7_digest_145 : decode cX7_digest 145 = .ok (.aload_n 0, 1) := by decide +kernel
theorem dX7_digest_146 : decode cX7_digest 146 = .ok (.iload_n 3, 1) := by decide +kernel
theorem dX7_digest_147 : decode cX7_digest 147 = .ok (.invokevirtual 253, 3) := by decide +kernel
theorem dX7_digest_150 : decode cX7_digest 150 = .ok (.i2l, 1) := by decide +kernel
theorem dX7_digest_151 : decode cX7_digest 151 = .ok (.invokestatic 231, 3) := by decide +kernel
theorem dX7_digest_154 : decode cX7_digest 154 = .ok (.lstore_n 1, 1) := by decide +kernel
theorem dX7_digest_155 : decode cX7_digest 155 = .ok (.iinc 3 1, 3) := by decide +kernel
theorem dX7_digest_158 : decode cX7_digest 158 = .ok (.goto (-20), 3) := by decide +kernel
theorem dX7_digest_161 : decode cX7_digest 161 = .ok (.lload_n 1, 1) := by decide +kernel
theorem dX7_digest_162 : decode cX7_digest 162 = .ok (.lreturn, 1) := by decide +kernel
theorem dX7_mix_0 : decode cX7_mix 0 = .ok (.ldc2_w 256, 3) := by decide +kernel
theorem dX7_mix_3 : decode cX7_mix 3 = .ok (.lload_n 0, 1) := by decide +kernel
theorem dX7_mix_4 : decode cX7_mix 4 = .ok (.lmul, 1) := by decide +kernel
theorem dX7_mix_5 : decode cX7_mix 5 = .ok (.lload_n 2, 1) := by decide +kernel
theorem dX7_mix_6 : decode cX7_mix 6 = .ok (.ladd, 1) := by decide +kernel
theorem dX7_mix_7 : decode cX7_mix 7 = .ok (.lreturn, 1) := by decide +kernel
set_option maxRecDepth 20000 in
theorem ggX7_digestFillings_X7_freshFillings : GoodIn wsX7_digestFillings wsX7_freshFillings := goodIn_r _ [10, 11, 12, 4, 13, 14, 15, 16, 17, 18, 19, 20, 21, 22, 23, 24, 25, 26, 27, 28, 29, 30, 31, 32, 33, 34, 35, 36, 37, 38, 39, 40, 41, 42, 43, 44, 45, 46, 47, 48, 49, 50, 51, 52, 53, 54, 55, 56, 57, 58, 59, 60, 61, 62, 63, 64, 65, 66, 67, 68, 69, 70, 71, 72, 73, 74, 75, 76, 77, 78, 79, 80, 81, 82, 83, 84, 85, 86, 87, 88, 89, 90, 91, 127, 128, 129, 130, 131, 132, 133, 134, 135, 136, 137, 138, 139, 115, 116, 117, 118, 119, 120, 140, 141, 142, 143, 144, 121, 122, 123, 124, 125, 126] rfl (by decide +kernel)
set_option maxRecDepth 20000 in
theorem gX7_digestFillings_X7_freshFillings : GoodIn wsX7_digestFillings (wsV RX7 108 RX7 yX7_freshFillings wsX7_freshFillings) := goodIn_app (goodIn_r _ [6, 7, 8, 9] rfl (by decide +kernel)) ggX7_digestFillings_X7_freshFillings
set_option maxRecDepth 20000 in
theorem ggX7_digestFillings_X0_numberIn : GoodIn wsX7_digestFillings wsX0_numberIn := goodIn_r _ [95, 21, 28, 71, 115, 116, 117, 118, 119, 120, 121, 122, 123, 124, 125, 126] rfl (by decide +kernel)
set_option maxRecDepth 20000 in
theorem gX7_digestFillings_X0_numberIn : GoodIn wsX7_digestFillings (wsV RX7 176 RX0 yX0_numberIn wsX0_numberIn) := goodIn_app (goodIn_r _ [92, 93, 94, 16] rfl (by decide +kernel)) ggX7_digestFillings_X0_numberIn
set_option maxRecDepth 20000 in
theorem ggX7_digestFillings_X7_mix : GoodIn wsX7_digestFillings wsX7_mix := goodIn_r _ [98, 99] rfl (by decide +kernel)
set_option maxRecDepth 20000 in
theorem gX7_digestFillings_X7_mix : GoodIn wsX7_digestFillings (va_wsS RX7 231 yX7_mix wsX7_mix) := goodIn_app (goodIn_r _ [96, 97, 9] rfl (by decide +kernel)) ggX7_digestFillings_X7_mix
set_option maxRecDepth 20000 in
theorem ggX7_digestFillings_X7_partialSum : GoodIn wsX7_digestFillings wsX7_partialSum := goodIn_r _ [103, 4, 104, 105, 106, 54, 107, 56, 108, 109, 110, 111, 16, 112, 21, 28, 113, 114, 93, 94, 95, 71, 127, 128, 129, 130, 131, 132, 133, 134, 135, 136, 137, 138, 139, 140, 141, 142, 143, 144, 115, 116, 117, 118, 119, 120, 121, 122, 123, 124, 125, 126] rfl (by decide +kernel)
set_option maxRecDepth 20000 in
theorem gX7_digestFillings_X7_partialSum : GoodIn wsX7_digestFillings (wsV RX7 180 RX7 yX7_partialSum wsX7_partialSum) := goodIn_app (goodIn_r _ [100, 101, 102, 9] rfl (by decide +kernel)) ggX7_digestFillings_X7_partialSum
theorem dX7_digestFillings_0 : decode cX7_digestFillings 0 = .ok (.lload_n 1, 1) := by decide +kernel
theorem dX7_digestFillings_1 : decode cX7_digestFillings 1 = .ok (.lstore_n 3, 1) := by decide +kernel
theorem dX7_digestFillings_2 : decode cX7_digestFillings 2 = .ok (.aload_n 0, 1) := by decide +kernel
theorem dX7_digestFillings_3 : decode cX7_digestFillings 3 = .ok (.invokevirtual 108, 3) := by decide +kernel
theorem dX7_digestFillings_6 : decode cX7_digestFillings 6 = .ok (.astore 5, 2) := by decide +kernel
theorem dX7_digestFillings_8 : decode cX7_digestFillings 8 = .ok (.iconst 0, 1) := by decide +kernel
theorem dX7_digestFillings_9 : decode cX7_digestFillings 9 = .ok (.istore 6, 2) := by decide +kernel
theorem dX7_digestFillings_11 : decode cX7_digestFillings 11 = .ok (.iload 6, 2) := by decide +kernel
theorem dX7_digestFillings_13 : decode cX7_digestFillings 13 = .ok (.aload 5, 2) := by decide +kernel
theorem dX7_digestFillings_15 : decode cX7_digestFillings 15 = .ok (.getfield 128, 3) := by decide +kernel
theorem dX7_digestFillings_18 : decode cX7_digestFillings 18 = .ok (.if_icmp .ge 106, 3) := by decide +kernel
theorem dX7_digestFillings_21 : decode cX7_digestFillings 21 = .ok (.iload 6, 2) := by decide +kernel
theorem dX7_digestFillings_23 : decode cX7_digestFillings 23 = .ok (.iconst 3, 1) := by decide +kernel
theorem dX7_digestFillings_24 : decode cX7_digestFillings 24 = .ok (.if_icmp .ge 100, 3) := by decide +kernel
theorem dX7_digestFillings_27 : decode cX7_digestFillings 27 = .ok (.iconst 0, 1) := by decide +kernel
theorem dX7_digestFillings_28 : decode cX7_digestFillings 28 = .ok (.istore 7, 2) := by decide +kernel
theorem dX7_digestFillings_30 : decode cX7_digestFillings 30 = .ok (.iload 7, 2) := by decide +kernel
theorem dX7_digestFillings_32 : decode cX7_digestFillings 32 = .ok (.aload 5, 2) := by decide +kernel
theorem dX7_digestFillings_34 : decode cX7_digestFillings 34 = .ok (.getfield 152, 3) := by decide +kernel
theorem dX7_digestFillings_37 : decode cX7_digestFillings 37 = .ok (.getfield 258, 3) := by decide +kernel
theorem dX7_digestFillings_40 : decode cX7_digestFillings 40 = .ok (.if_icmp .ge 24, 3) := by decide +kernel
theorem dX7_digestFillings_43 : decode cX7_digestFillings 43 = .ok (.lload_n 3, 1) := by decide +kernel
theorem dX7_digestFillings_44 : decode cX7_digestFillings 44 = .ok (.aload 5, 2) := by decide +kernel
theorem dX7_digestFillings_46 : decode cX7_digestFillings 46 = .ok (.iload 6, 2) := by decide +kernel
theorem dX7_digestFillings_48 : decode cX7_digestFillings 48 = .ok (.iload 7, 2) := by decide +kernel
theorem dX7_digestFillings_50 : decode cX7_digestFillings 50 = .ok (.invokevirtual 176, 3) := by decide +kernel
theorem dX7_digestFillings_53 : decode cX7_digestFillings 53 = .ok (.i2l, 1) := by decide +kernel
theorem dX7_digestFillings_54 : decode cX7_digestFillings 54 = .ok (.invokestatic 231, 3) := by decide +kernel
theorem dX7_digestFillings_57 : decode cX7_digestFillings 57 = .ok (.lstore_n 3, 1) := by decide +kernel
theorem dX7_digestFillings_58 : decode cX7_digestFillings 58 = .ok (.iinc 7 1, 3) := by decide +kernel
theorem dX7_digestFillings_61 : decode cX7_digestFillings 61 = .ok (.goto (-31), 3) := by decide +kernel
theorem dX7_digestFillings_64 : decode cX7_digestFillings 64 = .ok (.iconst 0, 1) := by decide +kernel
theorem dX7_digestFillings_65 : decode cX7_digestFillings 65 = .ok (.istore 7, 2) := by decide +kernel
theorem dX7_digestFillings_67 : decode cX7_digestFillings 67 = .ok (.iload 7, 2) := by decide +kernel
theorem dX7_digestFillings_69 : decode cX7_digestFillings 69 = .ok (.aload_n 0, 1) := by decide +kernel
theorem dX7_digestFillings_70 : decode cX7_digestFillings 70 = .ok (.getfield 26, 3) := by decide +kernel
theorem dX7_digestFillings_73 : decode cX7_digestFillings 73 = .ok (.getfield 122, 3) := by decide +kernel
theorem dX7_digestFillings_76 : decode cX7_digestFillings 76 = .ok (.if_icmp .gt 42, 3) := by decide +kernel
theorem dX7_digestFillings_79 : decode cX7_digestFillings 79 = .ok (.iconst 0, 1) := by decide +kernel
theorem dX7_digestFillings_80 : decode cX7_digestFillings 80 = .ok (.istore 8, 2) := by decide +kernel
theorem dX7_digestFillings_82 : decode cX7_digestFillings 82 = .ok (.iload 8, 2) := by decide +kernel
theorem dX7_digestFillings_84 : decode cX7_digestFillings 84 = .ok (.iconst 4, 1) := by decide +kernel
theorem dX7_digestFillings_85 : decode cX7_digestFillings 85 = .ok (.if_icmp .gt 27, 3) := by decide +kernel
theorem dX7_digestFillings_88 : decode cX7_digestFillings 88 = .ok (.lload_n 3, 1) := by decide +kernel
theorem dX7_digestFillings_89 : decode cX7_digestFillings 89 = .ok (.aload_n 0, 1) := by decide +kernel
theorem dX7_digestFillings_90 : decode cX7_digestFillings 90 = .ok (.aload 5, 2) := by decide +kernel
theorem dX7_digestFillings_92 : decode cX7_digestFillings 92 = .ok (.iload 6, 2) := by decide +kernel
theorem dX7_digestFillings_94 : decode cX7_digestFillings 94 = .ok (.iload 7, 2) := by decide +kernel
theorem dX7_digestFillings_96 : decode cX7_digestFillings 96 = .ok (.iload 8, 2) := by decide +kernel
theorem dX7_digestFillings_98 : decode cX7_digestFillings 98 = .ok (.invokevirtual 180, 3) := by decide +kernel
theorem dX7_digestFillings_101 : decode cX7_digestFillings 101 = .ok (.i2l, 1) := by decide +kernel
theorem dX7_digestFillings_102 : decode cX7_digestFillings 102 = .ok (.invokestatic 231, 3) := by decide +kernel
theorem dX7_digestFillings_105 : decode cX7_digestFillings 105 = .ok (.lstore_n 3, 1) := by decide +kernel
theorem dX7_digestFillings_106 : decode cX7_digestFillings 106 = .ok (.iinc 8 1, 3) := by decide +kernel
theorem dX7_digestFillings_109 : decode cX7_digestFillings 109 = .ok (.goto (-27), 3) := by decide +kernel
theorem dX7_digestFillings_112 : decode cX7_digestFillings 112 = .ok (.iinc 7 1, 3) := by decide +kernel
theorem dX7_digestFillings_115 : decode cX7_digestFillings 115 = .ok (.goto (-48), 3) := by decide +kernel
theorem dX7_digestFillings_118 : decode cX7_digestFillings 118 = .ok (.iinc 6 1, 3) := by decide +kernel
theorem dX7_digestFillings_121 : decode cX7_digestFillings 121 = .ok (.goto (-110), 3) := by decide +kernel
theorem dX7_digestFillings_124 : decode cX7_digestFillings 124 = .ok (.lload_n 3, 1) := by decide +kernel
theorem dX7_digestFillings_125 : decode cX7_digestFillings 125 = .ok (.lreturn, 1) := by decide +kernel
set_option maxRecDepth 20000 in
theorem ggX7_digestTerms_X7_freshProducts : GoodIn wsX7_digestTerms wsX7_freshProducts := goodIn_r _ [6, 7, 8, 9, 10, 11, 12, 13, 14, 15, 16, 17, 18, 19, 20, 21, 22, 23, 24, 25, 26, 27, 28, 29, 30, 31, 32, 33, 34, 35, 36, 37, 38, 39, 40, 41, 42, 43, 44, 45, 46, 47, 48, 49, 50, 51, 52, 53, 54, 55, 56, 57, 58, 59, 60, 61, 62, 63, 64, 82, 83, 84, 85, 86, 87, 88, 89, 90, 91, 92, 93, 94, 73, 74, 75, 76, 77, 78, 79, 80, 81, 95, 96, 97, 98, 99] rfl (by decide +kernel)
set_option maxRecDepth 20000 in
theorem gX7_digestTerms_X7_freshProducts : GoodIn wsX7_digestTerms (wsV RX7 184 RX7 yX7_freshProducts wsX7_freshProducts) := goodIn_app (goodIn_r _ [2, 3, 4, 5] rfl (by decide +kernel)) ggX7_digestTerms_X7_freshProducts
set_option maxRecDepth 20000 in
theorem ggX7_digestTerms_X5_propertyOf : GoodIn wsX7_digestTerms wsX5_propertyOf := goodIn_r _ [68, 64, 27, 17, 18, 73, 74, 75, 76, 77, 78, 79, 80, 81] rfl (by decide +kernel)
set_option maxRecDepth 20000 in
theorem gX7_digestTerms_X5_propertyOf : GoodIn wsX7_digestTerms (wsV RX7 192 RX5 yX5_propertyOf wsX5_propertyOf) := goodIn_app (goodIn_r _ [65, 66, 67, 13] rfl (by decide +kernel)) ggX7_digestTerms_X5_propertyOf
set_option maxRecDepth 20000 in
theorem ggX7_digestTerms_X7_mix : GoodIn wsX7_digestTerms wsX7_mix := goodIn_r _ [71, 72] rfl (by decide +kernel)
set_option maxRecDepth 20000 in
theorem gX7_digestTerms_X7_mix : GoodIn wsX7_digestTerms (va_wsS RX7 231 yX7_mix wsX7_mix) := goodIn_app (goodIn_r _ [69, 70, 5] rfl (by decide +kernel)) ggX7_digestTerms_X7_mix
theorem dX7_digestTerms_0 : decode cX7_digestTerms 0 = .ok (.lload_n 1, 1) := by decide +kernel
theorem dX7_digestTerms_1 : decode cX7_digestTerms 1 = .ok (.lstore_n 3, 1) := by decide +kernel
theorem dX7_digestTerms_2 : decode cX7_digestTerms 2 = .ok (.aload_n 0, 1) := by decide +kernel
theorem dX7_digestTerms_3 : decode cX7_digestTerms 3 = .ok (.invokevirtual 184, 3) := by decide +kernel
theorem dX7_digestTerms_6 : decode cX7_digestTerms 6 = .ok (.astore 5, 2) := by decide +kernel
theorem dX7_digestTerms_8 : decode cX7_digestTerms 8 = .ok (.iconst 0, 1) := by decide +kernel
theorem dX7_digestTerms_9 : decode cX7_digestTerms 9 = .ok (.istore 6, 2) := by decide +kernel
theorem dX7_digestTerms_11 : decode cX7_digestTerms 11 = .ok (.iload 6, 2) := by decide +kernel
theorem dX7_digestTerms_13 : decode cX7_digestTerms 13 = .ok (.aload 5, 2) := by decide +kernel
theorem dX7_digestTerms_15 : decode cX7_digestTerms 15 = .ok (.getfield 188, 3) := by decide +kernel
theorem dX7_digestTerms_18 : decode cX7_digestTerms 18 = .ok (.if_icmp .ge 39, 3) := by decide +kernel
theorem dX7_digestTerms_21 : decode cX7_digestTerms 21 = .ok (.iconst 0, 1) := by decide +kernel
theorem dX7_digestTerms_22 : decode cX7_digestTerms 22 = .ok (.istore 7, 2) := by decide +kernel
theorem dX7_digestTerms_24 : decode cX7_digestTerms 24 = .ok (.iload 7, 2) := by decide +kernel
theorem dX7_digestTerms_26 : decode cX7_digestTerms 26 = .ok (.iconst 4, 1) := by decide +kernel
theorem dX7_digestTerms_27 : decode cX7_digestTerms 27 = .ok (.if_icmp .gt 24, 3) := by decide +kernel
theorem dX7_digestTerms_30 : decode cX7_digestTerms 30 = .ok (.lload_n 3, 1) := by decide +kernel
theorem dX7_digestTerms_31 : decode cX7_digestTerms 31 = .ok (.aload 5, 2) := by decide +kernel
theorem dX7_digestTerms_33 : decode cX7_digestTerms 33 = .ok (.iload 6, 2) := by decide +kernel
theorem dX7_digestTerms_35 : decode cX7_digestTerms 35 = .ok (.iload 7, 2) := by decide +kernel
theorem dX7_digestTerms_37 : decode cX7_digestTerms 37 = .ok (.invokevirtual 192, 3) := by decide +kernel
theorem dX7_digestTerms_40 : decode cX7_digestTerms 40 = .ok (.i2l, 1) := by decide +kernel
theorem dX7_digestTerms_41 : decode cX7_digestTerms 41 = .ok (.invokestatic 231, 3) := by decide +kernel
theorem dX7_digestTerms_44 : decode cX7_digestTerms 44 = .ok (.lstore_n 3, 1) := by decide +kernel
theorem dX7_digestTerms_45 : decode cX7_digestTerms 45 = .ok (.iinc 7 1, 3) := by decide +kernel
theorem dX7_digestTerms_48 : decode cX7_digestTerms 48 = .ok (.goto (-24), 3) := by decide +kernel
theorem dX7_digestTerms_51 : decode cX7_digestTerms 51 = .ok (.iinc 6 1, 3) := by decide +kernel
theorem dX7_digestTerms_54 : decode cX7_digestTerms 54 = .ok (.goto (-43), 3) := by decide +kernel
theorem dX7_digestTerms_57 : decode cX7_digestTerms 57 = .ok (.lload_n 3, 1) := by decide +kernel
theorem dX7_digestTerms_58 : decode cX7_digestTerms 58 = .ok (.lreturn, 1) := by decide +kernel
theorem dX7_isKind_0 : decode cX7_isKind 0 = .ok (.iload_n 0, 1) := by decide +kernel
theorem dX7_isKind_1 : decode cX7_isKind 1 = .ok (.ifCond .lt 12, 3) := by decide +kernel
theorem dX7_isKind_4 : decode cX7_isKind 4 = .ok (.iload_n 0, 1) := by decide +kernel
theorem dX7_isKind_5 : decode cX7_isKind 5 = .ok (.iconst 5, 1) := by decide +kernel
theorem dX7_isKind_6 : decode cX7_isKind 6 = .ok (.if_icmp .ge 7, 3) := by decide +kernel
theorem dX7_isKind_9 : decode cX7_isKind 9 = .ok (.iconst 1, 1) := by decide +kernel
theorem dX7_isKind_10 : decode cX7_isKind 10 = .ok (.goto 4, 3) := by decide +kernel
theorem dX7_isKind_13 : decode cX7_isKind 13 = .ok (.iconst 0, 1) := by decide +kernel
theorem dX7_isKind_14 : decode cX7_isKind 14 = .ok (.ireturn, 1) := by decide +kernel
theorem dX7_isNumber_0 : decode cX7_isNumber 0 = .ok (.iload_n 0, 1) := by decide +kernel
theorem dX7_isNumber_1 : decode cX7_isNumber 1 = .ok (.iconst 1, 1) := by decide +kernel
theorem dX7_isNumber_2 : decode cX7_isNumber 2 = .ok (.if_icmp .lt 12, 3) := by decide +kernel
theorem dX7_isNumber_5 : decode cX7_isNumber 5 = .ok (.iload_n 0, 1) := by decide +kernel
theorem dX7_isNumber_6 : decode cX7_isNumber 6 = .ok (.iconst 4, 1) := by decide +kernel
theorem dX7_isNumber_7 : decode cX7_isNumber 7 = .ok (.if_icmp .gt 7, 3) := by decide +kernel
theorem dX7_isNumber_10 : decode cX7_isNumber 10 = .ok (.iconst 1, 1) := by decide +kernel
theorem dX7_isNumber_11 : decode cX7_isNumber 11 = .ok (.goto 4, 3) := by decide +kernel
theorem dX7_isNumber_14 : decode cX7_isNumber 14 = .ok (.iconst 0, 1) := by decide +kernel
theorem dX7_isNumber_15 : decode cX7_isNumber 15 = .ok (.ireturn, 1) := by decide +kernel
theorem dX7_extendsKind_0 : decode cX7_extendsKind 0 = .ok (.iload_n 1, 1) := by decide +kernel
theorem dX7_extendsKind_1 : decode cX7_extendsKind 1 = .ok (.iload_n 0, 1) := by decide +kernel
theorem dX7_extendsKind_2 : decode cX7_extendsKind 2 = .ok (.if_icmp .eq 17, 3) := by decide +kernel
theorem dX7_extendsKind_5 : decode cX7_extendsKind 5 = .ok (.iload_n 1, 1) := by decide +kernel
theorem dX7_extendsKind_6 : decode cX7_extendsKind 6 = .ok (.ifCond .eq 13, 3) := by decide +kernel
theorem dX7_extendsKind_9 : decode cX7_extendsKind 9 = .ok (.iload_n 1, 1) := by decide +kernel
theorem dX7_extendsKind_10 : decode cX7_extendsKind 10 = .ok (.iconst 1, 1) := by decide +kernel
theorem dX7_extendsKind_11 : decode cX7_extendsKind 11 = .ok (.if_icmp .ne 12, 3) := by decide +kernel
theorem dX7_extendsKind_14 : decode cX7_extendsKind 14 = .ok (.iload_n 0, 1) := by decide +kernel
theorem dX7_extendsKind_15 : decode cX7_extendsKind 15 = .ok (.iconst 2, 1) := by decide +kernel
theorem dX7_extendsKind_16 : decode cX7_extendsKind 16 = .ok (.if_icmp .ne 7, 3) := by decide +kernel
theorem dX7_extendsKind_19 : decode cX7_extendsKind 19 = .ok (.iconst 1, 1) := by decide +kernel
theorem dX7_extendsKind_20 : decode cX7_extendsKind 20 = .ok (.goto 4, 3) := by decide +kernel
theorem dX7_extendsKind_23 : decode cX7_extendsKind 23 = .ok (.iconst 0, 1) := by decide +kernel
theorem dX7_extendsKind_24 : decode cX7_extendsKind 24 = .ok (.ireturn, 1) := by decide +kernel
set_option maxRecDepth 20000 in
theorem ggX7_partialSum_X4_innerSum : GoodIn wsX7_partialSum wsX4_innerSum := goodIn_r _ [6, 7, 8, 35, 36, 37, 38, 39] rfl (by decide +kernel)
set_option maxRecDepth 20000 in
theorem gX7_partialSum_X4_innerSum : GoodIn wsX7_partialSum (wsV RX7 259 RX4 yX4_innerSum wsX4_innerSum) := goodIn_app (goodIn_r _ [2, 3, 4, 5] rfl (by decide +kernel)) ggX7_partialSum_X4_innerSum
set_option maxRecDepth 20000 in
theorem ggX7_partialSum_X0_boxesUpTo : GoodIn wsX7_partialSum wsX0_boxesUpTo := goodIn_r _ [13, 14, 15, 16, 17, 18, 19, 12, 20, 21, 40, 41, 42, 43, 44, 45, 46, 47, 48, 49, 50, 51] rfl (by decide +kernel)
set_option maxRecDepth 20000 in
theorem gX7_partialSum_X0_boxesUpTo : GoodIn wsX7_partialSum (wsV RX7 262 RX0 yX0_boxesUpTo wsX0_boxesUpTo) := goodIn_app (goodIn_r _ [9, 10, 11, 12] rfl (by decide +kernel)) ggX7_partialSum_X0_boxesUpTo
theorem dX7_partialSum_0 : decode cX7_partialSum 0 = .ok (.aload_n 0, 1) := by decide +kernel
theorem dX7_partialSum_1 : decode cX7_partialSum 1 = .ok (.getfield 26, 3) := by decide +kernel
theorem dX7_partialSum_4 : decode cX7_partialSum 4 = .ok (.iload_n 3, 1) := by decide +kernel
theorem dX7_partialSum_5 : decode cX7_partialSum 5 = .ok (.invokevirtual 259, 3) := by decide +kernel
theorem dX7_partialSum_8 : decode cX7_partialSum 8 = .ok (.aload_n 1, 1) := by decide +kernel
theorem dX7_partialSum_9 : decode cX7_partialSum 9 = .ok (.iload_n 2, 1) := by decide +kernel
theorem dX7_partialSum_10 : decode cX7_partialSum 10 = .ok (.iload_n 3, 1) := by decide +kernel
theorem dX7_partialSum_11 : decode cX7_partialSum 11 = .ok (.iload 4, 2) := by decide +kernel
theorem dX7_partialSum_13 : decode cX7_partialSum 13 = .ok (.invokevirtual 262, 3) := by decide +kernel
theorem dX7_partialSum_16 : decode cX7_partialSum 16 = .ok (.iadd, 1) := by decide +kernel
theorem dX7_partialSum_17 : decode cX7_partialSum 17 = .ok (.ireturn, 1) := by decide +kernel
set_option maxRecDepth 20000 in
theorem ggX7_draftError_X4_lengthsAllowed : GoodIn wsX7_draftError wsX4_lengthsAllowed := goodIn_r _ [6, 7, 8, 9, 10, 11, 12, 5, 13, 14, 15, 16, 17, 35, 36, 37, 38, 39] rfl (by decide +kernel)
set_option maxRecDepth 20000 in
theorem gX7_draftError_X4_lengthsAllowed : GoodIn wsX7_draftError (wsV RX7 266 RX4 yX4_lengthsAllowed wsX4_lengthsAllowed) := goodIn_app (goodIn_r _ [2, 3, 4, 5] rfl (by decide +kernel)) ggX7_draftError_X4_lengthsAllowed
set_option maxRecDepth 20000 in
theorem ggX7_draftError_X4_boxCount : GoodIn wsX7_draftError wsX4_boxCount := goodIn_r _ [21, 7, 8, 9, 35, 36, 37, 38, 39] rfl (by decide +kernel)
set_option maxRecDepth 20000 in
theorem gX7_draftError_X4_boxCount : GoodIn wsX7_draftError (wsV RX7 80 RX4 yX4_boxCount wsX4_boxCount) := goodIn_app (goodIn_r _ [18, 19, 20, 5] rfl (by decide +kernel)) ggX7_draftError_X4_boxCount
theorem dX7_draftError_0 : decode cX7_draftError 0 = .ok (.aload_n 0, 1) := by decide +kernel
theorem dX7_draftError_1 : decode cX7_draftError 1 = .ok (.getfield 30, 3) := by decide +kernel
theorem dX7_draftError_4 : decode cX7_draftError 4 = .ok (.invokevirtual 266, 3) := by decide +kernel
theorem dX7_draftError_7 : decode cX7_draftError 7 = .ok (.ifCond .ne 6, 3) := by decide +kernel
theorem dX7_draftError_10 : decode cX7_draftError 10 = .ok (.bipush (-103), 2) := by decide +kernel
theorem dX7_draftError_12 : decode cX7_draftError 12 = .ok (.ireturn, 1) := by decide +kernel
theorem dX7_draftError_13 : decode cX7_draftError 13 = .ok (.aload_n 0, 1) := by decide +kernel
theorem dX7_draftError_14 : decode cX7_draftError 14 = .ok (.getfield 30, 3) := by decide +kernel
theorem dX7_draftError_17 : decode cX7_draftError 17 = .ok (.invokevirtual 80, 3) := by decide +kernel
theorem dX7_draftError_20 : decode cX7_draftError 20 = .ok (.bipush 9, 2) := by decide +kernel
theorem dX7_draftError_22 : decode cX7_draftError 22 = .ok (.if_icmp .le 8, 3) := by decide +kernel
theorem dX7_draftError_25 : decode cX7_draftError 25 = .ok (.bipush (-104), 2) := by decide +kernel
theorem dX7_draftError_27 : decode cX7_draftError 27 = .ok (.goto 4, 3) := by decide +kernel
theorem dX7_draftError_30 : decode cX7_draftError 30 = .ok (.iconst 0, 1) := by decide +kernel
theorem dX7_draftError_31 : decode cX7_draftError 31 = .ok (.ireturn, 1) := by decide +kernel
theorem dX7_planChanged_0 : decode cX7_planChanged 0 = .ok (.aload_n 0, 1) := by decide +kernel
theorem dX7_planChanged_1 : decode cX7_planChanged 1 = .ok (.iconst 0, 1) := by decide +kernel
theorem dX7_planChanged_2 : decode cX7_planChanged 2 = .ok (.putfield 167, 3) := by decide +kernel
theorem dX7_planChanged_5 : decode cX7_planChanged 5 = .ok (.aload_n 0, 1) := by decide +kernel
theorem dX7_planChanged_6 : decode cX7_planChanged 6 = .ok (.iconst 0, 1) := by decide +kernel
theorem dX7_planChanged_7 : decode cX7_planChanged 7 = .ok (.putfield 269, 3) := by decide +kernel
theorem dX7_planChanged_10 : decode cX7_planChanged 10 = .ok (.return_, 1) := by decide +kernel
set_option maxRecDepth 20000 in
theorem ggX7_freshFillings_X0_findAll : GoodIn wsX7_freshFillings wsX0_findAll := goodIn_r _ [8, 9, 10, 11, 12, 13, 14, 15, 16, 17, 18, 19, 20, 21, 22, 23, 24, 25, 26, 27, 28, 29, 30, 31, 32, 33, 34, 35, 36, 37, 38, 39, 40, 41, 42, 43, 44, 45, 46, 47, 48, 49, 50, 51, 52, 53, 54, 55, 7, 56, 57, 58, 59, 60, 61, 62, 63, 64, 65, 66, 67, 68, 69, 70, 71, 72, 73, 74, 75, 76, 77, 78, 79, 80, 81, 82, 96, 97, 98, 99, 100, 101, 102, 103, 104, 105, 106, 107, 108, 109, 110, 111, 112] rfl (by decide +kernel)
set_option maxRecDepth 20000 in
theorem gX7_freshFillings_X0_findAll : GoodIn wsX7_freshFillings (wsV RX7 272 RX0 yX0_findAll wsX0_findAll) := goodIn_app (goodIn_r _ [4, 5, 6, 7] rfl (by decide +kernel)) ggX7_freshFillings_X0_findAll
theorem dX7_freshFillings_0 : decode cX7_freshFillings 0 = .ok (.aload_n 0, 1) := by decide +kernel
theorem dX7_freshFillings_1 : decode cX7_freshFillings 1 = .ok (.getfield 167, 3) := by decide +kernel
theorem dX7_freshFillings_4 : decode cX7_freshFillings 4 = .ok (.ifCond .ne 19, 3) := by decide +kernel
theorem dX7_freshFillings_7 : decode cX7_freshFillings 7 = .ok (.aload_n 0, 1) := by decide +kernel
theorem dX7_freshFillings_8 : decode cX7_freshFillings 8 = .ok (.getfield 49, 3) := by decide +kernel
theorem dX7_freshFillings_11 : decode cX7_freshFillings 11 = .ok (.aload_n 0, 1) := by decide +kernel
theorem dX7_freshFillings_12 : decode cX7_freshFillings 12 = .ok (.getfield 26, 3) := by decide +kernel
theorem dX7_freshFillings_15 : decode cX7_freshFillings 15 = .ok (.invokevirtual 272, 3) := by decide +kernel
theorem dX7_freshFillings_18 : decode cX7_freshFillings 18 = .ok (.aload_n 0, 1) := by decide +kernel
theorem dX7_freshFillings_19 : decode cX7_freshFillings 19 = .ok (.iconst 1, 1) := by decide +kernel
theorem dX7_freshFillings_20 : decode cX7_freshFillings 20 = .ok (.putfield 167, 3) := by decide +kernel
theorem dX7_freshFillings_23 : decode cX7_freshFillings 23 = .ok (.aload_n 0, 1) := by decide +kernel
theorem dX7_freshFillings_24 : decode cX7_freshFillings 24 = .ok (.getfield 49, 3) := by decide +kernel
theorem dX7_freshFillings_27 : decode cX7_freshFillings 27 = .ok (.areturn, 1) := by decide +kernel
set_option maxRecDepth 20000 in
theorem ggX7_freshProducts_X5_findAll : GoodIn wsX7_freshProducts wsX5_findAll := goodIn_r _ [8, 9, 10, 11, 12, 13, 14, 15, 16, 17, 18, 19, 20, 21, 22, 23, 24, 25, 26, 27, 28, 29, 30, 31, 32, 33, 34, 35, 36, 37, 38, 39, 40, 7, 41, 42, 43, 44, 45, 46, 47, 48, 49, 50, 51, 52, 53, 54, 55, 56, 57, 58, 72, 73, 74, 75, 76, 77, 78, 79, 80, 81, 82, 83, 84, 85] rfl (by decide +kernel)
set_option maxRecDepth 20000 in
theorem gX7_freshProducts_X5_findAll : GoodIn wsX7_freshProducts (wsV RX7 275 RX5 yX5_findAll wsX5_findAll) := goodIn_app (goodIn_r _ [4, 5, 6, 7] rfl (by decide +kernel)) ggX7_freshProducts_X5_findAll
theorem dX7_freshProducts_0 : decode cX7_freshProducts 0 = .ok (.aload_n 0, 1) := by decide +kernel
theorem dX7_freshProducts_1 : decode cX7_freshProducts 1 = .ok (.getfield 269, 3) := by decide +kernel
theorem dX7_freshProducts_4 : decode cX7_freshProducts 4 = .ok (.ifCond .ne 19, 3) := by decide +kernel
theorem dX7_freshProducts_7 : decode cX7_freshProducts 7 = .ok (.aload_n 0, 1) := by decide +kernel
theorem dX7_freshProducts_8 : decode cX7_freshProducts 8 = .ok (.getfield 56, 3) := by decide +kernel
theorem dX7_freshProducts_11 : decode cX7_freshProducts 11 = .ok (.aload_n 0, 1) := by decide +kernel
theorem dX7_freshProducts_12 : decode cX7_freshProducts 12 = .ok (.getfield 26, 3) := by decide +kernel
theorem dX7_freshProducts_15 : decode cX7_freshProducts 15 = .ok (.invokevirtual 275, 3) := by decide +kernel
theorem dX7_freshProducts_18 : decode cX7_freshProducts 18 = .ok (.aload_n 0, 1) := by decide +kernel
theorem dX7_freshProducts_19 : decode cX7_freshProducts 19 = .ok (.iconst 1, 1) := by decide +kernel
theorem dX7_freshProducts_20 : decode cX7_freshProducts 20 = .ok (.putfield 269, 3) := by decide +kernel
theorem dX7_freshProducts_23 : decode cX7_freshProducts 23 = .ok (.aload_n 0, 1) := by decide +kernel
theorem dX7_freshProducts_24 : decode cX7_freshProducts 24 = .ok (.getfield 56, 3) := by decide +kernel
theorem dX7_freshProducts_27 : decode cX7_freshProducts 27 = .ok (.areturn, 1) := by decide +kernel
