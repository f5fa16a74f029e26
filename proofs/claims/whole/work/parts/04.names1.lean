set_option maxRecDepth 20000 in
theorem ggX0_init_X1_init : GoodIn wsX0_init wsX1_init := goodIn_r _ [13, 14, 2, 3, 8, 15, 16, 17, 18, 19, 20, 21, 22, 23, 24, 25] rfl (by decide +kernel)
set_option maxRecDepth 20000 in
theorem gX0_init_X1_init_n11 : GoodIn wsX0_init (wsX1_init) := ggX0_init_X1_init
theorem dX0_init_0 : decode cX0_init 0 = .ok (.aload_n 0, 1) := by decide +kernel
theorem dX0_init_1 : decode cX0_init 1 = .ok (.invokespecial 3, 3) := by decide +kernel
theorem dX0_init_4 : decode cX0_init 4 = .ok (.aload_n 0, 1) := by decide +kernel
theorem dX0_init_5 : decode cX0_init 5 = .ok (.new 9, 3) := by decide +kernel
theorem dX0_init_8 : decode cX0_init 8 = .ok (.dup, 1) := by decide +kernel
theorem dX0_init_9 : decode cX0_init 9 = .ok (.invokespecial 11, 3) := by decide +kernel
theorem dX0_init_12 : decode cX0_init 12 = .ok (.putfield 12, 3) := by decide +kernel
theorem dX0_init_15 : decode cX0_init 15 = .ok (.aload_n 0, 1) := by decide +kernel
theorem dX0_init_16 : decode cX0_init 16 = .ok (.sipush 400, 3) := by decide +kernel
theorem dX0_init_19 : decode cX0_init 19 = .ok (.newarray .int, 2) := by decide +kernel
theorem dX0_init_21 : decode cX0_init 21 = .ok (.putfield 18, 3) := by decide +kernel
theorem dX0_init_24 : decode cX0_init 24 = .ok (.aload_n 0, 1) := by decide +kernel
theorem dX0_init_25 : decode cX0_init 25 = .ok (.bipush 9, 2) := by decide +kernel
theorem dX0_init_27 : decode cX0_init 27 = .ok (.newarray .int, 2) := by decide +kernel
theorem dX0_init_29 : decode cX0_init 29 = .ok (.putfield 22, 3) := by decide +kernel
theorem dX0_init_32 : decode cX0_init 32 = .ok (.aload_n 0, 1) := by decide +kernel
theorem dX0_init_33 : decode cX0_init 33 = .ok (.iconst 4, 1) := by decide +kernel
theorem dX0_init_34 : decode cX0_init 34 = .ok (.newarray .int, 2) := by decide +kernel
theorem dX0_init_36 : decode cX0_init 36 = .ok (.putfield 25, 3) := by decide +kernel
theorem dX0_init_39 : decode cX0_init 39 = .ok (.return_, 1) := by decide +kernel
theorem dX0_codeWith_0 : decode cX0_codeWith 0 = .ok (.iconst 4, 1) := by decide +kernel
theorem dX0_codeWith_1 : decode cX0_codeWith 1 = .ok (.iload_n 0, 1) := by decide +kernel
theorem dX0_codeWith_2 : decode cX0_codeWith 2 = .ok (.imul, 1) := by decide +kernel
theorem dX0_codeWith_3 : decode cX0_codeWith 3 = .ok (.iload_n 1, 1) := by decide +kernel
theorem dX0_codeWith_4 : decode cX0_codeWith 4 = .ok (.iadd, 1) := by decide +kernel
theorem dX0_codeWith_5 : decode cX0_codeWith 5 = .ok (.iconst 1, 1) := by decide +kernel
theorem dX0_codeWith_6 : decode cX0_codeWith 6 = .ok (.isub, 1) := by decide +kernel
theorem dX0_codeWith_7 : decode cX0_codeWith 7 = .ok (.ireturn, 1) := by decide +kernel
set_option maxRecDepth 20000 in
theorem ggX0_findAll_X1_layOut : GoodIn wsX0_findAll wsX1_layOut := goodIn_r _ [16, 17, 18, 19, 20, 21, 22, 23, 15, 24, 25, 26, 27, 28, 29, 30, 31, 32, 33, 87, 88, 89, 90, 91, 92, 82, 83, 84, 85, 86] rfl (by decide +kernel)
set_option maxRecDepth 20000 in
theorem gX0_findAll_X1_layOut : GoodIn wsX0_findAll (wsV RX0 38 RX1 yX1_layOut wsX1_layOut) := goodIn_app (goodIn_r _ [12, 13, 14, 15] rfl (by decide +kernel)) ggX0_findAll_X1_layOut
set_option maxRecDepth 20000 in
theorem ggX0_findAll_X4_isMissing : GoodIn wsX0_findAll wsX4_isMissing := goodIn_r _ [38, 39, 82, 83, 84, 85, 86] rfl (by decide +kernel)
set_option maxRecDepth 20000 in
theorem gX0_findAll_X4_isMissing : GoodIn wsX0_findAll (wsV RX0 51 RX4 yX4_isMissing wsX4_isMissing) := goodIn_app (goodIn_r _ [34, 35, 36, 37] rfl (by decide +kernel)) ggX0_findAll_X4_isMissing
set_option maxRecDepth 20000 in
theorem ggX0_findAll_X4_contentSum : GoodIn wsX0_findAll wsX4_contentSum := goodIn_r _ [43, 44, 82, 83, 84, 85, 86] rfl (by decide +kernel)
set_option maxRecDepth 20000 in
theorem gX0_findAll_X4_contentSum : GoodIn wsX0_findAll (wsV RX0 55 RX4 yX4_contentSum wsX4_contentSum) := goodIn_app (goodIn_r _ [40, 41, 42, 37] rfl (by decide +kernel)) ggX0_findAll_X4_contentSum
set_option maxRecDepth 20000 in
theorem ggX0_findAll_X0_fillFrom : GoodIn wsX0_findAll wsX0_fillFrom := goodIn_r _ [49, 4, 11, 50, 6, 51, 52, 53, 48, 54, 1, 55, 56, 57, 58, 59, 60, 61, 3, 62, 63, 64, 65, 66, 67, 68, 69, 70, 71, 72, 73, 74, 75, 45, 46, 47, 76, 77, 78, 79, 80, 81, 87, 88, 89, 90, 91, 92] rfl (by decide +kernel)
set_option maxRecDepth 20000 in
theorem gX0_findAll_X0_fillFrom : GoodIn wsX0_findAll (wsV RX0 60 RX0 yX0_fillFrom wsX0_fillFrom) := goodIn_app (goodIn_r _ [45, 46, 47, 48] rfl (by decide +kernel)) ggX0_findAll_X0_fillFrom
theorem dX0_findAll_0 : decode cX0_findAll 0 = .ok (.aload_n 0, 1) := by decide +kernel
theorem dX0_findAll_1 : decode cX0_findAll 1 = .ok (.iconst 0, 1) := by decide +kernel
theorem dX0_findAll_2 : decode cX0_findAll 2 = .ok (.putfield 28, 3) := by decide +kernel
theorem dX0_findAll_5 : decode cX0_findAll 5 = .ok (.aload_n 0, 1) := by decide +kernel
theorem dX0_findAll_6 : decode cX0_findAll 6 = .ok (.aload_n 1, 1) := by decide +kernel
theorem dX0_findAll_7 : decode cX0_findAll 7 = .ok (.getfield 32, 3) := by decide +kernel
theorem dX0_findAll_10 : decode cX0_findAll 10 = .ok (.putfield 37, 3) := by decide +kernel
theorem dX0_findAll_13 : decode cX0_findAll 13 = .ok (.aload_n 0, 1) := by decide +kernel
theorem dX0_findAll_14 : decode cX0_findAll 14 = .ok (.getfield 12, 3) := by decide +kernel
theorem dX0_findAll_17 : decode cX0_findAll 17 = .ok (.aload_n 1, 1) := by decide +kernel
theorem dX0_findAll_18 : decode cX0_findAll 18 = .ok (.invokevirtual 38, 3) := by decide +kernel
theorem dX0_findAll_21 : decode cX0_findAll 21 = .ok (.aload_n 1, 1) := by decide +kernel
theorem dX0_findAll_22 : decode cX0_findAll 22 = .ok (.getfield 42, 3) := by decide +kernel
theorem dX0_findAll_25 : decode cX0_findAll 25 = .ok (.iconst 0, 1) := by decide +kernel
theorem dX0_findAll_26 : decode cX0_findAll 26 = .ok (.aload_n 0, 1) := by decide +kernel
theorem dX0_findAll_27 : decode cX0_findAll 27 = .ok (.getfield 25, 3) := by decide +kernel
theorem dX0_findAll_30 : decode cX0_findAll 30 = .ok (.iconst 0, 1) := by decide +kernel
theorem dX0_findAll_31 : decode cX0_findAll 31 = .ok (.iconst 4, 1) := by decide +kernel
theorem dX0_findAll_32 : decode cX0_findAll 32 = .ok (.invokestatic 45, 3) := by decide +kernel
theorem dX0_findAll_35 : decode cX0_findAll 35 = .ok (.aload_n 1, 1) := by decide +kernel
theorem dX0_findAll_36 : decode cX0_findAll 36 = .ok (.invokevirtual 51, 3) := by decide +kernel
theorem dX0_findAll_39 : decode cX0_findAll 39 = .ok (.ifCond .ne 23, 3) := by decide +kernel
theorem dX0_findAll_42 : decode cX0_findAll 42 = .ok (.aload_n 1, 1) := by decide +kernel
theorem dX0_findAll_43 : decode cX0_findAll 43 = .ok (.invokevirtual 55, 3) := by decide +kernel
theorem dX0_findAll_46 : decode cX0_findAll 46 = .ok (.aload_n 0, 1) := by decide +kernel
theorem dX0_findAll_47 : decode cX0_findAll 47 = .ok (.getfield 12, 3) := by decide +kernel
theorem dX0_findAll_50 : decode cX0_findAll 50 = .ok (.getfield 59, 3) := by decide +kernel
theorem dX0_findAll_53 : decode cX0_findAll 53 = .ok (.if_icmp .ne 9, 3) := by decide +kernel
theorem dX0_findAll_56 : decode cX0_findAll 56 = .ok (.aload_n 0, 1) := by decide +kernel
theorem dX0_findAll_57 : decode cX0_findAll 57 = .ok (.iconst 0, 1) := by decide +kernel
theorem dX0_findAll_58 : decode cX0_findAll 58 = .ok (.iconst 0, 1) := by decide +kernel
theorem dX0_findAll_59 : decode cX0_findAll 59 = .ok (.invokevirtual 60, 3) := by decide +kernel
theorem dX0_findAll_62 : decode cX0_findAll 62 = .ok (.return_, 1) := by decide +kernel
set_option maxRecDepth 20000 in
theorem ggX0_fillFrom_X0_keep : GoodIn wsX0_fillFrom wsX0_keep := goodIn_r _ [9, 10, 11, 36, 37, 38, 39, 40, 41] rfl (by decide +kernel)
set_option maxRecDepth 20000 in
theorem gX0_fillFrom_X0_keep : GoodIn wsX0_fillFrom (wsV RX0 64 RX0 yX0_keep wsX0_keep) := goodIn_app (goodIn_r _ [5, 6, 7, 8] rfl (by decide +kernel)) ggX0_fillFrom_X0_keep
set_option maxRecDepth 20000 in
theorem ggX0_fillFrom_X0_fits : GoodIn wsX0_fillFrom wsX0_fits := goodIn_r _ [15, 3, 1, 16, 17, 18, 19, 20, 8, 21, 22, 23, 24, 25, 26, 27, 28, 29, 36, 37, 38, 39, 40, 41, 42, 43, 44, 45, 46, 47] rfl (by decide +kernel)
set_option maxRecDepth 20000 in
theorem gX0_fillFrom_X0_fits : GoodIn wsX0_fillFrom (wsV RX0 68 RX0 yX0_fits wsX0_fits) := goodIn_app (goodIn_r _ [12, 13, 14, 8] rfl (by decide +kernel)) ggX0_fillFrom_X0_fits
set_option maxRecDepth 20000 in
theorem ggX0_fillFrom_X0_codeWith : GoodIn wsX0_fillFrom wsX0_codeWith := goodIn_r _ [32] rfl (by decide +kernel)
set_option maxRecDepth 20000 in
theorem gX0_fillFrom_X0_codeWith : GoodIn wsX0_fillFrom (va_wsS RX0 72 yX0_codeWith wsX0_codeWith) := goodIn_app (goodIn_r _ [30, 31, 8] rfl (by decide +kernel)) ggX0_fillFrom_X0_codeWith
set_option maxRecDepth 20000 in
theorem ggX0_fillFrom_X0_fillFrom : GoodIn wsX0_fillFrom wsX0_fillFrom := goodIn_r _ [0, 1, 2, 3, 4, 5, 6, 7, 8, 9, 10, 11, 12, 13, 14, 15, 16, 17, 18, 19, 20, 21, 22, 23, 24, 25, 26, 27, 28, 29, 30, 31, 32, 33, 34, 35, 36, 37, 38, 39, 40, 41, 42, 43, 44, 45, 46, 47] rfl (by decide +kernel)
set_option maxRecDepth 20000 in
theorem gX0_fillFrom_X0_fillFrom : GoodIn wsX0_fillFrom (wsV RX0 60 RX0 yX0_fillFrom wsX0_fillFrom) := goodIn_app (goodIn_r _ [33, 34, 35, 8] rfl (by decide +kernel)) ggX0_fillFrom_X0_fillFrom
theorem dX0_fillFrom_0 : decode cX0_fillFrom 0 = .ok (.iload_n 1, 1) := by decide +kernel
theorem dX0_fillFrom_1 : decode cX0_fillFrom 1 = .ok (.aload_n 0, 1) := by decide +kernel
theorem dX0_fillFrom_2 : decode cX0_fillFrom 2 = .ok (.getfield 12, 3) := by decide +kernel
theorem dX0_fillFrom_5 : decode cX0_fillFrom 5 = .ok (.getfield 59, 3) := by decide +kernel
theorem dX0_fillFrom_8 : decode cX0_fillFrom 8 = .ok (.if_icmp .ge 9, 3) := by decide +kernel
theorem dX0_fillFrom_11 : decode cX0_fillFrom 11 = .ok (.iload_n 1, 1) := by decide +kernel
theorem dX0_fillFrom_12 : decode cX0_fillFrom 12 = .ok (.bipush 9, 2) := by decide +kernel
theorem dX0_fillFrom_14 : decode cX0_fillFrom 14 = .ok (.if_icmp .lt 9, 3) := by decide +kernel
theorem dX0_fillFrom_17 : decode cX0_fillFrom 17 = .ok (.aload_n 0, 1) := by decide +kernel
theorem dX0_fillFrom_18 : decode cX0_fillFrom 18 = .ok (.iload_n 2, 1) := by decide +kernel
theorem dX0_fillFrom_19 : decode cX0_fillFrom 19 = .ok (.invokevirtual 64, 3) := by decide +kernel
theorem dX0_fillFrom_22 : decode cX0_fillFrom 22 = .ok (.return_, 1) := by decide +kernel
theorem dX0_fillFrom_23 : decode cX0_fillFrom 23 = .ok (.iconst 1, 1) := by decide +kernel
theorem dX0_fillFrom_24 : decode cX0_fillFrom 24 = .ok (.istore_n 3, 1) := by decide +kernel
theorem dX0_fillFrom_25 : decode cX0_fillFrom 25 = .ok (.iload_n 3, 1) := by decide +kernel
theorem dX0_fillFrom_26 : decode cX0_fillFrom 26 = .ok (.iconst 4, 1) := by decide +kernel
theorem dX0_fillFrom_27 : decode cX0_fillFrom 27 = .ok (.if_icmp .gt 71, 3) := by decide +kernel
theorem dX0_fillFrom_30 : decode cX0_fillFrom 30 = .ok (.aload_n 0, 1) := by decide +kernel
theorem dX0_fillFrom_31 : decode cX0_fillFrom 31 = .ok (.getfield 22, 3) := by decide +kernel
theorem dX0_fillFrom_34 : decode cX0_fillFrom 34 = .ok (.iload_n 1, 1) := by decide +kernel
theorem dX0_fillFrom_35 : decode cX0_fillFrom 35 = .ok (.iload_n 3, 1) := by decide +kernel
theorem dX0_fillFrom_36 : decode cX0_fillFrom 36 = .ok (.iastore, 1) := by decide +kernel
theorem dX0_fillFrom_37 : decode cX0_fillFrom 37 = .ok (.aload_n 0, 1) := by decide +kernel
theorem dX0_fillFrom_38 : decode cX0_fillFrom 38 = .ok (.getfield 25, 3) := by decide +kernel
theorem dX0_fillFrom_41 : decode cX0_fillFrom 41 = .ok (.iload_n 3, 1) := by decide +kernel
theorem dX0_fillFrom_42 : decode cX0_fillFrom 42 = .ok (.iconst 1, 1) := by decide +kernel
theorem dX0_fillFrom_43 : decode cX0_fillFrom 43 = .ok (.isub, 1) := by decide +kernel
theorem dX0_fillFrom_44 : decode cX0_fillFrom 44 = .ok (.iaload, 1) := by decide +kernel
theorem dX0_fillFrom_45 : decode cX0_fillFrom 45 = .ok (.ifCond .le 47, 3) := by decide +kernel
theorem dX0_fillFrom_48 : decode cX0_fillFrom 48 = .ok (.aload_n 0, 1) := by decide +kernel
theorem dX0_fillFrom_49 : decode cX0_fillFrom 49 = .ok (.iload_n 1, 1) := by decide +kernel
theorem dX0_fillFrom_50 : decode cX0_fillFrom 50 = .ok (.invokevirtual 68, 3) := by decide +kernel
theorem dX0_fillFrom_53 : decode cX0_fillFrom 53 = .ok (.ifCond .eq 39, 3) := by decide +kernel
theorem dX0_fillFrom_56 : decode cX0_fillFrom 56 = .ok (.aload_n 0, 1) := by decide +kernel
theorem dX0_fillFrom_57 : decode cX0_fillFrom 57 = .ok (.getfield 25, 3) := by decide +kernel
theorem dX0_fillFrom_60 : decode cX0_fillFrom 60 = .ok (.iload_n 3, 1) := by decide +kernel
theorem dX0_fillFrom_61 : decode cX0_fillFrom 61 = .ok (.iconst 1, 1) := by decide +kernel
theorem dX0_fillFrom_62 : decode cX0_fillFrom 62 = .ok (.isub, 1) := by decide +kernel
theorem dX0_fillFrom_63 : decode cX0_fillFrom 63 = .ok (.dup2, 1) := by decide +kernel
theorem dX0_fillFrom_64 : decode cX0_fillFrom 64 = .ok (.iaload, 1) := by decide +kernel
theorem dX0_fillFrom_65 : decode cX0_fillFrom 65 = .ok (.iconst 1, 1) := by decide +kernel
theorem dX0_fillFrom_66 : decode cX0_fillFrom 66 = .ok (.isub, 1) := by decide +kernel
theorem dX0_fillFrom_67 : decode cX0_fillFrom 67 = .ok (.iastore, 1) := by decide +kernel
theorem dX0_fillFrom_68 : decode cX0_fillFrom 68 = .ok (.aload_n 0, 1) := by decide +kernel
theorem dX0_fillFrom_69 : decode cX0_fillFrom 69 = .ok (.iload_n 1, 1) := by decide +kernel
theorem dX0_fillFrom_70 : decode cX0_fillFrom 70 = .ok (.iconst 1, 1) := by decide +kernel
theorem dX0_fillFrom_71 : decode cX0_fillFrom 71 = .ok (.iadd, 1) := by decide +kernel
theorem dX0_fillFrom_72 : decode cX0_fillFrom 72 = .ok (.iload_n 2, 1) := by decide +kernel
theorem dX0_fillFrom_73 : decode cX0_fillFrom 73 = .ok (.iload_n 3, 1) := by decide +kernel
theorem dX0_fillFrom_74 : decode cX0_fillFrom 74 = .ok (.invokestatic 72, 3) := by decide +kernel
theorem dX0_fillFrom_77 : decode cX0_fillFrom 77 = .ok (.invokevirtual 60, 3) := by decide +kernel
theorem dX0_fillFrom_80 : decode cX0_fillFrom 80 = .ok (.aload_n 0, 1) := by decide +kernel
theorem dX0_fillFrom_81 : decode cX0_fillFrom 81 = .ok (.getfield 25, 3) := by decide +kernel
theorem dX0_fillFrom_84 : decode cX0_fillFrom 84 = .ok (.iload_n 3, 1) := by decide +kernel
theorem dX0_fillFrom_85 : decode cX0_fillFrom 85 = .ok (.iconst 1, 1) := by decide +kernel
theorem dX0_fillFrom_86 : decode cX0_fillFrom 86 = .ok (.isub, 1) := by decide +kernel
theorem dX0_fillFrom_87 : decode cX0_fillFrom 87 = .ok (.dup2, 1) := by decide +kernel
theorem dX0_fillFrom_88 : decode cX0_fillFrom 88 = .ok (.iaload, 1) := by decide +kernel
theorem dX0_fillFrom_89 : decode cX0_fillFrom 89 = .ok (.iconst 1, 1) := by decide +kernel
theorem dX0_fillFrom_90 : decode cX0_fillFrom 90 = .ok (.iadd, 1) := by decide +kernel
theorem dX0_fillFrom_91 : decode cX0_fillFrom 91 = .ok (.iastore, 1) := by decide +kernel
theorem dX0_fillFrom_92 : decode cX0_fillFrom 92 = .ok (.iinc 3 1, 3) := by decide +kernel
theorem dX0_fillFrom_95 : decode cX0_fillFrom 95 = .ok (.goto (-70), 3) := by decide +kernel
theorem dX0_fillFrom_98 : decode cX0_fillFrom 98 = .ok (.return_, 1) := by decide +kernel
theorem dX0_keep_0 : decode cX0_keep 0 = .ok (.aload_n 0, 1) := by decide +kernel
theorem dX0_keep_1 : decode cX0_keep 1 = .ok (.getfield 28, 3) := by decide +kernel
theorem dX0_keep_4 : decode cX0_keep 4 = .ok (.sipush 400, 3) := by decide +kernel
theorem dX0_keep_7 : decode cX0_keep 7 = .ok (.if_icmp .ge 23, 3) := by decide +kernel
theorem dX0_keep_10 : decode cX0_keep 10 = .ok (.aload_n 0, 1) := by decide +kernel
theorem dX0_keep_11 : decode cX0_keep 11 = .ok (.getfield 18, 3) := by decide +kernel
theorem dX0_keep_14 : decode cX0_keep 14 = .ok (.aload_n 0, 1) := by decide +kernel
theorem dX0_keep_15 : decode cX0_keep 15 = .ok (.getfield 28, 3) := by decide +kernel
theorem dX0_keep_18 : decode cX0_keep 18 = .ok (.iload_n 1, 1) := by decide +kernel
theorem dX0_keep_19 : decode cX0_keep 19 = .ok (.iastore, 1) := by decide +kernel
theorem dX0_keep_20 : decode cX0_keep 20 = .ok (.aload_n 0, 1) := by decide +kernel
theorem dX0_keep_21 : decode cX0_keep 21 = .ok (.dup, 1) := by decide +kernel
theorem dX0_keep_22 : decode cX0_keep 22 = .ok (.getfield 28, 3) := by decide +kernel
theorem dX0_keep_25 : decode cX0_keep 25 = .ok (.iconst 1, 1) := by decide +kernel
theorem dX0_keep_26 : decode cX0_keep 26 = .ok (.iadd, 1) := by decide +kernel
theorem dX0_keep_27 : decode cX0_keep 27 = .ok (.putfield 28, 3) := by decide +kernel
theorem dX0_keep_30 : decode cX0_keep 30 = .ok (.return_, 1) := by decide +kernel
theorem dX0_hasFilling_0 : decode cX0_hasFilling 0 = .ok (.iload_n 1, 1) := by decide +kernel
theorem dX0_hasFilling_1 : decode cX0_hasFilling 1 = .ok (.ifCond .lt 15, 3) := by decide +kernel
theorem dX0_hasFilling_4 : decode cX0_hasFilling 4 = .ok (.iload_n 1, 1) := by decide +kernel
theorem dX0_hasFilling_5 : decode cX0_hasFilling 5 = .ok (.aload_n 0, 1) := by decide +kernel
theorem dX0_hasFilling_6 : decode cX0_hasFilling 6 = .ok (.getfield 28, 3) := by decide +kernel
theorem dX0_hasFilling_9 : decode cX0_hasFilling 9 = .ok (.if_icmp .ge 7, 3) := by decide +kernel
theorem dX0_hasFilling_12 : decode cX0_hasFilling 12 = .ok (.iconst 1, 1) := by decide +kernel
theorem dX0_hasFilling_13 : decode cX0_hasFilling 13 = .ok (.goto 4, 3) := by decide +kernel
theorem dX0_hasFilling_16 : decode cX0_hasFilling 16 = .ok (.iconst 0, 1) := by decide +kernel
theorem dX0_hasFilling_17 : decode cX0_hasFilling 17 = .ok (.ireturn, 1) := by decide +kernel
theorem dX0_numberIn_0 : decode cX0_numberIn 0 = .ok (.iconst 2, 1) := by decide +kernel
theorem dX0_numberIn_1 : decode cX0_numberIn 1 = .ok (.aload_n 0, 1) := by decide +kernel
theorem dX0_numberIn_2 : decode cX0_numberIn 2 = .ok (.getfield 12, 3) := by decide +kernel
theorem dX0_numberIn_5 : decode cX0_numberIn 5 = .ok (.getfield 59, 3) := by decide +kernel
theorem dX0_numberIn_8 : decode cX0_numberIn 8 = .ok (.iconst 1, 1) := by decide +kernel
theorem dX0_numberIn_9 : decode cX0_numberIn 9 = .ok (.isub, 1) := by decide +kernel
theorem dX0_numberIn_10 : decode cX0_numberIn 10 = .ok (.iload_n 2, 1) := by decide +kernel
theorem dX0_numberIn_11 : decode cX0_numberIn 11 = .ok (.isub, 1) := by decide +kernel
theorem dX0_numberIn_12 : decode cX0_numberIn 12 = .ok (.imul, 1) := by decide +kernel
theorem dX0_numberIn_13 : decode cX0_numberIn 13 = .ok (.istore_n 3, 1) := by decide +kernel
theorem dX0_numberIn_14 : decode cX0_numberIn 14 = .ok (.iconst 1, 1) := by decide +kernel
theorem dX0_numberIn_15 : decode cX0_numberIn 15 = .ok (.aload_n 0, 1) := by decide +kernel
theorem dX0_numberIn_16 : decode cX0_numberIn 16 = .ok (.getfield 18, 3) := by decide +kernel
theorem dX0_numberIn_19 : decode cX0_numberIn 19 = .ok (.iload_n 1, 1) := by decide +kernel
theorem dX0_numberIn_20 : decode cX0_numberIn 20 = .ok (.iaload, 1) := by decide +kernel
theorem dX0_numberIn_21 : decode cX0_numberIn 21 = .ok (.iload_n 3, 1) := by decide +kernel
theorem dX0_numberIn_22 : decode cX0_numberIn 22 = .ok (.ishr, 1) := by decide +kernel
theorem dX0_numberIn_23 : decode cX0_numberIn 23 = .ok (.iconst 3, 1) := by decide +kernel
theorem dX0_numberIn_24 : decode cX0_numberIn 24 = .ok (.iand, 1) := by decide +kernel
theorem dX0_numberIn_25 : decode cX0_numberIn 25 = .ok (.iadd, 1) := by decide +kernel
theorem dX0_numberIn_26 : decode cX0_numberIn 26 = .ok (.ireturn, 1) := by decide +kernel
set_option maxRecDepth 20000 in
theorem ggX0_boxesUpTo_X0_numberIn : GoodIn wsX0_boxesUpTo wsX0_numberIn := goodIn_r _ [8, 1, 2, 9, 10, 11, 12, 13, 14, 15, 16, 17, 18, 19, 20, 21] rfl (by decide +kernel)
set_option maxRecDepth 20000 in
theorem gX0_boxesUpTo_X0_numberIn : GoodIn wsX0_boxesUpTo (wsV RX0 79 RX0 yX0_numberIn wsX0_numberIn) := goodIn_app (goodIn_r _ [4, 5, 6, 7] rfl (by decide +kernel)) ggX0_boxesUpTo_X0_numberIn
theorem dX0_boxesUpTo_0 : decode cX0_boxesUpTo 0 = .ok (.iconst 0, 1) := by decide +kernel
theorem dX0_boxesUpTo_1 : decode cX0_boxesUpTo 1 = .ok (.istore 4, 2) := by decide +kernel
theorem dX0_boxesUpTo_3 : decode cX0_boxesUpTo 3 = .ok (.iconst 0, 1) := by decide +kernel
theorem dX0_boxesUpTo_4 : decode cX0_boxesUpTo 4 = .ok (.istore 5, 2) := by decide +kernel
theorem dX0_boxesUpTo_6 : decode cX0_boxesUpTo 6 = .ok (.iload 5, 2) := by decide +kernel
theorem dX0_boxesUpTo_8 : decode cX0_boxesUpTo 8 = .ok (.aload_n 0, 1) := by decide +kernel
theorem dX0_boxesUpTo_9 : decode cX0_boxesUpTo 9 = .ok (.getfield 12, 3) := by decide +kernel
theorem dX0_boxesUpTo_12 : decode cX0_boxesUpTo 12 = .ok (.getfield 59, 3) := by decide +kernel
theorem dX0_boxesUpTo_15 : decode cX0_boxesUpTo 15 = .ok (.if_icmp .ge 37, 3) := by decide +kernel
theorem dX0_boxesUpTo_18 : decode cX0_boxesUpTo 18 = .ok (.aload_n 0, 1) := by decide +kernel
theorem dX0_boxesUpTo_19 : decode cX0_boxesUpTo 19 = .ok (.getfield 12, 3) := by decide +kernel
theorem dX0_boxesUpTo_22 : decode cX0_boxesUpTo 22 = .ok (.getfield 76, 3) := by decide +kernel
theorem dX0_boxesUpTo_25 : decode cX0_boxesUpTo 25 = .ok (.iload 5, 2) := by decide +kernel
theorem dX0_boxesUpTo_27 : decode cX0_boxesUpTo 27 = .ok (.iaload, 1) := by decide +kernel
theorem dX0_boxesUpTo_28 : decode cX0_boxesUpTo 28 = .ok (.iload_n 2, 1) := by decide +kernel
theorem dX0_boxesUpTo_29 : decode cX0_boxesUpTo 29 = .ok (.if_icmp .ge 17, 3) := by decide +kernel
theorem dX0_boxesUpTo_32 : decode cX0_boxesUpTo 32 = .ok (.aload_n 0, 1) := by decide +kernel
theorem dX0_boxesUpTo_33 : decode cX0_boxesUpTo 33 = .ok (.iload_n 1, 1) := by decide +kernel
theorem dX0_boxesUpTo_34 : decode cX0_boxesUpTo 34 = .ok (.iload 5, 2) := by decide +kernel
theorem dX0_boxesUpTo_36 : decode cX0_boxesUpTo 36 = .ok (.invokevirtual 79, 3) := by decide +kernel
theorem dX0_boxesUpTo_39 : decode cX0_boxesUpTo 39 = .ok (.iload_n 3, 1) := by decide +kernel
theorem dX0_boxesUpTo_40 : decode cX0_boxesUpTo 40 = .ok (.if_icmp .gt 6, 3) := by decide +kernel
theorem dX0_boxesUpTo_43 : decode cX0_boxesUpTo 43 = .ok (.iinc 4 1, 3) := by decide +kernel
theorem dX0_boxesUpTo_46 : decode cX0_boxesUpTo 46 = .ok (.iinc 5 1, 3) := by decide +kernel
theorem dX0_boxesUpTo_49 : decode cX0_boxesUpTo 49 = .ok (.goto (-43), 3) := by decide +kernel
theorem dX0_boxesUpTo_52 : decode cX0_boxesUpTo 52 = .ok (.iload 4, 2) := by decide +kernel
theorem dX0_boxesUpTo_54 : decode cX0_boxesUpTo 54 = .ok (.ireturn, 1) := by decide +kernel
theorem dX0_indexOf_0 : decode cX0_indexOf 0 = .ok (.iconst 0, 1) := by decide +kernel
theorem dX0_indexOf_1 : decode cX0_indexOf 1 = .ok (.istore_n 2, 1) := by decide +kernel
theorem dX0_indexOf_2 : decode cX0_indexOf 2 = .ok (.iload_n 2, 1) := by decide +kernel
theorem dX0_indexOf_3 : decode cX0_indexOf 3 = .ok (.aload_n 0, 1) := by decide +kernel
theorem dX0_indexOf_4 : decode cX0_indexOf 4 = .ok (.getfield 28, 3) := by decide +kernel
theorem dX0_indexOf_7 : decode cX0_indexOf 7 = .ok (.if_icmp .ge 21, 3) := by decide +kernel
theorem dX0_indexOf_10 : decode cX0_indexOf 10 = .ok (.aload_n 0, 1) := by decide +kernel
theorem dX0_indexOf_11 : decode cX0_indexOf 11 = .ok (.getfield 18, 3) := by decide +kernel
theorem dX0_indexOf_14 : decode cX0_indexOf 14 = .ok (.iload_n 2, 1) := by decide +kernel
theorem dX0_indexOf_15 : decode cX0_indexOf 15 = .ok (.iaload, 1) := by decide +kernel
theorem dX0_indexOf_16 : decode cX0_indexOf 16 = .ok (.iload_n 1, 1) := by decide +kernel
theorem dX0_indexOf_17 : decode cX0_indexOf 17 = .ok (.if_icmp .ne 5, 3) := by decide +kernel
theorem dX0_indexOf_20 : decode cX0_indexOf 20 = .ok (.iload_n 2, 1) := by decide +kernel
theorem dX0_indexOf_21 : decode cX0_indexOf 21 = .ok (.ireturn, 1) := by decide +kernel
theorem dX0_indexOf_22 : decode cX0_indexOf 22 = .ok (.iinc 2 1, 3) := by decide +kernel
theorem dX0_indexOf_25 : decode cX0_indexOf 25 = .ok (.goto (-23), 3) := by decide +kernel
theorem dX0_indexOf_28 : decode cX0_indexOf 28 = .ok (.iconst (-1), 1) := by decide +kernel
theorem dX0_indexOf_29 : decode cX0_indexOf 29 = .ok (.ireturn, 1) := by decide +kernel
theorem dX0_drawNumbers_0 : decode cX0_drawNumbers 0 = .ok (.lload_n 1, 1) := by decide +kernel
theorem dX0_drawNumbers_1 : decode cX0_drawNumbers 1 = .ok (.lstore_n 3, 1) := by decide +kernel
theorem dX0_drawNumbers_2 : decode cX0_drawNumbers 2 = .ok (.iconst 0, 1) := by decide +kernel
theorem dX0_drawNumbers_3 : decode cX0_drawNumbers 3 = .ok (.istore 5, 2) := by decide +kernel
theorem dX0_drawNumbers_5 : decode cX0_drawNumbers 5 = .ok (.iload 5, 2) := by decide +kernel
theorem dX0_drawNumbers_7 : decode cX0_drawNumbers 7 = .ok (.aload_n 0, 1) := by decide +kernel
theorem dX0_drawNumbers_8 : decode cX0_drawNumbers 8 = .ok (.getfield 12, 3) := by decide +kernel
theorem dX0_drawNumbers_11 : decode cX0_drawNumbers 11 = .ok (.getfield 59, 3) := by decide +kernel
theorem dX0_drawNumbers_14 : decode cX0_drawNumbers 14 = .ok (.if_icmp .ge 41, 3) := by decide +kernel
theorem dX0_drawNumbers_17 : decode cX0_drawNumbers 17 = .ok (.ldc2_w 82, 3) := by decide +kernel
theorem dX0_drawNumbers_20 : decode cX0_drawNumbers 20 = .ok (.lload_n 3, 1) := by decide +kernel
theorem dX0_drawNumbers_21 : decode cX0_drawNumbers 21 = .ok (.lmul, 1) := by decide +kernel
theorem dX0_drawNumbers_22 : decode cX0_drawNumbers 22 = .ok (.ldc2_w 84, 3) := by decide +kernel
theorem dX0_drawNumbers_25 : decode cX0_drawNumbers 25 = .ok (.ladd, 1) := by decide +kernel
theorem dX0_drawNumbers_26 : decode cX0_drawNumbers 26 = .ok (.ldc2_w 86, 3) := by decide +kernel
theorem dX0_drawNumbers_29 : decode cX0_drawNumbers 29 = .ok (.land, 1) := by decide +kernel
theorem dX0_drawNumbers_30 : decode cX0_drawNumbers 30 = .ok (.lstore_n 3, 1) := by decide +kernel
theorem dX0_drawNumbers_31 : decode cX0_drawNumbers 31 = .ok (.aload_n 0, 1) := by decide +kernel
theorem dX0_drawNumbers_32 : decode cX0_drawNumbers 32 = .ok (.getfield 22, 3) := by decide +kernel
theorem dX0_drawNumbers_35 : decode cX0_drawNumbers 35 = .ok (.iload 5, 2) := by decide +kernel
theorem dX0_drawNumbers_37 : decode cX0_drawNumbers 37 = .ok (.iconst 1, 1) := by decide +kernel
theorem dX0_drawNumbers_38 : decode cX0_drawNumbers 38 = .ok (.lload_n 3, 1) := by decide +kernel
theorem dX0_drawNumbers_39 : decode cX0_drawNumbers 39 = .ok (.bipush 16, 2) := by decide +kernel
theorem dX0_drawNumbers_41 : decode cX0_drawNumbers 41 = .ok (.lshr, 1) := by decide +kernel
theorem dX0_drawNumbers_42 : decode cX0_drawNumbers 42 = .ok (.ldc2_w 88, 3) := by decide +kernel
theorem dX0_drawNumbers_45 : decode cX0_drawNumbers 45 = .ok (.land, 1) := by decide +kernel
theorem dX0_drawNumbers_46 : decode cX0_drawNumbers 46 = .ok (.l2i, 1) := by decide +kernel
theorem dX0_drawNumbers_47 : decode cX0_drawNumbers 47 = .ok (.iadd, 1) := by decide +kernel
theorem dX0_drawNumbers_48 : decode cX0_drawNumbers 48 = .ok (.iastore, 1) := by decide +kernel
theorem dX0_drawNumbers_49 : decode cX0_drawNumbers 49 = .ok (.iinc 5 1, 3) := by decide +kernel
theorem dX0_drawNumbers_52 : decode cX0_drawNumbers 52 = .ok (.goto (-47), 3) := by decide +kernel
theorem dX0_drawNumbers_55 : decode cX0_drawNumbers 55 = .ok (.lload_n 3, 1) := by decide +kernel
theorem dX0_drawNumbers_56 : decode cX0_drawNumbers 56 = .ok (.lreturn, 1) := by decide +kernel
set_option maxRecDepth 20000 in
theorem ggX0_satisfiesRule_X0_fits : GoodIn wsX0_satisfiesRule wsX0_fits := goodIn_r _ [7, 8, 1, 9, 10, 11, 12, 13, 6, 14, 15, 16, 17, 18, 19, 20, 21, 22, 23, 24, 25, 26, 27, 28, 29, 30, 31, 32, 33, 34] rfl (by decide +kernel)
set_option maxRecDepth 20000 in
theorem gX0_satisfiesRule_X0_fits : GoodIn wsX0_satisfiesRule (wsV RX0 68 RX0 yX0_fits wsX0_fits) := goodIn_app (goodIn_r _ [3, 4, 5, 6] rfl (by decide +kernel)) ggX0_satisfiesRule_X0_fits
theorem dX0_satisfiesRule_0 : decode cX0_satisfiesRule 0 = .ok (.iconst 0, 1) := by decide +kernel
theorem dX0_satisfiesRule_1 : decode cX0_satisfiesRule 1 = .ok (.istore_n 1, 1) := by decide +kernel
theorem dX0_satisfiesRule_2 : decode cX0_satisfiesRule 2 = .ok (.iload_n 1, 1) := by decide +kernel
theorem dX0_satisfiesRule_3 : decode cX0_satisfiesRule 3 = .ok (.aload_n 0, 1) := by decide +kernel
theorem dX0_satisfiesRule_4 : decode cX0_satisfiesRule 4 = .ok (.getfield 12, 3) := by decide +kernel
theorem dX0_satisfiesRule_7 : decode cX0_satisfiesRule 7 = .ok (.getfield 59, 3) := by decide +kernel
theorem dX0_satisfiesRule_10 : decode cX0_satisfiesRule 10 = .ok (.if_icmp .ge 19, 3) := by decide +kernel
theorem dX0_satisfiesRule_13 : decode cX0_satisfiesRule 13 = .ok (.aload_n 0, 1) := by decide +kernel
theorem dX0_satisfiesRule_14 : decode cX0_satisfiesRule 14 = .ok (.iload_n 1, 1) := by decide +kernel
theorem dX0_satisfiesRule_15 : decode cX0_satisfiesRule 15 = .ok (.invokevirtual 68, 3) := by decide +kernel
theorem dX0_satisfiesRule_18 : decode cX0_satisfiesRule 18 = .ok (.ifCond .ne 5, 3) := by decide +kernel
theorem dX0_satisfiesRule_21 : decode cX0_satisfiesRule 21 = .ok (.iconst 0, 1) := by decide +kernel
theorem dX0_satisfiesRule_22 : decode cX0_satisfiesRule 22 = .ok (.ireturn, 1) := by decide +kernel
theorem dX0_satisfiesRule_23 : decode cX0_satisfiesRule 23 = .ok (.iinc 1 1, 3) := by decide +kernel
theorem dX0_satisfiesRule_26 : decode cX0_satisfiesRule 26 = .ok (.goto (-24), 3) := by decide +kernel
theorem dX0_satisfiesRule_29 : decode cX0_satisfiesRule 29 = .ok (.iconst 1, 1) := by decide +kernel
theorem dX0_satisfiesRule_30 : decode cX0_satisfiesRule 30 = .ok (.ireturn, 1) := by decide +kernel
set_option maxRecDepth 20000 in
theorem ggX0_hasContent_X0_timesThere : GoodIn wsX0_hasContent wsX0_timesThere := goodIn_r _ [6, 7, 8, 9, 15, 16, 17, 18, 19, 20, 21, 22, 23, 24, 25, 26] rfl (by decide +kernel)
set_option maxRecDepth 20000 in
theorem gX0_hasContent_X0_timesThere : GoodIn wsX0_hasContent (wsV RX0 90 RX0 yX0_timesThere wsX0_timesThere) := goodIn_app (goodIn_r _ [2, 3, 4, 5] rfl (by decide +kernel)) ggX0_hasContent_X0_timesThere
theorem dX0_hasContent_0 : decode cX0_hasContent 0 = .ok (.iconst 1, 1) := by decide +kernel
theorem dX0_hasContent_1 : decode cX0_hasContent 1 = .ok (.istore_n 2, 1) := by decide +kernel
theorem dX0_hasContent_2 : decode cX0_hasContent 2 = .ok (.iload_n 2, 1) := by decide +kernel
theorem dX0_hasContent_3 : decode cX0_hasContent 3 = .ok (.iconst 4, 1) := by decide +kernel
theorem dX0_hasContent_4 : decode cX0_hasContent 4 = .ok (.if_icmp .gt 27, 3) := by decide +kernel
theorem dX0_hasContent_7 : decode cX0_hasContent 7 = .ok (.aload_n 0, 1) := by decide +kernel
theorem dX0_hasContent_8 : decode cX0_hasContent 8 = .ok (.iload_n 2, 1) := by decide +kernel
theorem dX0_hasContent_9 : decode cX0_hasContent 9 = .ok (.invokevirtual 90, 3) := by decide +kernel
theorem dX0_hasContent_12 : decode cX0_hasContent 12 = .ok (.aload_n 1, 1) := by decide +kernel
theorem dX0_hasContent_13 : decode cX0_hasContent 13 = .ok (.getfield 42, 3) := by decide +kernel
theorem dX0_hasContent_16 : decode cX0_hasContent 16 = .ok (.iload_n 2, 1) := by decide +kernel
theorem dX0_hasContent_17 : decode cX0_hasContent 17 = .ok (.iconst 1, 1) := by decide +kernel
theorem dX0_hasContent_18 : decode cX0_hasContent 18 = .ok (.isub, 1) := by decide +kernel
theorem dX0_hasContent_19 : decode cX0_hasContent 19 = .ok (.iaload, 1) := by decide +kernel
theorem dX0_hasContent_20 : decode cX0_hasContent 20 = .ok (.if_icmp .eq 5, 3) := by decide +kernel
theorem dX0_hasContent_23 : decode cX0_hasContent 23 = .ok (.iconst 0, 1) := by decide +kernel
theorem dX0_hasContent_24 : decode cX0_hasContent 24 = .ok (.ireturn, 1) := by decide +kernel
theorem dX0_hasContent_25 : decode cX0_hasContent 25 = .ok (.iinc 2 1, 3) := by decide +kernel
theorem dX0_hasContent_28 : decode cX0_hasContent 28 = .ok (.goto (-26), 3) := by decide +kernel
theorem dX0_hasContent_31 : decode cX0_hasContent 31 = .ok (.iconst 1, 1) := by decide +kernel
theorem dX0_hasContent_32 : decode cX0_hasContent 32 = .ok (.ireturn, 1) := by decide +kernel
theorem dX0_timesThere_0 : decode cX0_timesThere 0 = .ok (.iconst 0, 1) := by decide +kernel
theorem dX0_timesThere_1 : decode cX0_timesThere 1 = .ok (.istore_n 2, 1) := by decide +kernel
theorem dX0_timesThere_2 : decode cX0_timesThere 2 = .ok (.iconst 0, 1) := by decide +kernel
theorem dX0_timesThere_3 : decode cX0_timesThere 3 = .ok (.istore_n 3, 1) := by decide +kernel
theorem dX0_timesThere_4 : decode cX0_timesThere 4 = .ok (.iload_n 3, 1) := by decide +kernel
theorem dX0_timesThere_5 : decode cX0_timesThere 5 = .ok (.aload_n 0, 1) := by decide +kernel
theorem dX0_timesThere_6 : decode cX0_timesThere 6 = .ok (.getfield 12, 3) := by decide +kernel
theorem dX0_timesThere_9 : decode cX0_timesThere 9 = .ok (.getfield 59, 3) := by decide +kernel
theorem dX0_timesThere_12 : decode cX0_timesThere 12 = .ok (.if_icmp .ge 22, 3) := by decide +kernel
theorem dX0_timesThere_15 : decode cX0_timesThere 15 = .ok (.aload_n 0, 1) := by decide +kernel
theorem dX0_timesThere_16 : decode cX0_timesThere 16 = .ok (.getfield 22, 3) := by decide +kernel
theorem dX0_timesThere_19 : decode cX0_timesThere 19 = .ok (.iload_n 3, 1) := by decide +kernel
theorem dX0_timesThere_20 : decode cX0_timesThere 20 = .ok (.iaload, 1) := by decide +kernel
theorem dX0_timesThere_21 : decode cX0_timesThere 21 = .ok (.iload_n 1, 1) := by decide +kernel
theorem dX0_timesThere_22 : decode cX0_timesThere 22 = .ok (.if_icmp .ne 6, 3) := by decide +kernel
theorem dX0_timesThere_25 : decode cX0_timesThere 25 = .ok (.iinc 2 1, 3) := by decide +kernel
theorem dX0_timesThere_28 : decode cX0_timesThere 28 = .ok (.iinc 3 1, 3) := by decide +kernel
theorem dX0_timesThere_31 : decode cX0_timesThere 31 = .ok (.goto (-27), 3) := by decide +kernel
theorem dX0_timesThere_34 : decode cX0_timesThere 34 = .ok (.iload_n 2, 1) := by decide +kernel
theorem dX0_timesThere_35 : decode cX0_timesThere 35 = .ok (.ireturn, 1) := by decide +kernel
set_option maxRecDepth 20000 in
theorem ggX0_fits_X0_mayStandBeside : GoodIn wsX0_fits wsX0_mayStandBeside := goodIn_r _ [9] rfl (by decide +kernel)
set_option maxRecDepth 20000 in
theorem gX0_fits_X0_mayStandBeside : GoodIn wsX0_fits (va_wsS RX0 100 yX0_mayStandBeside wsX0_mayStandBeside) := goodIn_app (goodIn_r _ [6, 7, 8] rfl (by decide +kernel)) ggX0_fits_X0_mayStandBeside
set_option maxRecDepth 20000 in
theorem ggX0_fits_X0_mayStandBelow : GoodIn wsX0_fits wsX0_mayStandBelow := goodIn_r _ [12] rfl (by decide +kernel)
set_option maxRecDepth 20000 in
theorem gX0_fits_X0_mayStandBelow : GoodIn wsX0_fits (va_wsS RX0 104 yX0_mayStandBelow wsX0_mayStandBelow) := goodIn_app (goodIn_r _ [10, 11, 8] rfl (by decide +kernel)) ggX0_fits_X0_mayStandBelow
set_option maxRecDepth 20000 in
theorem ggX0_fits_X0_keepsLattice : GoodIn wsX0_fits wsX0_keepsLattice := goodIn_r _ [16, 1, 2, 17, 18, 19, 20, 21, 22, 23, 24, 25, 26, 27, 28, 29] rfl (by decide +kernel)
set_option maxRecDepth 20000 in
theorem gX0_fits_X0_keepsLattice : GoodIn wsX0_fits (wsV RX0 107 RX0 yX0_keepsLattice wsX0_keepsLattice) := goodIn_app (goodIn_r _ [13, 14, 15, 8] rfl (by decide +kernel)) ggX0_fits_X0_keepsLattice
theorem dX0_fits_0 : decode cX0_fits 0 = .ok (.aload_n 0, 1) := by decide +kernel
theorem dX0_fits_1 : decode cX0_fits 1 = .ok (.getfield 22, 3) := by decide +kernel
theorem dX0_fits_4 : decode cX0_fits 4 = .ok (.iload_n 1, 1) := by decide +kernel
theorem dX0_fits_5 : decode cX0_fits 5 = .ok (.iaload, 1) := by decide +kernel
theorem dX0_fits_6 : decode cX0_fits 6 = .ok (.istore_n 2, 1) := by decide +kernel
theorem dX0_fits_7 : decode cX0_fits 7 = .ok (.aload_n 0, 1) := by decide +kernel
theorem dX0_fits_8 : decode cX0_fits 8 = .ok (.getfield 12, 3) := by decide +kernel
theorem dX0_fits_11 : decode cX0_fits 11 = .ok (.getfield 94, 3) := by decide +kernel
theorem dX0_fits_14 : decode cX0_fits 14 = .ok (.iload_n 1, 1) := by decide +kernel
theorem dX0_fits_15 : decode cX0_fits 15 = .ok (.iaload, 1) := by decide +kernel
theorem dX0_fits_16 : decode cX0_fits 16 = .ok (.istore_n 3, 1) := by decide +kernel
theorem dX0_fits_17 : decode cX0_fits 17 = .ok (.aload_n 0, 1) := by decide +kernel
theorem dX0_fits_18 : decode cX0_fits 18 = .ok (.getfield 12, 3) := by decide +kernel
theorem dX0_fits_21 : decode cX0_fits 21 = .ok (.getfield 97, 3) := by decide +kernel
theorem dX0_fits_24 : decode cX0_fits 24 = .ok (.iload_n 1, 1) := by decide +kernel
theorem dX0_fits_25 : decode cX0_fits 25 = .ok (.iaload, 1) := by decide +kernel
theorem dX0_fits_26 : decode cX0_fits 26 = .ok (.istore 4, 2) := by decide +kernel
theorem dX0_fits_28 : decode cX0_fits 28 = .ok (.iload_n 3, 1) := by decide +kernel
theorem dX0_fits_29 : decode cX0_fits 29 = .ok (.ifCond .lt 22, 3) := by decide +kernel
theorem dX0_fits_32 : decode cX0_fits 32 = .ok (.aload_n 0, 1) := by decide +kernel
theorem dX0_fits_33 : decode cX0_fits 33 = .ok (.getfield 37, 3) := by decide +kernel
theorem dX0_fits_36 : decode cX0_fits 36 = .ok (.aload_n 0, 1) := by decide +kernel
theorem dX0_fits_37 : decode cX0_fits 37 = .ok (.getfield 22, 3) := by decide +kernel
theorem dX0_fits_40 : decode cX0_fits 40 = .ok (.iload_n 3, 1) := by decide +kernel
theorem dX0_fits_41 : decode cX0_fits 41 = .ok (.iaload, 1) := by decide +kernel
theorem dX0_fits_42 : decode cX0_fits 42 = .ok (.iload_n 2, 1) := by decide +kernel
theorem dX0_fits_43 : decode cX0_fits 43 = .ok (.invokestatic 100, 3) := by decide +kernel
theorem dX0_fits_46 : decode cX0_fits 46 = .ok (.ifCond .ne 5, 3) := by decide +kernel
theorem dX0_fits_49 : decode cX0_fits 49 = .ok (.iconst 0, 1) := by decide +kernel
theorem dX0_fits_50 : decode cX0_fits 50 = .ok (.ireturn, 1) := by decide +kernel
theorem dX0_fits_51 : decode cX0_fits 51 = .ok (.iload 4, 2) := by decide +kernel
theorem dX0_fits_53 : decode cX0_fits 53 = .ok (.ifCond .lt 23, 3) := by decide +kernel
theorem dX0_fits_56 : decode cX0_fits 56 = .ok (.aload_n 0, 1) := by decide +kernel
theorem dX0_fits_57 : decode cX0_fits 57 = .ok (.getfield 37, 3) := by decide +kernel
theorem dX0_fits_60 : decode cX0_fits 60 = .ok (.aload_n 0, 1) := by decide +kernel
theorem dX0_fits_61 : decode cX0_fits 61 = .ok (.getfield 22, 3) := by decide +kernel
theorem dX0_fits_64 : decode cX0_fits 64 = .ok (.iload 4, 2) := by decide +kernel
theorem dX0_fits_66 : decode cX0_fits 66 = .ok (.iaload, 1) := by decide +kernel
theorem dX0_fits_67 : decode cX0_fits 67 = .ok (.iload_n 2, 1) := by decide +kernel
theorem dX0_fits_68 : decode cX0_fits 68 = .ok (.invokestatic 104, 3) := by decide +kernel
theorem dX0_fits_71 : decode cX0_fits 71 = .ok (.ifCond .ne 5, 3) := by decide +kernel
theorem dX0_fits_74 : decode cX0_fits 74 = .ok (.iconst 0, 1) := by decide +kernel
theorem dX0_fits_75 : decode cX0_fits 75 = .ok (.ireturn, 1) := by decide +kernel
theorem dX0_fits_76 : decode cX0_fits 76 = .ok (.aload_n 0, 1) := by decide +kernel
theorem dX0_fits_77 : decode cX0_fits 77 = .ok (.getfield 37, 3) := by decide +kernel
theorem dX0_fits_80 : decode cX0_fits 80 = .ok (.iconst 2, 1) := by decide +kernel
theorem dX0_fits_81 : decode cX0_fits 81 = .ok (.if_icmp .ne 11, 3) := by decide +kernel
theorem dX0_fits_84 : decode cX0_fits 84 = .ok (.aload_n 0, 1) := by decide +kernel
theorem dX0_fits_85 : decode cX0_fits 85 = .ok (.iload_n 1, 1) := by decide +kernel
theorem dX0_fits_86 : decode cX0_fits 86 = .ok (.invokevirtual 107, 3) := by decide +kernel
theorem dX0_fits_89 : decode cX0_fits 89 = .ok (.ifCond .eq 7, 3) := by decide +kernel
theorem dX0_fits_92 : decode cX0_fits 92 = .ok (.iconst 1, 1) := by decide +kernel
theorem dX0_fits_93 : decode cX0_fits 93 = .ok (.goto 4, 3) := by decide +kernel
theorem dX0_fits_96 : decode cX0_fits 96 = .ok (.iconst 0, 1) := by decide +kernel
theorem dX0_fits_97 : decode cX0_fits 97 = .ok (.ireturn, 1) := by decide +kernel
theorem dX0_mayStandBeside_0 : decode cX0_mayStandBeside 0 = .ok (.iload_n 0, 1) := by decide +kernel
theorem dX0_mayStandBeside_1 : decode cX0_mayStandBeside 1 = .ok (.lookupswitch 49 #[(3, 27), (4, 38)], 27) := by decide +kernel
theorem dX0_mayStandBeside_28 : decode cX0_mayStandBeside 28 = .ok (.iload_n 1, 1) := by decide +kernel
theorem dX0_mayStandBeside_29 : decode cX0_mayStandBeside 29 = .ok (.iload_n 2, 1) := by decide +kernel
theorem dX0_mayStandBeside_30 : decode cX0_mayStandBeside 30 = .ok (.if_icmp .ge 7, 3) := by decide +kernel
theorem dX0_mayStandBeside_33 : decode cX0_mayStandBeside 33 = .ok (.iconst 1, 1) := by decide +kernel
theorem dX0_mayStandBeside_34 : decode cX0_mayStandBeside 34 = .ok (.goto 4, 3) := by decide +kernel
theorem dX0_mayStandBeside_37 : decode cX0_mayStandBeside 37 = .ok (.iconst 0, 1) := by decide +kernel
theorem dX0_mayStandBeside_38 : decode cX0_mayStandBeside 38 = .ok (.ireturn, 1) := by decide +kernel
theorem dX0_mayStandBeside_39 : decode cX0_mayStandBeside 39 = .ok (.iload_n 1, 1) := by decide +kernel
theorem dX0_mayStandBeside_40 : decode cX0_mayStandBeside 40 = .ok (.iload_n 2, 1) := by decide +kernel
theorem dX0_mayStandBeside_41 : decode cX0_mayStandBeside 41 = .ok (.if_icmp .lt 7, 3) := by decide +kernel
theorem dX0_mayStandBeside_44 : decode cX0_mayStandBeside 44 = .ok (.iconst 1, 1) := by decide +kernel
theorem dX0_mayStandBeside_45 : decode cX0_mayStandBeside 45 = .ok (.goto 4, 3) := by decide +kernel
theorem dX0_mayStandBeside_48 : decode cX0_mayStandBeside 48 = .ok (.iconst 0, 1) := by decide +kernel
theorem dX0_mayStandBeside_49 : decode cX0_mayStandBeside 49 = .ok (.ireturn, 1) := by decide +kernel
theorem dX0_mayStandBeside_50 : decode cX0_mayStandBeside 50 = .ok (.iload_n 1, 1) := by decide +kernel
theorem dX0_mayStandBeside_51 : decode cX0_mayStandBeside 51 = .ok (.iload_n 2, 1) := by decide +kernel
theorem dX0_mayStandBeside_52 : decode cX0_mayStandBeside 52 = .ok (.if_icmp .gt 7, 3) := by decide +kernel
theorem dX0_mayStandBeside_55 : decode cX0_mayStandBeside 55 = .ok (.iconst 1, 1) := by decide +kernel
theorem dX0_mayStandBeside_56 : decode cX0_mayStandBeside 56 = .ok (.goto 4, 3) := by decide +kernel
theorem dX0_mayStandBeside_59 : decode cX0_mayStandBeside 59 = .ok (.iconst 0, 1) := by decide +kernel
theorem dX0_mayStandBeside_60 : decode cX0_mayStandBeside 60 = .ok (.ireturn, 1) := by decide +kernel
theorem dX0_mayStandBelow_0 : decode cX0_mayStandBelow 0 = .ok (.iload_n 0, 1) := by decide +kernel
theorem dX0_mayStandBelow_1 : decode cX0_mayStandBelow 1 = .ok (.tableswitch 59 0 4 #[35, 59, 59, 37, 48], 35) := by decide +kernel
theorem dX0_mayStandBelow_36 : decode cX0_mayStandBelow 36 = .ok (.iconst 1, 1) := by decide +kernel
theorem dX0_mayStandBelow_37 : decode cX0_mayStandBelow 37 = .ok (.ireturn, 1) := by decide +kernel
theorem dX0_mayStandBelow_38 : decode cX0_mayStandBelow 38 = .ok (.iload_n 1, 1) := by decide +kernel
theorem dX0_mayStandBelow_39 : decode cX0_mayStandBelow 39 = .ok (.iload_n 2, 1) := by decide +kernel
theorem dX0_mayStandBelow_40 : decode cX0_mayStandBelow 40 = .ok (.if_icmp .gt 7, 3) := by decide +kernel
theorem dX0_mayStandBelow_43 : decode cX0_mayStandBelow 43 = .ok (.iconst 1, 1) := by decide +kernel
theorem dX0_mayStandBelow_44 : decode cX0_mayStandBelow 44 = .ok (.goto 4, 3) := by decide +kernel
theorem dX0_mayStandBelow_47 : decode cX0_mayStandBelow 47 = .ok (.iconst 0, 1) := by decide +kernel
theorem dX0_mayStandBelow_48 : decode cX0_mayStandBelow 48 = .ok (.ireturn, 1) := by decide +kernel
theorem dX0_mayStandBelow_49 : decode cX0_mayStandBelow 49 = .ok (.iload_n 1, 1) := by decide +kernel
theorem dX0_mayStandBelow_50 : decode cX0_mayStandBelow 50 = .ok (.iload_n 2, 1) := by decide +kernel
theorem dX0_mayStandBelow_51 : decode cX0_mayStandBelow 51 = .ok (.if_icmp .le 7, 3) := by decide +kernel
theorem dX0_mayStandBelow_54 : decode cX0_mayStandBelow 54 = .ok (.iconst 1, 1) := by decide +kernel
theorem dX0_mayStandBelow_55 : decode cX0_mayStandBelow 55 = .ok (.goto 4, 3) := by decide +kernel
theorem dX0_mayStandBelow_58 : decode cX0_mayStandBelow 58 = .ok (.iconst 0, 1) := by decide +kernel
theorem dX0_mayStandBelow_59 : decode cX0_mayStandBelow 59 = .ok (.ireturn, 1) := by decide +kernel
theorem dX0_mayStandBelow_60 : decode cX0_mayStandBelow 60 = .ok (.iload_n 1, 1) := by decide +kernel
theorem dX0_mayStandBelow_61 : decode cX0_mayStandBelow 61 = .ok (.iload_n 2, 1) := by decide +kernel
theorem dX0_mayStandBelow_62 : decode cX0_mayStandBelow 62 = .ok (.if_icmp .ge 7, 3) := by decide +kernel
theorem dX0_mayStandBelow_65 : decode cX0_mayStandBelow 65 = .ok (.iconst 1, 1) := by decide +kernel
theorem dX0_mayStandBelow_66 : decode cX0_mayStandBelow 66 = .ok (.goto 4, 3) := by decide +kernel
theorem dX0_mayStandBelow_69 : decode cX0_mayStandBelow 69 = .ok (.iconst 0, 1) := by decide +kernel
theorem dX0_mayStandBelow_70 : decode cX0_mayStandBelow 70 = .ok (.ireturn, 1) := by decide +kernel
theorem dX0_keepsLattice_0 : decode cX0_keepsLattice 0 = .ok (.aload_n 0, 1) := by decide +kernel
theorem dX0_keepsLattice_1 : decode cX0_keepsLattice 1 = .ok (.getfield 22, 3) := by decide +kernel
theorem dX0_keepsLattice_4 : decode cX0_keepsLattice 4 = .ok (.iload_n 1, 1) := by decide +kernel
theorem dX0_keepsLattice_5 : decode cX0_keepsLattice 5 = .ok (.iaload, 1) := by decide +kernel
theorem dX0_keepsLattice_6 : decode cX0_keepsLattice 6 = .ok (.istore_n 2, 1) := by decide +kernel
theorem dX0_keepsLattice_7 : decode cX0_keepsLattice 7 = .ok (.iconst 0, 1) := by decide +kernel
theorem dX0_keepsLattice_8 : decode cX0_keepsLattice 8 = .ok (.istore_n 3, 1) := by decide +kernel
theorem dX0_keepsLattice_9 : decode cX0_keepsLattice 9 = .ok (.iconst 0, 1) := by decide +kernel
theorem dX0_keepsLattice_10 : decode cX0_keepsLattice 10 = .ok (.istore 4, 2) := by decide +kernel
theorem dX0_keepsLattice_12 : decode cX0_keepsLattice 12 = .ok (.iconst 0, 1) := by decide +kernel
theorem dX0_keepsLattice_13 : decode cX0_keepsLattice 13 = .ok (.istore 5, 2) := by decide +kernel
theorem dX0_keepsLattice_15 : decode cX0_keepsLattice 15 = .ok (.iload 5, 2) := by decide +kernel
theorem dX0_keepsLattice_17 : decode cX0_keepsLattice 17 = .ok (.iload_n 1, 1) := by decide +kernel
theorem dX0_keepsLattice_18 : decode cX0_keepsLattice 18 = .ok (.if_icmp .gt 56, 3) := by decide +kernel
theorem dX0_keepsLattice_21 : decode cX0_keepsLattice 21 = .ok (.aload_n 0, 1) := by decide +kernel
theorem dX0_keepsLattice_22 : decode cX0_keepsLattice 22 = .ok (.getfield 22, 3) := by decide +kernel
theorem dX0_keepsLattice_25 : decode cX0_keepsLattice 25 = .ok (.iload 5, 2) := by decide +kernel
theorem dX0_keepsLattice_27 : decode cX0_keepsLattice 27 = .ok (.iaload, 1) := by decide +kernel
theorem dX0_keepsLattice_28 : decode cX0_keepsLattice 28 = .ok (.iload_n 2, 1) := by decide +kernel
theorem dX0_keepsLattice_29 : decode cX0_keepsLattice 29 = .ok (.if_icmp .ne 9, 3) := by decide +kernel
theorem dX0_keepsLattice_32 : decode cX0_keepsLattice 32 = .ok (.iinc 3 1, 3) := by decide +kernel
theorem dX0_keepsLattice_35 : decode cX0_keepsLattice 35 = .ok (.goto 33, 3) := by decide +kernel
theorem dX0_keepsLattice_38 : decode cX0_keepsLattice 38 = .ok (.aload_n 0, 1) := by decide +kernel
theorem dX0_keepsLattice_39 : decode cX0_keepsLattice 39 = .ok (.getfield 22, 3) := by decide +kernel
theorem dX0_keepsLattice_42 : decode cX0_keepsLattice 42 = .ok (.iload 5, 2) := by decide +kernel
theorem dX0_keepsLattice_44 : decode cX0_keepsLattice 44 = .ok (.iaload, 1) := by decide +kernel
theorem dX0_keepsLattice_45 : decode cX0_keepsLattice 45 = .ok (.iload_n 2, 1) := by decide +kernel
theorem dX0_keepsLattice_46 : decode cX0_keepsLattice 46 = .ok (.iconst 1, 1) := by decide +kernel
theorem dX0_keepsLattice_47 : decode cX0_keepsLattice 47 = .ok (.isub, 1) := by decide +kernel
theorem dX0_keepsLattice_48 : decode cX0_keepsLattice 48 = .ok (.if_icmp .ne 20, 3) := by decide +kernel
theorem dX0_keepsLattice_51 : decode cX0_keepsLattice 51 = .ok (.iload 5, 2) := by decide +kernel
theorem dX0_keepsLattice_53 : decode cX0_keepsLattice 53 = .ok (.aload_n 0, 1) := by decide +kernel
theorem dX0_keepsLattice_54 : decode cX0_keepsLattice 54 = .ok (.getfield 12, 3) := by decide +kernel
theorem dX0_keepsLattice_57 : decode cX0_keepsLattice 57 = .ok (.getfield 110, 3) := by decide +kernel
theorem dX0_keepsLattice_60 : decode cX0_keepsLattice 60 = .ok (.iload_n 1, 1) := by decide +kernel
theorem dX0_keepsLattice_61 : decode cX0_keepsLattice 61 = .ok (.iaload, 1) := by decide +kernel
theorem dX0_keepsLattice_62 : decode cX0_keepsLattice 62 = .ok (.if_icmp .ge 6, 3) := by decide +kernel
theorem dX0_keepsLattice_65 : decode cX0_keepsLattice 65 = .ok (.iinc 4 1, 3) := by decide +kernel
theorem dX0_keepsLattice_68 : decode cX0_keepsLattice 68 = .ok (.iinc 5 1, 3) := by decide +kernel
theorem dX0_keepsLattice_71 : decode cX0_keepsLattice 71 = .ok (.goto (-56), 3) := by decide +kernel
theorem dX0_keepsLattice_74 : decode cX0_keepsLattice 74 = .ok (.iload_n 2, 1) := by decide +kernel
theorem dX0_keepsLattice_75 : decode cX0_keepsLattice 75 = .ok (.iconst 1, 1) := by decide +kernel
theorem dX0_keepsLattice_76 : decode cX0_keepsLattice 76 = .ok (.if_icmp .eq 9, 3) := by decide +kernel
theorem dX0_keepsLattice_79 : decode cX0_keepsLattice 79 = .ok (.iload_n 3, 1) := by decide +kernel
theorem dX0_keepsLattice_80 : decode cX0_keepsLattice 80 = .ok (.iload 4, 2) := by decide +kernel
theorem dX0_keepsLattice_82 : decode cX0_keepsLattice 82 = .ok (.if_icmp .gt 7, 3) := by decide +kernel
theorem dX0_keepsLattice_85 : decode cX0_keepsLattice 85 = .ok (.iconst 1, 1) := by decide +kernel
theorem dX0_keepsLattice_86 : decode cX0_keepsLattice 86 = .ok (.goto 4, 3) := by decide +kernel
theorem dX0_keepsLattice_89 : decode cX0_keepsLattice 89 = .ok (.iconst 0, 1) := by decide +kernel
theorem dX0_keepsLattice_90 : decode cX0_keepsLattice 90 = .ok (.ireturn, 1) := by decide +kernel
theorem dX1_init_0 : decode cX1_init 0 = .ok (.aload_n 0, 1) := by decide +kernel
theorem dX1_init_1 : decode cX1_init 1 = .ok (.invokespecial 3, 3) := by decide +kernel
theorem dX1_init_4 : decode cX1_init 4 = .ok (.aload_n 0, 1) := by decide +kernel
theorem dX1_init_5 : decode cX1_init 5 = .ok (.bipush 9, 2) := by decide +kernel
theorem dX1_init_7 : decode cX1_init 7 = .ok (.newarray .int, 2) := by decide +kernel
theorem dX1_init_9 : decode cX1_init 9 = .ok (.putfield 9, 3) := by decide +kernel
theorem dX1_init_12 : decode cX1_init 12 = .ok (.aload_n 0, 1) := by decide +kernel
theorem dX1_init_13 : decode cX1_init 13 = .ok (.bipush 9, 2) := by decide +kernel
theorem dX1_init_15 : decode cX1_init 15 = .ok (.newarray .int, 2) := by decide +kernel
theorem dX1_init_17 : decode cX1_init 17 = .ok (.putfield 15, 3) := by decide +kernel
theorem dX1_init_20 : decode cX1_init 20 = .ok (.aload_n 0, 1) := by decide +kernel
theorem dX1_init_21 : decode cX1_init 21 = .ok (.bipush 9, 2) := by decide +kernel
theorem dX1_init_23 : decode cX1_init 23 = .ok (.newarray .int, 2) := by decide +kernel
theorem dX1_init_25 : decode cX1_init 25 = .ok (.putfield 18, 3) := by decide +kernel
theorem dX1_init_28 : decode cX1_init 28 = .ok (.aload_n 0, 1) := by decide +kernel
theorem dX1_init_29 : decode cX1_init 29 = .ok (.bipush 9, 2) := by decide +kernel
theorem dX1_init_31 : decode cX1_init 31 = .ok (.newarray .int, 2) := by decide +kernel
theorem dX1_init_33 : decode cX1_init 33 = .ok (.putfield 21, 3) := by decide +kernel
theorem dX1_init_36 : decode cX1_init 36 = .ok (.aload_n 0, 1) := by decide +kernel
theorem dX1_init_37 : decode cX1_init 37 = .ok (.bipush 9, 2) := by decide +kernel
theorem dX1_init_39 : decode cX1_init 39 = .ok (.newarray .int, 2) := by decide +kernel
theorem dX1_init_41 : decode cX1_init 41 = .ok (.putfield 24, 3) := by decide +kernel
theorem dX1_init_44 : decode cX1_init 44 = .ok (.return_, 1) := by decide +kernel
theorem dX1_hasBox_0 : decode cX1_hasBox 0 = .ok (.iload_n 1, 1) := by decide +kernel
theorem dX1_hasBox_1 : decode cX1_hasBox 1 = .ok (.ifCond .lt 15, 3) := by decide +kernel
theorem dX1_hasBox_4 : decode cX1_hasBox 4 = .ok (.iload_n 1, 1) := by decide +kernel
theorem dX1_hasBox_5 : decode cX1_hasBox 5 = .ok (.aload_n 0, 1) := by decide +kernel
theorem dX1_hasBox_6 : decode cX1_hasBox 6 = .ok (.getfield 27, 3) := by decide +kernel
theorem dX1_hasBox_9 : decode cX1_hasBox 9 = .ok (.if_icmp .ge 7, 3) := by decide +kernel
theorem dX1_hasBox_12 : decode cX1_hasBox 12 = .ok (.iconst 1, 1) := by decide +kernel
theorem dX1_hasBox_13 : decode cX1_hasBox 13 = .ok (.goto 4, 3) := by decide +kernel
theorem dX1_hasBox_16 : decode cX1_hasBox 16 = .ok (.iconst 0, 1) := by decide +kernel
theorem dX1_hasBox_17 : decode cX1_hasBox 17 = .ok (.ireturn, 1) := by decide +kernel
set_option maxRecDepth 20000 in
theorem ggX1_layOut_X1_addBox : GoodIn wsX1_layOut wsX1_addBox := goodIn_r _ [9, 1, 10, 11, 12, 13, 14, 15, 16, 17, 8, 18, 19, 20, 21, 22, 23, 24] rfl (by decide +kernel)
set_option maxRecDepth 20000 in
theorem gX1_layOut_X1_addBox : GoodIn wsX1_layOut (wsV RX1 42 RX1 yX1_addBox wsX1_addBox) := goodIn_app (goodIn_r _ [5, 6, 7, 8] rfl (by decide +kernel)) ggX1_layOut_X1_addBox
theorem dX1_layOut_0 : decode cX1_layOut 0 = .ok (.aload_n 0, 1) := by decide +kernel
theorem dX1_layOut_1 : decode cX1_layOut 1 = .ok (.iconst 0, 1) := by decide +kernel
theorem dX1_layOut_2 : decode cX1_layOut 2 = .ok (.putfield 27, 3) := by decide +kernel
theorem dX1_layOut_5 : decode cX1_layOut 5 = .ok (.iconst 0, 1) := by decide +kernel
theorem dX1_layOut_6 : decode cX1_layOut 6 = .ok (.istore_n 2, 1) := by decide +kernel
theorem dX1_layOut_7 : decode cX1_layOut 7 = .ok (.iload_n 2, 1) := by decide +kernel
theorem dX1_layOut_8 : decode cX1_layOut 8 = .ok (.aload_n 1, 1) := by decide +kernel
theorem dX1_layOut_9 : decode cX1_layOut 9 = .ok (.getfield 31, 3) := by decide +kernel
theorem dX1_layOut_12 : decode cX1_layOut 12 = .ok (.if_icmp .ge 47, 3) := by decide +kernel
theorem dX1_layOut_15 : decode cX1_layOut 15 = .ok (.aload_n 0, 1) := by decide +kernel
theorem dX1_layOut_16 : decode cX1_layOut 16 = .ok (.getfield 27, 3) := by decide +kernel
theorem dX1_layOut_19 : decode cX1_layOut 19 = .ok (.istore_n 3, 1) := by decide +kernel
theorem dX1_layOut_20 : decode cX1_layOut 20 = .ok (.aload_n 1, 1) := by decide +kernel
theorem dX1_layOut_21 : decode cX1_layOut 21 = .ok (.getfield 36, 3) := by decide +kernel
theorem dX1_layOut_24 : decode cX1_layOut 24 = .ok (.iload_n 2, 1) := by decide +kernel
theorem dX1_layOut_25 : decode cX1_layOut 25 = .ok (.iaload, 1) := by decide +kernel
theorem dX1_layOut_26 : decode cX1_layOut 26 = .ok (.istore 4, 2) := by decide +kernel
theorem dX1_layOut_28 : decode cX1_layOut 28 = .ok (.iload 4, 2) := by decide +kernel
theorem dX1_layOut_30 : decode cX1_layOut 30 = .ok (.aload_n 1, 1) := by decide +kernel
theorem dX1_layOut_31 : decode cX1_layOut 31 = .ok (.getfield 39, 3) := by decide +kernel
theorem dX1_layOut_34 : decode cX1_layOut 34 = .ok (.iload_n 2, 1) := by decide +kernel
theorem dX1_layOut_35 : decode cX1_layOut 35 = .ok (.iaload, 1) := by decide +kernel
theorem dX1_layOut_36 : decode cX1_layOut 36 = .ok (.if_icmp .ge 17, 3) := by decide +kernel
theorem dX1_layOut_39 : decode cX1_layOut 39 = .ok (.aload_n 0, 1) := by decide +kernel
theorem dX1_layOut_40 : decode cX1_layOut 40 = .ok (.iload_n 2, 1) := by decide +kernel
theorem dX1_layOut_41 : decode cX1_layOut 41 = .ok (.iload 4, 2) := by decide +kernel
theorem dX1_layOut_43 : decode cX1_layOut 43 = .ok (.iload_n 3, 1) := by decide +kernel
theorem dX1_layOut_44 : decode cX1_layOut 44 = .ok (.invokevirtual 42, 3) := by decide +kernel
theorem dX1_layOut_47 : decode cX1_layOut 47 = .ok (.iinc 4 1, 3) := by decide +kernel
theorem dX1_layOut_50 : decode cX1_layOut 50 = .ok (.goto (-22), 3) := by decide +kernel
theorem dX1_layOut_53 : decode cX1_layOut 53 = .ok (.iinc 2 1, 3) := by decide +kernel
theorem dX1_layOut_56 : decode cX1_layOut 56 = .ok (.goto (-49), 3) := by decide +kernel
theorem dX1_layOut_59 : decode cX1_layOut 59 = .ok (.return_, 1) := by decide +kernel
set_option maxRecDepth 20000 in
theorem ggX1_addBox_X1_boxAt : GoodIn wsX1_addBox wsX1_boxAt := goodIn_r _ [11, 1, 2, 3, 12, 13, 14, 15, 16, 17] rfl (by decide +kernel)
set_option maxRecDepth 20000 in
theorem gX1_addBox_X1_boxAt : GoodIn wsX1_addBox (wsV RX1 46 RX1 yX1_boxAt wsX1_boxAt) := goodIn_app (goodIn_r _ [7, 8, 9, 10] rfl (by decide +kernel)) ggX1_addBox_X1_boxAt
theorem dX1_addBox_0 : decode cX1_addBox 0 = .ok (.aload_n 0, 1) := by decide +kernel
theorem dX1_addBox_1 : decode cX1_addBox 1 = .ok (.getfield 27, 3) := by decide +kernel
theorem dX1_addBox_4 : decode cX1_addBox 4 = .ok (.bipush 9, 2) := by decide +kernel
theorem dX1_addBox_6 : decode cX1_addBox 6 = .ok (.if_icmp .lt 4, 3) := by decide +kernel
theorem dX1_addBox_9 : decode cX1_addBox 9 = .ok (.return_, 1) := by decide +kernel
theorem dX1_addBox_10 : decode cX1_addBox 10 = .ok (.aload_n 0, 1) := by decide +kernel
theorem dX1_addBox_11 : decode cX1_addBox 11 = .ok (.getfield 9, 3) := by decide +kernel
theorem dX1_addBox_14 : decode cX1_addBox 14 = .ok (.aload_n 0, 1) := by decide +kernel
theorem dX1_addBox_15 : decode cX1_addBox 15 = .ok (.getfield 27, 3) := by decide +kernel
theorem dX1_addBox_18 : decode cX1_addBox 18 = .ok (.iload_n 1, 1) := by decide +kernel
theorem dX1_addBox_19 : decode cX1_addBox 19 = .ok (.iastore, 1) := by decide +kernel
theorem dX1_addBox_20 : decode cX1_addBox 20 = .ok (.aload_n 0, 1) := by decide +kernel
theorem dX1_addBox_21 : decode cX1_addBox 21 = .ok (.getfield 15, 3) := by decide +kernel
theorem dX1_addBox_24 : decode cX1_addBox 24 = .ok (.aload_n 0, 1) := by decide +kernel
theorem dX1_addBox_25 : decode cX1_addBox 25 = .ok (.getfield 27, 3) := by decide +kernel
theorem dX1_addBox_28 : decode cX1_addBox 28 = .ok (.iload_n 2, 1) := by decide +kernel
theorem dX1_addBox_29 : decode cX1_addBox 29 = .ok (.iastore, 1) := by decide +kernel
theorem dX1_addBox_30 : decode cX1_addBox 30 = .ok (.aload_n 0, 1) := by decide +kernel
theorem dX1_addBox_31 : decode cX1_addBox 31 = .ok (.getfield 18, 3) := by decide +kernel
theorem dX1_addBox_34 : decode cX1_addBox 34 = .ok (.aload_n 0, 1) := by decide +kernel
theorem dX1_addBox_35 : decode cX1_addBox 35 = .ok (.getfield 27, 3) := by decide +kernel
theorem dX1_addBox_38 : decode cX1_addBox 38 = .ok (.aload_n 0, 1) := by decide +kernel
theorem dX1_addBox_39 : decode cX1_addBox 39 = .ok (.getfield 27, 3) := by decide +kernel
theorem dX1_addBox_42 : decode cX1_addBox 42 = .ok (.iload_n 3, 1) := by decide +kernel
theorem dX1_addBox_43 : decode cX1_addBox 43 = .ok (.if_icmp .le 12, 3) := by decide +kernel
theorem dX1_addBox_46 : decode cX1_addBox 46 = .ok (.aload_n 0, 1) := by decide +kernel
theorem dX1_addBox_47 : decode cX1_addBox 47 = .ok (.getfield 27, 3) := by decide +kernel
theorem dX1_addBox_50 : decode cX1_addBox 50 = .ok (.iconst 1, 1) := by decide +kernel
theorem dX1_addBox_51 : decode cX1_addBox 51 = .ok (.isub, 1) := by decide +kernel
theorem dX1_addBox_52 : decode cX1_addBox 52 = .ok (.goto 4, 3) := by decide +kernel
theorem dX1_addBox_55 : decode cX1_addBox 55 = .ok (.iconst (-1), 1) := by decide +kernel
theorem dX1_addBox_56 : decode cX1_addBox 56 = .ok (.iastore, 1) := by decide +kernel
theorem dX1_addBox_57 : decode cX1_addBox 57 = .ok (.aload_n 0, 1) := by decide +kernel
theorem dX1_addBox_58 : decode cX1_addBox 58 = .ok (.getfield 21, 3) := by decide +kernel
theorem dX1_addBox_61 : decode cX1_addBox 61 = .ok (.aload_n 0, 1) := by decide +kernel
theorem dX1_addBox_62 : decode cX1_addBox 62 = .ok (.getfield 27, 3) := by decide +kernel
theorem dX1_addBox_65 : decode cX1_addBox 65 = .ok (.aload_n 0, 1) := by decide +kernel
theorem dX1_addBox_66 : decode cX1_addBox 66 = .ok (.iload_n 1, 1) := by decide +kernel
theorem dX1_addBox_67 : decode cX1_addBox 67 = .ok (.iconst 1, 1) := by decide +kernel
theorem dX1_addBox_68 : decode cX1_addBox 68 = .ok (.isub, 1) := by decide +kernel
theorem dX1_addBox_69 : decode cX1_addBox 69 = .ok (.iload_n 2, 1) := by decide +kernel
theorem dX1_addBox_70 : decode cX1_addBox 70 = .ok (.invokevirtual 46, 3) := by decide +kernel
theorem dX1_addBox_73 : decode cX1_addBox 73 = .ok (.iastore, 1) := by decide +kernel
theorem dX1_addBox_74 : decode cX1_addBox 74 = .ok (.aload_n 0, 1) := by decide +kernel
theorem dX1_addBox_75 : decode cX1_addBox 75 = .ok (.getfield 24, 3) := by decide +kernel
theorem dX1_addBox_78 : decode cX1_addBox 78 = .ok (.aload_n 0, 1) := by decide +kernel
theorem dX1_addBox_79 : decode cX1_addBox 79 = .ok (.getfield 27, 3) := by decide +kernel
theorem dX1_addBox_82 : decode cX1_addBox 82 = .ok (.iload_n 3, 1) := by decide +kernel
theorem dX1_addBox_83 : decode cX1_addBox 83 = .ok (.iastore, 1) := by decide +kernel
theorem dX1_addBox_84 : decode cX1_addBox 84 = .ok (.aload_n 0, 1) := by decide +kernel
theorem dX1_addBox_85 : decode cX1_addBox 85 = .ok (.dup, 1) := by decide +kernel
theorem dX1_addBox_86 : decode cX1_addBox 86 = .ok (.getfield 27, 3) := by decide +kernel
theorem dX1_addBox_89 : decode cX1_addBox 89 = .ok (.iconst 1, 1) := by decide +kernel
theorem dX1_addBox_90 : decode cX1_addBox 90 = .ok (.iadd, 1) := by decide +kernel
theorem dX1_addBox_91 : decode cX1_addBox 91 = .ok (.putfield 27, 3) := by decide +kernel
theorem dX1_addBox_94 : decode cX1_addBox 94 = .ok (.return_, 1) := by decide +kernel
theorem dX1_boxAt_0 : decode cX1_boxAt 0 = .ok (.iconst 0, 1) := by decide +kernel
theorem dX1_boxAt_1 : decode cX1_boxAt 1 = .ok (.istore_n 3, 1) := by decide +kernel
theorem dX1_boxAt_2 : decode cX1_boxAt 2 = .ok (.iload_n 3, 1) := by decide +kernel
theorem dX1_boxAt_3 : decode cX1_boxAt 3 = .ok (.aload_n 0, 1) := by decide +kernel
theorem dX1_boxAt_4 : decode cX1_boxAt 4 = .ok (.getfield 27, 3) := by decide +kernel
theorem dX1_boxAt_7 : decode cX1_boxAt 7 = .ok (.if_icmp .ge 31, 3) := by decide +kernel
theorem dX1_boxAt_10 : decode cX1_boxAt 10 = .ok (.aload_n 0, 1) := by decide +kernel
theorem dX1_boxAt_11 : decode cX1_boxAt 11 = .ok (.getfield 9, 3) := by decide +kernel
theorem dX1_boxAt_14 : decode cX1_boxAt 14 = .ok (.iload_n 3, 1) := by decide +kernel
theorem dX1_boxAt_15 : decode cX1_boxAt 15 = .ok (.iaload, 1) := by decide +kernel
theorem dX1_boxAt_16 : decode cX1_boxAt 16 = .ok (.iload_n 1, 1) := by decide +kernel
theorem dX1_boxAt_17 : decode cX1_boxAt 17 = .ok (.if_icmp .ne 15, 3) := by decide +kernel
theorem dX1_boxAt_20 : decode cX1_boxAt 20 = .ok (.aload_n 0, 1) := by decide +kernel
theorem dX1_boxAt_21 : decode cX1_boxAt 21 = .ok (.getfield 15, 3) := by decide +kernel
theorem dX1_boxAt_24 : decode cX1_boxAt 24 = .ok (.iload_n 3, 1) := by decide +kernel
theorem dX1_boxAt_25 : decode cX1_boxAt 25 = .ok (.iaload, 1) := by decide +kernel
theorem dX1_boxAt_26 : decode cX1_boxAt 26 = .ok (.iload_n 2, 1) := by decide +kernel
theorem dX1_boxAt_27 : decode cX1_boxAt 27 = .ok (.if_icmp .ne 5, 3) := by decide +kernel
theorem dX1_boxAt_30 : decode cX1_boxAt 30 = .ok (.iload_n 3, 1) := by decide +kernel
theorem dX1_boxAt_31 : decode cX1_boxAt 31 = .ok (.ireturn, 1) := by decide +kernel
theorem dX1_boxAt_32 : decode cX1_boxAt 32 = .ok (.iinc 3 1, 3) := by decide +kernel
theorem dX1_boxAt_35 : decode cX1_boxAt 35 = .ok (.goto (-33), 3) := by decide +kernel
theorem dX1_boxAt_38 : decode cX1_boxAt 38 = .ok (.iconst (-1), 1) := by decide +kernel
theorem dX1_boxAt_39 : decode cX1_boxAt 39 = .ok (.ireturn, 1) := by decide +kernel
theorem dX2_init_0 : decode cX2_init 0 = .ok (.aload_n 0, 1) := by decide +kernel
theorem dX2_init_1 : decode cX2_init 1 = .ok (.invokespecial 3, 3) := by decide +kernel
theorem dX2_init_4 : decode cX2_init 4 = .ok (.aload_n 0, 1) := by decide +kernel
theorem dX2_init_5 : decode cX2_init 5 = .ok (.bipush 31, 2) := by decide +kernel
theorem dX2_init_7 : decode cX2_init 7 = .ok (.putfield 9, 3) := by decide +kernel
theorem dX2_init_10 : decode cX2_init 10 = .ok (.return_, 1) := by decide +kernel
theorem dX2_clear_0 : decode cX2_clear 0 = .ok (.aload_n 0, 1) := by decide +kernel
theorem dX2_clear_1 : decode cX2_clear 1 = .ok (.iconst 0, 1) := by decide +kernel
theorem dX2_clear_2 : decode cX2_clear 2 = .ok (.putfield 15, 3) := by decide +kernel
theorem dX2_clear_5 : decode cX2_clear 5 = .ok (.aload_n 0, 1) := by decide +kernel
theorem dX2_clear_6 : decode cX2_clear 6 = .ok (.bipush 31, 2) := by decide +kernel
theorem dX2_clear_8 : decode cX2_clear 8 = .ok (.putfield 9, 3) := by decide +kernel
theorem dX2_clear_11 : decode cX2_clear 11 = .ok (.return_, 1) := by decide +kernel
theorem dX2_takeOver_0 : decode cX2_takeOver 0 = .ok (.aload_n 0, 1) := by decide +kernel
theorem dX2_takeOver_1 : decode cX2_takeOver 1 = .ok (.aload_n 1, 1) := by decide +kernel
theorem dX2_takeOver_2 : decode cX2_takeOver 2 = .ok (.getfield 15, 3) := by decide +kernel
theorem dX2_takeOver_5 : decode cX2_takeOver 5 = .ok (.putfield 15, 3) := by decide +kernel
theorem dX2_takeOver_8 : decode cX2_takeOver 8 = .ok (.aload_n 0, 1) := by decide +kernel
theorem dX2_takeOver_9 : decode cX2_takeOver 9 = .ok (.aload_n 1, 1) := by decide +kernel
theorem dX2_takeOver_10 : decode cX2_takeOver 10 = .ok (.getfield 9, 3) := by decide +kernel
theorem dX2_takeOver_13 : decode cX2_takeOver 13 = .ok (.putfield 9, 3) := by decide +kernel
theorem dX2_takeOver_16 : decode cX2_takeOver 16 = .ok (.return_, 1) := by decide +kernel
theorem dX2_add_0 : decode cX2_add 0 = .ok (.aload_n 0, 1) := by decide +kernel
theorem dX2_add_1 : decode cX2_add 1 = .ok (.dup, 1) := by decide +kernel
theorem dX2_add_2 : decode cX2_add 2 = .ok (.getfield 9, 3) := by decide +kernel
theorem dX2_add_5 : decode cX2_add 5 = .ok (.iload_n 2, 1) := by decide +kernel
theorem dX2_add_6 : decode cX2_add 6 = .ok (.ifCond .eq 11, 3) := by decide +kernel
theorem dX2_add_9 : decode cX2_add 9 = .ok (.getstatic 18, 3) := by decide +kernel
theorem dX2_add_12 : decode cX2_add 12 = .ok (.iload_n 1, 1) := by decide +kernel
theorem dX2_add_13 : decode cX2_add 13 = .ok (.iaload, 1) := by decide +kernel
theorem dX2_add_14 : decode cX2_add 14 = .ok (.goto 10, 3) := by decide +kernel
theorem dX2_add_17 : decode cX2_add 17 = .ok (.getstatic 18, 3) := by decide +kernel
theorem dX2_add_20 : decode cX2_add 20 = .ok (.iload_n 1, 1) := by decide +kernel
theorem dX2_add_21 : decode cX2_add 21 = .ok (.iaload, 1) := by decide +kernel
theorem dX2_add_22 : decode cX2_add 22 = .ok (.iconst (-1), 1) := by decide +kernel
theorem dX2_add_23 : decode cX2_add 23 = .ok (.ixor, 1) := by decide +kernel
theorem dX2_add_24 : decode cX2_add 24 = .ok (.iand, 1) := by decide +kernel
theorem dX2_add_25 : decode cX2_add 25 = .ok (.putfield 9, 3) := by decide +kernel
theorem dX2_add_28 : decode cX2_add 28 = .ok (.aload_n 0, 1) := by decide +kernel
theorem dX2_add_29 : decode cX2_add 29 = .ok (.dup, 1) := by decide +kernel
theorem dX2_add_30 : decode cX2_add 30 = .ok (.getfield 15, 3) := by decide +kernel
theorem dX2_add_33 : decode cX2_add 33 = .ok (.iconst 1, 1) := by decide +kernel
theorem dX2_add_34 : decode cX2_add 34 = .ok (.iadd, 1) := by decide +kernel
theorem dX2_add_35 : decode cX2_add 35 = .ok (.putfield 15, 3) := by decide +kernel
theorem dX2_add_38 : decode cX2_add 38 = .ok (.return_, 1) := by decide +kernel
set_option maxRecDepth 20000 in
theorem ggX2_bestQuestion_X2_mostLeftBy : GoodIn wsX2_bestQuestion wsX2_mostLeftBy := goodIn_r _ [6, 1, 7, 8, 9, 10, 11, 12, 13, 14, 15, 16, 17, 18, 19] rfl (by decide +kernel)
set_option maxRecDepth 20000 in
theorem gX2_bestQuestion_X2_mostLeftBy : GoodIn wsX2_bestQuestion (wsV RX2 22 RX2 yX2_mostLeftBy wsX2_mostLeftBy) := goodIn_app (goodIn_r _ [2, 3, 4, 5] rfl (by decide +kernel)) ggX2_bestQuestion_X2_mostLeftBy
theorem dX2_bestQuestion_0 : decode cX2_bestQuestion 0 = .ok (.aload_n 0, 1) := by decide +kernel
theorem dX2_bestQuestion_1 : decode cX2_bestQuestion 1 = .ok (.getfield 9, 3) := by decide +kernel
theorem dX2_bestQuestion_4 : decode cX2_bestQuestion 4 = .ok (.ifCond .ne 5, 3) := by decide +kernel
theorem dX2_bestQuestion_7 : decode cX2_bestQuestion 7 = .ok (.iconst (-1), 1) := by decide +kernel
theorem dX2_bestQuestion_8 : decode cX2_bestQuestion 8 = .ok (.ireturn, 1) := by decide +kernel
theorem dX2_bestQuestion_9 : decode cX2_bestQuestion 9 = .ok (.iconst 0, 1) := by decide +kernel
theorem dX2_bestQuestion_10 : decode cX2_bestQuestion 10 = .ok (.istore_n 1, 1) := by decide +kernel
theorem dX2_bestQuestion_11 : decode cX2_bestQuestion 11 = .ok (.iconst 1, 1) := by decide +kernel
theorem dX2_bestQuestion_12 : decode cX2_bestQuestion 12 = .ok (.istore_n 2, 1) := by decide +kernel
theorem dX2_bestQuestion_13 : decode cX2_bestQuestion 13 = .ok (.iload_n 2, 1) := by decide +kernel
theorem dX2_bestQuestion_14 : decode cX2_bestQuestion 14 = .ok (.getstatic 18, 3) := by decide +kernel
theorem dX2_bestQuestion_17 : decode cX2_bestQuestion 17 = .ok (.arraylength, 1) := by decide +kernel
theorem dX2_bestQuestion_18 : decode cX2_bestQuestion 18 = .ok (.if_icmp .ge 24, 3) := by decide +kernel
theorem dX2_bestQuestion_21 : decode cX2_bestQuestion 21 = .ok (.aload_n 0, 1) := by decide +kernel
theorem dX2_bestQuestion_22 : decode cX2_bestQuestion 22 = .ok (.iload_n 2, 1) := by decide +kernel
theorem dX2_bestQuestion_23 : decode cX2_bestQuestion 23 = .ok (.invokevirtual 22, 3) := by decide +kernel
theorem dX2_bestQuestion_26 : decode cX2_bestQuestion 26 = .ok (.aload_n 0, 1) := by decide +kernel
theorem dX2_bestQuestion_27 : decode cX2_bestQuestion 27 = .ok (.iload_n 1, 1) := by decide +kernel
theorem dX2_bestQuestion_28 : decode cX2_bestQuestion 28 = .ok (.invokevirtual 22, 3) := by decide +kernel
theorem dX2_bestQuestion_31 : decode cX2_bestQuestion 31 = .ok (.if_icmp .ge 5, 3) := by decide +kernel
theorem dX2_bestQuestion_34 : decode cX2_bestQuestion 34 = .ok (.iload_n 2, 1) := by decide +kernel
theorem dX2_bestQuestion_35 : decode cX2_bestQuestion 35 = .ok (.istore_n 1, 1) := by decide +kernel
theorem dX2_bestQuestion_36 : decode cX2_bestQuestion 36 = .ok (.iinc 2 1, 3) := by decide +kernel
theorem dX2_bestQuestion_39 : decode cX2_bestQuestion 39 = .ok (.goto (-26), 3) := by decide +kernel
theorem dX2_bestQuestion_42 : decode cX2_bestQuestion 42 = .ok (.iload_n 1, 1) := by decide +kernel
theorem dX2_bestQuestion_43 : decode cX2_bestQuestion 43 = .ok (.ireturn, 1) := by decide +kernel
set_option maxRecDepth 20000 in
theorem ggX2_mostLeftBy_J6_bitCount_0f7a4 : GoodIn wsX2_mostLeftBy wsJ6_bitCount_0f7a4 := goodIn_r _ [9, 10, 11, 12] rfl (by decide +kernel)
set_option maxRecDepth 20000 in
theorem gX2_mostLeftBy_J6_bitCount_0f7a4 : GoodIn wsX2_mostLeftBy (va_wsS RX2 26 yJ6_bitCount_0f7a4 wsJ6_bitCount_0f7a4) := goodIn_app (goodIn_r _ [6, 7, 8] rfl (by decide +kernel)) ggX2_mostLeftBy_J6_bitCount_0f7a4
theorem dX2_mostLeftBy_0 : decode cX2_mostLeftBy 0 = .ok (.aload_n 0, 1) := by decide +kernel
theorem dX2_mostLeftBy_1 : decode cX2_mostLeftBy 1 = .ok (.getfield 9, 3) := by decide +kernel
theorem dX2_mostLeftBy_4 : decode cX2_mostLeftBy 4 = .ok (.getstatic 18, 3) := by decide +kernel
theorem dX2_mostLeftBy_7 : decode cX2_mostLeftBy 7 = .ok (.iload_n 1, 1) := by decide +kernel
theorem dX2_mostLeftBy_8 : decode cX2_mostLeftBy 8 = .ok (.iaload, 1) := by decide +kernel
theorem dX2_mostLeftBy_9 : decode cX2_mostLeftBy 9 = .ok (.iand, 1) := by decide +kernel
theorem dX2_mostLeftBy_10 : decode cX2_mostLeftBy 10 = .ok (.invokestatic 26, 3) := by decide +kernel
theorem dX2_mostLeftBy_13 : decode cX2_mostLeftBy 13 = .ok (.istore_n 2, 1) := by decide +kernel
theorem dX2_mostLeftBy_14 : decode cX2_mostLeftBy 14 = .ok (.iload_n 2, 1) := by decide +kernel
theorem dX2_mostLeftBy_15 : decode cX2_mostLeftBy 15 = .ok (.aload_n 0, 1) := by decide +kernel
theorem dX2_mostLeftBy_16 : decode cX2_mostLeftBy 16 = .ok (.getfield 9, 3) := by decide +kernel
theorem dX2_mostLeftBy_19 : decode cX2_mostLeftBy 19 = .ok (.invokestatic 26, 3) := by decide +kernel
theorem dX2_mostLeftBy_22 : decode cX2_mostLeftBy 22 = .ok (.iload_n 2, 1) := by decide +kernel
theorem dX2_mostLeftBy_23 : decode cX2_mostLeftBy 23 = .ok (.isub, 1) := by decide +kernel
theorem dX2_mostLeftBy_24 : decode cX2_mostLeftBy 24 = .ok (.invokestatic 31, 3) := by decide +kernel
theorem dX2_mostLeftBy_27 : decode cX2_mostLeftBy 27 = .ok (.ireturn, 1) := by decide +kernel
theorem dX3_init_0 : decode cX3_init 0 = .ok (.aload_n 0, 1) := by decide +kernel
theorem dX3_init_1 : decode cX3_init 1 = .ok (.invokespecial 3, 3) := by decide +kernel
theorem dX3_init_4 : decode cX3_init 4 = .ok (.aload_n 0, 1) := by decide +kernel
theorem dX3_init_5 : decode cX3_init 5 = .ok (.bipush 20, 2) := by decide +kernel
theorem dX3_init_7 : decode cX3_init 7 = .ok (.newarray .int, 2) := by decide +kernel
theorem dX3_init_9 : decode cX3_init 9 = .ok (.putfield 9, 3) := by decide +kernel
theorem dX3_init_12 : decode cX3_init 12 = .ok (.return_, 1) := by decide +kernel
theorem dX3_append_0 : decode cX3_append 0 = .ok (.aload_n 0, 1) := by decide +kernel
theorem dX3_append_1 : decode cX3_append 1 = .ok (.getfield 15, 3) := by decide +kernel
theorem dX3_append_4 : decode cX3_append 4 = .ok (.bipush 20, 2) := by decide +kernel
theorem dX3_append_6 : decode cX3_append 6 = .ok (.if_icmp .lt 5, 3) := by decide +kernel
theorem dX3_append_9 : decode cX3_append 9 = .ok (.iconst 0, 1) := by decide +kernel
theorem dX3_append_10 : decode cX3_append 10 = .ok (.ireturn, 1) := by decide +kernel
theorem dX3_append_11 : decode cX3_append 11 = .ok (.aload_n 0, 1) := by decide +kernel
theorem dX3_append_12 : decode cX3_append 12 = .ok (.getfield 9, 3) := by decide +kernel
theorem dX3_append_15 : decode cX3_append 15 = .ok (.aload_n 0, 1) := by decide +kernel
theorem dX3_append_16 : decode cX3_append 16 = .ok (.getfield 15, 3) := by decide +kernel
theorem dX3_append_19 : decode cX3_append 19 = .ok (.iload_n 1, 1) := by decide +kernel
theorem dX3_append_20 : decode cX3_append 20 = .ok (.iastore, 1) := by decide +kernel
theorem dX3_append_21 : decode cX3_append 21 = .ok (.aload_n 0, 1) := by decide +kernel
theorem dX3_append_22 : decode cX3_append 22 = .ok (.dup, 1) := by decide +kernel
theorem dX3_append_23 : decode cX3_append 23 = .ok (.getfield 15, 3) := by decide +kernel
theorem dX3_append_26 : decode cX3_append 26 = .ok (.iconst 1, 1) := by decide +kernel
theorem dX3_append_27 : decode cX3_append 27 = .ok (.iadd, 1) := by decide +kernel
theorem dX3_append_28 : decode cX3_append 28 = .ok (.putfield 15, 3) := by decide +kernel
theorem dX3_append_31 : decode cX3_append 31 = .ok (.iconst 1, 1) := by decide +kernel
theorem dX3_append_32 : decode cX3_append 32 = .ok (.ireturn, 1) := by decide +kernel
theorem dX3_clear_0 : decode cX3_clear 0 = .ok (.aload_n 0, 1) := by decide +kernel
theorem dX3_clear_1 : decode cX3_clear 1 = .ok (.iconst 0, 1) := by decide +kernel
theorem dX3_clear_2 : decode cX3_clear 2 = .ok (.putfield 15, 3) := by decide +kernel
theorem dX3_clear_5 : decode cX3_clear 5 = .ok (.return_, 1) := by decide +kernel
set_option maxRecDepth 20000 in
theorem ggX3_isFillingOf_X7_isNumber : GoodIn wsX3_isFillingOf wsX7_isNumber := goodIn_r _ [5] rfl (by decide +kernel)
set_option maxRecDepth 20000 in
theorem gX3_isFillingOf_X7_isNumber_n19 : GoodIn wsX3_isFillingOf (wsX7_isNumber) := ggX3_isFillingOf_X7_isNumber
theorem dX3_isFillingOf_0 : decode cX3_isFillingOf 0 = .ok (.aload_n 0, 1) := by decide +kernel
theorem dX3_isFillingOf_1 : decode cX3_isFillingOf 1 = .ok (.getfield 15, 3) := by decide +kernel
theorem dX3_isFillingOf_4 : decode cX3_isFillingOf 4 = .ok (.iload_n 1, 1) := by decide +kernel
theorem dX3_isFillingOf_5 : decode cX3_isFillingOf 5 = .ok (.if_icmp .eq 5, 3) := by decide +kernel
theorem dX3_isFillingOf_8 : decode cX3_isFillingOf 8 = .ok (.iconst 0, 1) := by decide +kernel
theorem dX3_isFillingOf_9 : decode cX3_isFillingOf 9 = .ok (.ireturn, 1) := by decide +kernel
theorem dX3_isFillingOf_10 : decode cX3_isFillingOf 10 = .ok (.iconst 0, 1) := by decide +kernel
theorem dX3_isFillingOf_11 : decode cX3_isFillingOf 11 = .ok (.istore_n 2, 1) := by decide +kernel
theorem dX3_isFillingOf_12 : decode cX3_isFillingOf 12 = .ok (.iload_n 2, 1) := by decide +kernel
theorem dX3_isFillingOf_13 : decode cX3_isFillingOf 13 = .ok (.aload_n 0, 1) := by decide +kernel
theorem dX3_isFillingOf_14 : decode cX3_isFillingOf 14 = .ok (.getfield 15, 3) := by decide +kernel
theorem dX3_isFillingOf_17 : decode cX3_isFillingOf 17 = .ok (.if_icmp .ge 26, 3) := by decide +kernel
theorem dX3_isFillingOf_20 : decode cX3_isFillingOf 20 = .ok (.aload_n 0, 1) := by decide +kernel
theorem dX3_isFillingOf_21 : decode cX3_isFillingOf 21 = .ok (.getfield 9, 3) := by decide +kernel
theorem dX3_isFillingOf_24 : decode cX3_isFillingOf 24 = .ok (.iload_n 2, 1) := by decide +kernel
theorem dX3_isFillingOf_25 : decode cX3_isFillingOf 25 = .ok (.iaload, 1) := by decide +kernel
theorem dX3_isFillingOf_26 : decode cX3_isFillingOf 26 = .ok (.bipush 48, 2) := by decide +kernel
theorem dX3_isFillingOf_28 : decode cX3_isFillingOf 28 = .ok (.isub, 1) := by decide +kernel
theorem dX3_isFillingOf_29 : decode cX3_isFillingOf 29 = .ok (.invokestatic 19, 3) := by decide +kernel
theorem dX3_isFillingOf_32 : decode cX3_isFillingOf 32 = .ok (.ifCond .ne 5, 3) := by decide +kernel
theorem dX3_isFillingOf_35 : decode cX3_isFillingOf 35 = .ok (.iconst 0, 1) := by decide +kernel
theorem dX3_isFillingOf_36 : decode cX3_isFillingOf 36 = .ok (.ireturn, 1) := by decide +kernel
theorem dX3_isFillingOf_37 : decode cX3_isFillingOf 37 = .ok (.iinc 2 1, 3) := by decide +kernel
theorem dX3_isFillingOf_40 : decode cX3_isFillingOf 40 = .ok (.goto (-28), 3) := by decide +kernel
theorem dX3_isFillingOf_43 : decode cX3_isFillingOf 43 = .ok (.iconst 1, 1) := by decide +kernel
theorem dX3_isFillingOf_44 : decode cX3_isFillingOf 44 = .ok (.ireturn, 1) := by decide +kernel
set_option maxRecDepth 20000 in
theorem ggX3_fillingCode_X0_codeWith : GoodIn wsX3_fillingCode wsX0_codeWith := goodIn_r _ [6] rfl (by decide +kernel)
set_option maxRecDepth 20000 in
theorem gX3_fillingCode_X0_codeWith : GoodIn wsX3_fillingCode (va_wsS RX3 23 yX0_codeWith wsX0_codeWith) := goodIn_app (goodIn_r _ [3, 4, 5] rfl (by decide +kernel)) ggX3_fillingCode_X0_codeWith
theorem dX3_fillingCode_0 : decode cX3_fillingCode 0 = .ok (.iconst 0, 1) := by decide +kernel
theorem dX3_fillingCode_1 : decode cX3_fillingCode 1 = .ok (.istore_n 1, 1) := by decide +kernel
theorem dX3_fillingCode_2 : decode cX3_fillingCode 2 = .ok (.iconst 0, 1) := by decide +kernel
theorem dX3_fillingCode_3 : decode cX3_fillingCode 3 = .ok (.istore_n 2, 1) := by decide +kernel
theorem dX3_fillingCode_4 : decode cX3_fillingCode 4 = .ok (.iload_n 2, 1) := by decide +kernel
theorem dX3_fillingCode_5 : decode cX3_fillingCode 5 = .ok (.aload_n 0, 1) := by decide +kernel
theorem dX3_fillingCode_6 : decode cX3_fillingCode 6 = .ok (.getfield 15, 3) := by decide +kernel
theorem dX3_fillingCode_9 : decode cX3_fillingCode 9 = .ok (.if_icmp .ge 23, 3) := by decide +kernel
theorem dX3_fillingCode_12 : decode cX3_fillingCode 12 = .ok (.iload_n 1, 1) := by decide +kernel
theorem dX3_fillingCode_13 : decode cX3_fillingCode 13 = .ok (.aload_n 0, 1) := by decide +kernel
theorem dX3_fillingCode_14 : decode cX3_fillingCode 14 = .ok (.getfield 9, 3) := by decide +kernel
theorem dX3_fillingCode_17 : decode cX3_fillingCode 17 = .ok (.iload_n 2, 1) := by decide +kernel
theorem dX3_fillingCode_18 : decode cX3_fillingCode 18 = .ok (.iaload, 1) := by decide +kernel
theorem dX3_fillingCode_19 : decode cX3_fillingCode 19 = .ok (.bipush 48, 2) := by decide +kernel
theorem dX3_fillingCode_21 : decode cX3_fillingCode 21 = .ok (.isub, 1) := by decide +kernel
theorem dX3_fillingCode_22 : decode cX3_fillingCode 22 = .ok (.invokestatic 23, 3) := by decide +kernel
theorem dX3_fillingCode_25 : decode cX3_fillingCode 25 = .ok (.istore_n 1, 1) := by decide +kernel
theorem dX3_fillingCode_26 : decode cX3_fillingCode 26 = .ok (.iinc 2 1, 3) := by decide +kernel
theorem dX3_fillingCode_29 : decode cX3_fillingCode 29 = .ok (.goto (-25), 3) := by decide +kernel
theorem dX3_fillingCode_32 : decode cX3_fillingCode 32 = .ok (.iload_n 1, 1) := by decide +kernel
theorem dX3_fillingCode_33 : decode cX3_fillingCode 33 = .ok (.ireturn, 1) := by decide +kernel
theorem dX4_init_0 : decode cX4_init 0 = .ok (.aload_n 0, 1) := by decide +kernel
theorem dX4_init_1 : decode cX4_init 1 = .ok (.invokespecial 3, 3) := by decide +kernel
theorem dX4_init_4 : decode cX4_init 4 = .ok (.aload_n 0, 1) := by decide +kernel
theorem dX4_init_5 : decode cX4_init 5 = .ok (.iconst 4, 1) := by decide +kernel
theorem dX4_init_6 : decode cX4_init 6 = .ok (.newarray .int, 2) := by decide +kernel
theorem dX4_init_8 : decode cX4_init 8 = .ok (.putfield 9, 3) := by decide +kernel
theorem dX4_init_11 : decode cX4_init 11 = .ok (.aload_n 0, 1) := by decide +kernel
theorem dX4_init_12 : decode cX4_init 12 = .ok (.iconst 4, 1) := by decide +kernel
theorem dX4_init_13 : decode cX4_init 13 = .ok (.newarray .int, 2) := by decide +kernel
theorem dX4_init_15 : decode cX4_init 15 = .ok (.putfield 15, 3) := by decide +kernel
theorem dX4_init_18 : decode cX4_init 18 = .ok (.aload_n 0, 1) := by decide +kernel
theorem dX4_init_19 : decode cX4_init 19 = .ok (.iconst 4, 1) := by decide +kernel
theorem dX4_init_20 : decode cX4_init 20 = .ok (.newarray .int, 2) := by decide +kernel
theorem dX4_init_22 : decode cX4_init 22 = .ok (.putfield 18, 3) := by decide +kernel
theorem dX4_init_25 : decode cX4_init 25 = .ok (.return_, 1) := by decide +kernel
theorem dX4_isMissing_0 : decode cX4_isMissing 0 = .ok (.aload_n 0, 1) := by decide +kernel
theorem dX4_isMissing_1 : decode cX4_isMissing 1 = .ok (.getfield 21, 3) := by decide +kernel
theorem dX4_isMissing_4 : decode cX4_isMissing 4 = .ok (.ifCond .ne 7, 3) := by decide +kernel
theorem dX4_isMissing_7 : decode cX4_isMissing 7 = .ok (.iconst 1, 1) := by decide +kernel
theorem dX4_isMissing_8 : decode cX4_isMissing 8 = .ok (.goto 4, 3) := by decide +kernel
theorem dX4_isMissing_11 : decode cX4_isMissing 11 = .ok (.iconst 0, 1) := by decide +kernel
theorem dX4_isMissing_12 : decode cX4_isMissing 12 = .ok (.ireturn, 1) := by decide +kernel
theorem dX4_hasRow_0 : decode cX4_hasRow 0 = .ok (.iload_n 1, 1) := by decide +kernel
theorem dX4_hasRow_1 : decode cX4_hasRow 1 = .ok (.ifCond .lt 15, 3) := by decide +kernel
theorem dX4_hasRow_4 : decode cX4_hasRow 4 = .ok (.iload_n 1, 1) := by decide +kernel
theorem dX4_hasRow_5 : decode cX4_hasRow 5 = .ok (.aload_n 0, 1) := by decide +kernel
theorem dX4_hasRow_6 : decode cX4_hasRow 6 = .ok (.getfield 21, 3) := by decide +kernel
theorem dX4_hasRow_9 : decode cX4_hasRow 9 = .ok (.if_icmp .ge 7, 3) := by decide +kernel
theorem dX4_hasRow_12 : decode cX4_hasRow 12 = .ok (.iconst 1, 1) := by decide +kernel
theorem dX4_hasRow_13 : decode cX4_hasRow 13 = .ok (.goto 4, 3) := by decide +kernel
theorem dX4_hasRow_16 : decode cX4_hasRow 16 = .ok (.iconst 0, 1) := by decide +kernel
theorem dX4_hasRow_17 : decode cX4_hasRow 17 = .ok (.ireturn, 1) := by decide +kernel
set_option maxRecDepth 20000 in
theorem ggX4_clear_J7_fill_53178 : GoodIn wsX4_clear wsJ7_fill_53178 := goodIn_r _ [9] rfl (by decide +kernel)
set_option maxRecDepth 20000 in
theorem gX4_clear_J7_fill_53178 : GoodIn wsX4_clear (va_wsS RX4 28 yJ7_fill_53178 wsJ7_fill_53178) := goodIn_app (goodIn_r _ [6, 7, 8] rfl (by decide +kernel)) ggX4_clear_J7_fill_53178
theorem dX4_clear_0 : decode cX4_clear 0 = .ok (.aload_n 0, 1) := by decide +kernel
theorem dX4_clear_1 : decode cX4_clear 1 = .ok (.iconst 0, 1) := by decide +kernel
theorem dX4_clear_2 : decode cX4_clear 2 = .ok (.putfield 25, 3) := by decide +kernel
theorem dX4_clear_5 : decode cX4_clear 5 = .ok (.aload_n 0, 1) := by decide +kernel
theorem dX4_clear_6 : decode cX4_clear 6 = .ok (.iconst 0, 1) := by decide +kernel
theorem dX4_clear_7 : decode cX4_clear 7 = .ok (.putfield 21, 3) := by decide +kernel
theorem dX4_clear_10 : decode cX4_clear 10 = .ok (.aload_n 0, 1) := by decide +kernel
theorem dX4_clear_11 : decode cX4_clear 11 = .ok (.getfield 9, 3) := by decide +kernel
theorem dX4_clear_14 : decode cX4_clear 14 = .ok (.iconst 0, 1) := by decide +kernel
theorem dX4_clear_15 : decode cX4_clear 15 = .ok (.invokestatic 28, 3) := by decide +kernel
theorem dX4_clear_18 : decode cX4_clear 18 = .ok (.aload_n 0, 1) := by decide +kernel
theorem dX4_clear_19 : decode cX4_clear 19 = .ok (.getfield 15, 3) := by decide +kernel
theorem dX4_clear_22 : decode cX4_clear 22 = .ok (.iconst 0, 1) := by decide +kernel
theorem dX4_clear_23 : decode cX4_clear 23 = .ok (.invokestatic 28, 3) := by decide +kernel
theorem dX4_clear_26 : decode cX4_clear 26 = .ok (.aload_n 0, 1) := by decide +kernel
theorem dX4_clear_27 : decode cX4_clear 27 = .ok (.getfield 18, 3) := by decide +kernel
theorem dX4_clear_30 : decode cX4_clear 30 = .ok (.iconst 0, 1) := by decide +kernel
theorem dX4_clear_31 : decode cX4_clear 31 = .ok (.invokestatic 28, 3) := by decide +kernel
theorem dX4_clear_34 : decode cX4_clear 34 = .ok (.return_, 1) := by decide +kernel
theorem dX4_takeOver_0 : decode cX4_takeOver 0 = .ok (.aload_n 0, 1) := by decide +kernel
theorem dX4_takeOver_1 : decode cX4_takeOver 1 = .ok (.aload_n 1, 1) := by decide +kernel
theorem dX4_takeOver_2 : decode cX4_takeOver 2 = .ok (.getfield 25, 3) := by decide +kernel
theorem dX4_takeOver_5 : decode cX4_takeOver 5 = .ok (.putfield 25, 3) := by decide +kernel
theorem dX4_takeOver_8 : decode cX4_takeOver 8 = .ok (.aload_n 0, 1) := by decide +kernel
theorem dX4_takeOver_9 : decode cX4_takeOver 9 = .ok (.aload_n 1, 1) := by decide +kernel
theorem dX4_takeOver_10 : decode cX4_takeOver 10 = .ok (.getfield 21, 3) := by decide +kernel
theorem dX4_takeOver_13 : decode cX4_takeOver 13 = .ok (.putfield 21, 3) := by decide +kernel
theorem dX4_takeOver_16 : decode cX4_takeOver 16 = .ok (.aload_n 1, 1) := by decide +kernel
theorem dX4_takeOver_17 : decode cX4_takeOver 17 = .ok (.getfield 9, 3) := by decide +kernel
theorem dX4_takeOver_20 : decode cX4_takeOver 20 = .ok (.iconst 0, 1) := by decide +kernel
theorem dX4_takeOver_21 : decode cX4_takeOver 21 = .ok (.aload_n 0, 1) := by decide +kernel
theorem dX4_takeOver_22 : decode cX4_takeOver 22 = .ok (.getfield 9, 3) := by decide +kernel
theorem dX4_takeOver_25 : decode cX4_takeOver 25 = .ok (.iconst 0, 1) := by decide +kernel
theorem dX4_takeOver_26 : decode cX4_takeOver 26 = .ok (.iconst 4, 1) := by decide +kernel
theorem dX4_takeOver_27 : decode cX4_takeOver 27 = .ok (.invokestatic 34, 3) := by decide +kernel
theorem dX4_takeOver_30 : decode cX4_takeOver 30 = .ok (.aload_n 1, 1) := by decide +kernel
theorem dX4_takeOver_31 : decode cX4_takeOver 31 = .ok (.getfield 15, 3) := by decide +kernel
theorem dX4_takeOver_34 : decode cX4_takeOver 34 = .ok (.iconst 0, 1) := by decide +kernel
theorem dX4_takeOver_35 : decode cX4_takeOver 35 = .ok (.aload_n 0, 1) := by decide +kernel
theorem dX4_takeOver_36 : decode cX4_takeOver 36 = .ok (.getfield 15, 3) := by decide +kernel
theorem dX4_takeOver_39 : decode cX4_takeOver 39 = .ok (.iconst 0, 1) := by decide +kernel
theorem dX4_takeOver_40 : decode cX4_takeOver 40 = .ok (.iconst 4, 1) := by decide +kernel
theorem dX4_takeOver_41 : decode cX4_takeOver 41 = .ok (.invokestatic 34, 3) := by decide +kernel
theorem dX4_takeOver_44 : decode cX4_takeOver 44 = .ok (.aload_n 1, 1) := by decide +kernel
theorem dX4_takeOver_45 : decode cX4_takeOver 45 = .ok (.getfield 18, 3) := by decide +kernel
theorem dX4_takeOver_48 : decode cX4_takeOver 48 = .ok (.iconst 0, 1) := by decide +kernel
theorem dX4_takeOver_49 : decode cX4_takeOver 49 = .ok (.aload_n 0, 1) := by decide +kernel
theorem dX4_takeOver_50 : decode cX4_takeOver 50 = .ok (.getfield 18, 3) := by decide +kernel
theorem dX4_takeOver_53 : decode cX4_takeOver 53 = .ok (.iconst 0, 1) := by decide +kernel
theorem dX4_takeOver_54 : decode cX4_takeOver 54 = .ok (.iconst 4, 1) := by decide +kernel
theorem dX4_takeOver_55 : decode cX4_takeOver 55 = .ok (.invokestatic 34, 3) := by decide +kernel
theorem dX4_takeOver_58 : decode cX4_takeOver 58 = .ok (.return_, 1) := by decide +kernel
theorem dX4_boxCount_0 : decode cX4_boxCount 0 = .ok (.iconst 0, 1) := by decide +kernel
theorem dX4_boxCount_1 : decode cX4_boxCount 1 = .ok (.istore_n 1, 1) := by decide +kernel
theorem dX4_boxCount_2 : decode cX4_boxCount 2 = .ok (.iconst 0, 1) := by decide +kernel
theorem dX4_boxCount_3 : decode cX4_boxCount 3 = .ok (.istore_n 2, 1) := by decide +kernel
theorem dX4_boxCount_4 : decode cX4_boxCount 4 = .ok (.iload_n 2, 1) := by decide +kernel
theorem dX4_boxCount_5 : decode cX4_boxCount 5 = .ok (.aload_n 0, 1) := by decide +kernel
theorem dX4_boxCount_6 : decode cX4_boxCount 6 = .ok (.getfield 21, 3) := by decide +kernel
theorem dX4_boxCount_9 : decode cX4_boxCount 9 = .ok (.if_icmp .ge 25, 3) := by decide +kernel
theorem dX4_boxCount_12 : decode cX4_boxCount 12 = .ok (.iload_n 1, 1) := by decide +kernel
theorem dX4_boxCount_13 : decode cX4_boxCount 13 = .ok (.aload_n 0, 1) := by decide +kernel
theorem dX4_boxCount_14 : decode cX4_boxCount 14 = .ok (.getfield 9, 3) := by decide +kernel
theorem dX4_boxCount_17 : decode cX4_boxCount 17 = .ok (.iload_n 2, 1) := by decide +kernel
theorem dX4_boxCount_18 : decode cX4_boxCount 18 = .ok (.iaload, 1) := by decide +kernel
theorem dX4_boxCount_19 : decode cX4_boxCount 19 = .ok (.aload_n 0, 1) := by decide +kernel
theorem dX4_boxCount_20 : decode cX4_boxCount 20 = .ok (.getfield 15, 3) := by decide +kernel
theorem dX4_boxCount_23 : decode cX4_boxCount 23 = .ok (.iload_n 2, 1) := by decide +kernel
theorem dX4_boxCount_24 : decode cX4_boxCount 24 = .ok (.iaload, 1) := by decide +kernel
theorem dX4_boxCount_25 : decode cX4_boxCount 25 = .ok (.isub, 1) := by decide +kernel
theorem dX4_boxCount_26 : decode cX4_boxCount 26 = .ok (.iadd, 1) := by decide +kernel
theorem dX4_boxCount_27 : decode cX4_boxCount 27 = .ok (.istore_n 1, 1) := by decide +kernel
theorem dX4_boxCount_28 : decode cX4_boxCount 28 = .ok (.iinc 2 1, 3) := by decide +kernel
theorem dX4_boxCount_31 : decode cX4_boxCount 31 = .ok (.goto (-27), 3) := by decide +kernel
theorem dX4_boxCount_34 : decode cX4_boxCount 34 = .ok (.iload_n 1, 1) := by decide +kernel
theorem dX4_boxCount_35 : decode cX4_boxCount 35 = .ok (.ireturn, 1) := by decide +kernel
theorem dX4_contentSum_0 : decode cX4_contentSum 0 = .ok (.iconst 0, 1) := by decide +kernel
theorem dX4_contentSum_1 : decode cX4_contentSum 1 = .ok (.istore_n 1, 1) := by decide +kernel
theorem dX4_contentSum_2 : decode cX4_contentSum 2 = .ok (.aload_n 0, 1) := by decide +kernel
theorem dX4_contentSum_3 : decode cX4_contentSum 3 = .ok (.getfield 18, 3) := by decide +kernel
theorem dX4_contentSum_6 : decode cX4_contentSum 6 = .ok (.astore_n 2, 1) := by decide +kernel
theorem dX4_contentSum_7 : decode cX4_contentSum 7 = .ok (.aload_n 2, 1) := by decide +kernel
theorem dX4_contentSum_8 : decode cX4_contentSum 8 = .ok (.arraylength, 1) := by decide +kernel
theorem dX4_contentSum_9 : decode cX4_contentSum 9 = .ok (.istore_n 3, 1) := by decide +kernel
theorem dX4_contentSum_10 : decode cX4_contentSum 10 = .ok (.iconst 0, 1) := by decide +kernel
theorem dX4_contentSum_11 : decode cX4_contentSum 11 = .ok (.istore 4, 2) := by decide +kernel
theorem dX4_contentSum_13 : decode cX4_contentSum 13 = .ok (.iload 4, 2) := by decide +kernel
theorem dX4_contentSum_15 : decode cX4_contentSum 15 = .ok (.iload_n 3, 1) := by decide +kernel
theorem dX4_contentSum_16 : decode cX4_contentSum 16 = .ok (.if_icmp .ge 20, 3) := by decide +kernel
theorem dX4_contentSum_19 : decode cX4_contentSum 19 = .ok (.aload_n 2, 1) := by decide +kernel
theorem dX4_contentSum_20 : decode cX4_contentSum 20 = .ok (.iload 4, 2) := by decide +kernel
theorem dX4_contentSum_22 : decode cX4_contentSum 22 = .ok (.iaload, 1) := by decide +kernel
theorem dX4_contentSum_23 : decode cX4_contentSum 23 = .ok (.istore 5, 2) := by decide +kernel
theorem dX4_contentSum_25 : decode cX4_contentSum 25 = .ok (.iload_n 1, 1) := by decide +kernel
theorem dX4_contentSum_26 : decode cX4_contentSum 26 = .ok (.iload 5, 2) := by decide +kernel
theorem dX4_contentSum_28 : decode cX4_contentSum 28 = .ok (.iadd, 1) := by decide +kernel
theorem dX4_contentSum_29 : decode cX4_contentSum 29 = .ok (.istore_n 1, 1) := by decide +kernel
theorem dX4_contentSum_30 : decode cX4_contentSum 30 = .ok (.iinc 4 1, 3) := by decide +kernel
theorem dX4_contentSum_33 : decode cX4_contentSum 33 = .ok (.goto (-20), 3) := by decide +kernel
theorem dX4_contentSum_36 : decode cX4_contentSum 36 = .ok (.iload_n 1, 1) := by decide +kernel
theorem dX4_contentSum_37 : decode cX4_contentSum 37 = .ok (.ireturn, 1) := by decide +kernel
theorem dX4_innerSum_0 : decode cX4_innerSum 0 = .ok (.iconst 0, 1) := by decide +kernel
theorem dX4_innerSum_1 : decode cX4_innerSum 1 = .ok (.istore_n 2, 1) := by decide +kernel
theorem dX4_innerSum_2 : decode cX4_innerSum 2 = .ok (.iconst 0, 1) := by decide +kernel
theorem dX4_innerSum_3 : decode cX4_innerSum 3 = .ok (.istore_n 3, 1) := by decide +kernel
theorem dX4_innerSum_4 : decode cX4_innerSum 4 = .ok (.iload_n 3, 1) := by decide +kernel
theorem dX4_innerSum_5 : decode cX4_innerSum 5 = .ok (.iload_n 1, 1) := by decide +kernel
theorem dX4_innerSum_6 : decode cX4_innerSum 6 = .ok (.if_icmp .ge 26, 3) := by decide +kernel
theorem dX4_innerSum_9 : decode cX4_innerSum 9 = .ok (.iload_n 3, 1) := by decide +kernel
theorem dX4_innerSum_10 : decode cX4_innerSum 10 = .ok (.aload_n 0, 1) := by decide +kernel
theorem dX4_innerSum_11 : decode cX4_innerSum 11 = .ok (.getfield 21, 3) := by decide +kernel
theorem dX4_innerSum_14 : decode cX4_innerSum 14 = .ok (.if_icmp .ge 18, 3) := by decide +kernel
theorem dX4_innerSum_17 : decode cX4_innerSum 17 = .ok (.iload_n 2, 1) := by decide +kernel
theorem dX4_innerSum_18 : decode cX4_innerSum 18 = .ok (.aload_n 0, 1) := by decide +kernel
theorem dX4_innerSum_19 : decode cX4_innerSum 19 = .ok (.getfield 15, 3) := by decide +kernel
theorem dX4_innerSum_22 : decode cX4_innerSum 22 = .ok (.iload_n 3, 1) := by decide +kernel
theorem dX4_innerSum_23 : decode cX4_innerSum 23 = .ok (.iaload, 1) := by decide +kernel
theorem dX4_innerSum_24 : decode cX4_innerSum 24 = .ok (.iadd, 1) := by decide +kernel
theorem dX4_innerSum_25 : decode cX4_innerSum 25 = .ok (.istore_n 2, 1) := by decide +kernel
theorem dX4_innerSum_26 : decode cX4_innerSum 26 = .ok (.iinc 3 1, 3) := by decide +kernel
theorem dX4_innerSum_29 : decode cX4_innerSum 29 = .ok (.goto (-25), 3) := by decide +kernel
theorem dX4_innerSum_32 : decode cX4_innerSum 32 = .ok (.iload_n 2, 1) := by decide +kernel
theorem dX4_innerSum_33 : decode cX4_innerSum 33 = .ok (.ireturn, 1) := by decide +kernel
set_option maxRecDepth 20000 in
theorem ggX4_lengthsAllowed_X4_outerAllowed : GoodIn wsX4_lengthsAllowed wsX4_outerAllowed := goodIn_r _ [8, 2, 13, 14, 15, 16, 17] rfl (by decide +kernel)
set_option maxRecDepth 20000 in
theorem gX4_lengthsAllowed_X4_outerAllowed : GoodIn wsX4_lengthsAllowed (wsV RX4 40 RX4 yX4_outerAllowed wsX4_outerAllowed) := goodIn_app (goodIn_r _ [4, 5, 6, 7] rfl (by decide +kernel)) ggX4_lengthsAllowed_X4_outerAllowed
set_option maxRecDepth 20000 in
theorem ggX4_lengthsAllowed_X4_innerAllowed : GoodIn wsX4_lengthsAllowed wsX4_innerAllowed := goodIn_r _ [12, 3, 2, 13, 14, 15, 16, 17] rfl (by decide +kernel)
set_option maxRecDepth 20000 in
theorem gX4_lengthsAllowed_X4_innerAllowed : GoodIn wsX4_lengthsAllowed (wsV RX4 44 RX4 yX4_innerAllowed wsX4_innerAllowed) := goodIn_app (goodIn_r _ [9, 10, 11, 7] rfl (by decide +kernel)) ggX4_lengthsAllowed_X4_innerAllowed
theorem dX4_lengthsAllowed_0 : decode cX4_lengthsAllowed 0 = .ok (.iconst 0, 1) := by decide +kernel
theorem dX4_lengthsAllowed_1 : decode cX4_lengthsAllowed 1 = .ok (.istore_n 1, 1) := by decide +kernel
theorem dX4_lengthsAllowed_2 : decode cX4_lengthsAllowed 2 = .ok (.iload_n 1, 1) := by decide +kernel
theorem dX4_lengthsAllowed_3 : decode cX4_lengthsAllowed 3 = .ok (.aload_n 0, 1) := by decide +kernel
theorem dX4_lengthsAllowed_4 : decode cX4_lengthsAllowed 4 = .ok (.getfield 21, 3) := by decide +kernel
theorem dX4_lengthsAllowed_7 : decode cX4_lengthsAllowed 7 = .ok (.if_icmp .ge 39, 3) := by decide +kernel
theorem dX4_lengthsAllowed_10 : decode cX4_lengthsAllowed 10 = .ok (.aload_n 0, 1) := by decide +kernel
theorem dX4_lengthsAllowed_11 : decode cX4_lengthsAllowed 11 = .ok (.iload_n 1, 1) := by decide +kernel
theorem dX4_lengthsAllowed_12 : decode cX4_lengthsAllowed 12 = .ok (.aload_n 0, 1) := by decide +kernel
theorem dX4_lengthsAllowed_13 : decode cX4_lengthsAllowed 13 = .ok (.getfield 9, 3) := by decide +kernel
theorem dX4_lengthsAllowed_16 : decode cX4_lengthsAllowed 16 = .ok (.iload_n 1, 1) := by decide +kernel
theorem dX4_lengthsAllowed_17 : decode cX4_lengthsAllowed 17 = .ok (.iaload, 1) := by decide +kernel
theorem dX4_lengthsAllowed_18 : decode cX4_lengthsAllowed 18 = .ok (.invokevirtual 40, 3) := by decide +kernel
theorem dX4_lengthsAllowed_21 : decode cX4_lengthsAllowed 21 = .ok (.ifCond .eq 17, 3) := by decide +kernel
theorem dX4_lengthsAllowed_24 : decode cX4_lengthsAllowed 24 = .ok (.aload_n 0, 1) := by decide +kernel
theorem dX4_lengthsAllowed_25 : decode cX4_lengthsAllowed 25 = .ok (.iload_n 1, 1) := by decide +kernel
theorem dX4_lengthsAllowed_26 : decode cX4_lengthsAllowed 26 = .ok (.aload_n 0, 1) := by decide +kernel
theorem dX4_lengthsAllowed_27 : decode cX4_lengthsAllowed 27 = .ok (.getfield 15, 3) := by decide +kernel
theorem dX4_lengthsAllowed_30 : decode cX4_lengthsAllowed 30 = .ok (.iload_n 1, 1) := by decide +kernel
theorem dX4_lengthsAllowed_31 : decode cX4_lengthsAllowed 31 = .ok (.iaload, 1) := by decide +kernel
theorem dX4_lengthsAllowed_32 : decode cX4_lengthsAllowed 32 = .ok (.invokevirtual 44, 3) := by decide +kernel
theorem dX4_lengthsAllowed_35 : decode cX4_lengthsAllowed 35 = .ok (.ifCond .ne 5, 3) := by decide +kernel
theorem dX4_lengthsAllowed_38 : decode cX4_lengthsAllowed 38 = .ok (.iconst 0, 1) := by decide +kernel
theorem dX4_lengthsAllowed_39 : decode cX4_lengthsAllowed 39 = .ok (.ireturn, 1) := by decide +kernel
theorem dX4_lengthsAllowed_40 : decode cX4_lengthsAllowed 40 = .ok (.iinc 1 1, 3) := by decide +kernel
theorem dX4_lengthsAllowed_43 : decode cX4_lengthsAllowed 43 = .ok (.goto (-41), 3) := by decide +kernel
theorem dX4_lengthsAllowed_46 : decode cX4_lengthsAllowed 46 = .ok (.iconst 1, 1) := by decide +kernel
theorem dX4_lengthsAllowed_47 : decode cX4_lengthsAllowed 47 = .ok (.ireturn, 1) := by decide +kernel
theorem dX4_outerAllowed_0 : decode cX4_outerAllowed 0 = .ok (.iload_n 1, 1) := by decide +kernel
theorem dX4_outerAllowed_1 : decode cX4_outerAllowed 1 = .ok (.ifCond .ne 7, 3) := by decide +kernel
theorem dX4_outerAllowed_4 : decode cX4_outerAllowed 4 = .ok (.iconst 5, 1) := by decide +kernel
theorem dX4_outerAllowed_5 : decode cX4_outerAllowed 5 = .ok (.goto 11, 3) := by decide +kernel
theorem dX4_outerAllowed_8 : decode cX4_outerAllowed 8 = .ok (.aload_n 0, 1) := by decide +kernel
theorem dX4_outerAllowed_9 : decode cX4_outerAllowed 9 = .ok (.getfield 9, 3) := by decide +kernel
theorem dX4_outerAllowed_12 : decode cX4_outerAllowed 12 = .ok (.iload_n 1, 1) := by decide +kernel
theorem dX4_outerAllowed_13 : decode cX4_outerAllowed 13 = .ok (.iconst 1, 1) := by decide +kernel
theorem dX4_outerAllowed_14 : decode cX4_outerAllowed 14 = .ok (.isub, 1) := by decide +kernel
theorem dX4_outerAllowed_15 : decode cX4_outerAllowed 15 = .ok (.iaload, 1) := by decide +kernel
theorem dX4_outerAllowed_16 : decode cX4_outerAllowed 16 = .ok (.istore_n 3, 1) := by decide +kernel
theorem dX4_outerAllowed_17 : decode cX4_outerAllowed 17 = .ok (.iload_n 2, 1) := by decide +kernel
theorem dX4_outerAllowed_18 : decode cX4_outerAllowed 18 = .ok (.iconst 1, 1) := by decide +kernel
theorem dX4_outerAllowed_19 : decode cX4_outerAllowed 19 = .ok (.if_icmp .lt 12, 3) := by decide +kernel
theorem dX4_outerAllowed_22 : decode cX4_outerAllowed 22 = .ok (.iload_n 2, 1) := by decide +kernel
theorem dX4_outerAllowed_23 : decode cX4_outerAllowed 23 = .ok (.iload_n 3, 1) := by decide +kernel
theorem dX4_outerAllowed_24 : decode cX4_outerAllowed 24 = .ok (.if_icmp .gt 7, 3) := by decide +kernel
theorem dX4_outerAllowed_27 : decode cX4_outerAllowed 27 = .ok (.iconst 1, 1) := by decide +kernel
theorem dX4_outerAllowed_28 : decode cX4_outerAllowed 28 = .ok (.goto 4, 3) := by decide +kernel
theorem dX4_outerAllowed_31 : decode cX4_outerAllowed 31 = .ok (.iconst 0, 1) := by decide +kernel
theorem dX4_outerAllowed_32 : decode cX4_outerAllowed 32 = .ok (.ireturn, 1) := by decide +kernel
theorem dX4_innerAllowed_0 : decode cX4_innerAllowed 0 = .ok (.iload_n 1, 1) := by decide +kernel
theorem dX4_innerAllowed_1 : decode cX4_innerAllowed 1 = .ok (.ifCond .ne 7, 3) := by decide +kernel
theorem dX4_innerAllowed_4 : decode cX4_innerAllowed 4 = .ok (.iconst 5, 1) := by decide +kernel
theorem dX4_innerAllowed_5 : decode cX4_innerAllowed 5 = .ok (.goto 11, 3) := by decide +kernel
theorem dX4_innerAllowed_8 : decode cX4_innerAllowed 8 = .ok (.aload_n 0, 1) := by decide +kernel
theorem dX4_innerAllowed_9 : decode cX4_innerAllowed 9 = .ok (.getfield 15, 3) := by decide +kernel
theorem dX4_innerAllowed_12 : decode cX4_innerAllowed 12 = .ok (.iload_n 1, 1) := by decide +kernel
theorem dX4_innerAllowed_13 : decode cX4_innerAllowed 13 = .ok (.iconst 1, 1) := by decide +kernel
theorem dX4_innerAllowed_14 : decode cX4_innerAllowed 14 = .ok (.isub, 1) := by decide +kernel
theorem dX4_innerAllowed_15 : decode cX4_innerAllowed 15 = .ok (.iaload, 1) := by decide +kernel
theorem dX4_innerAllowed_16 : decode cX4_innerAllowed 16 = .ok (.istore_n 3, 1) := by decide +kernel
theorem dX4_innerAllowed_17 : decode cX4_innerAllowed 17 = .ok (.iload_n 2, 1) := by decide +kernel
theorem dX4_innerAllowed_18 : decode cX4_innerAllowed 18 = .ok (.ifCond .lt 22, 3) := by decide +kernel
theorem dX4_innerAllowed_21 : decode cX4_innerAllowed 21 = .ok (.iload_n 2, 1) := by decide +kernel
theorem dX4_innerAllowed_22 : decode cX4_innerAllowed 22 = .ok (.iload_n 3, 1) := by decide +kernel
theorem dX4_innerAllowed_23 : decode cX4_innerAllowed 23 = .ok (.if_icmp .gt 17, 3) := by decide +kernel
theorem dX4_innerAllowed_26 : decode cX4_innerAllowed 26 = .ok (.iload_n 2, 1) := by decide +kernel
theorem dX4_innerAllowed_27 : decode cX4_innerAllowed 27 = .ok (.aload_n 0, 1) := by decide +kernel
theorem dX4_innerAllowed_28 : decode cX4_innerAllowed 28 = .ok (.getfield 9, 3) := by decide +kernel
theorem dX4_innerAllowed_31 : decode cX4_innerAllowed 31 = .ok (.iload_n 1, 1) := by decide +kernel
theorem dX4_innerAllowed_32 : decode cX4_innerAllowed 32 = .ok (.iaload, 1) := by decide +kernel
theorem dX4_innerAllowed_33 : decode cX4_innerAllowed 33 = .ok (.if_icmp .gt 7, 3) := by decide +kernel
theorem dX4_innerAllowed_36 : decode cX4_innerAllowed 36 = .ok (.iconst 1, 1) := by decide +kernel
theorem dX4_innerAllowed_37 : decode cX4_innerAllowed 37 = .ok (.goto 4, 3) := by decide +kernel
theorem dX4_innerAllowed_40 : decode cX4_innerAllowed 40 = .ok (.iconst 0, 1) := by decide +kernel
theorem dX4_innerAllowed_41 : decode cX4_innerAllowed 41 = .ok (.ireturn, 1) := by decide +kernel
theorem dX4_signCount_0 : decode cX4_signCount 0 = .ok (.aload_n 0, 1) := by decide +kernel
theorem dX4_signCount_1 : decode cX4_signCount 1 = .ok (.getfield 21, 3) := by decide +kernel
theorem dX4_signCount_4 : decode cX4_signCount 4 = .ok (.ifCond .ne 7, 3) := by decide +kernel
theorem dX4_signCount_7 : decode cX4_signCount 7 = .ok (.iconst 0, 1) := by decide +kernel
theorem dX4_signCount_8 : decode cX4_signCount 8 = .ok (.goto 13, 3) := by decide +kernel
theorem dX4_signCount_11 : decode cX4_signCount 11 = .ok (.iconst 3, 1) := by decide +kernel
theorem dX4_signCount_12 : decode cX4_signCount 12 = .ok (.iconst 2, 1) := by decide +kernel
theorem dX4_signCount_13 : decode cX4_signCount 13 = .ok (.aload_n 0, 1) := by decide +kernel
theorem dX4_signCount_14 : decode cX4_signCount 14 = .ok (.getfield 21, 3) := by decide +kernel
theorem dX4_signCount_17 : decode cX4_signCount 17 = .ok (.imul, 1) := by decide +kernel
theorem dX4_signCount_18 : decode cX4_signCount 18 = .ok (.iadd, 1) := by decide +kernel
theorem dX4_signCount_19 : decode cX4_signCount 19 = .ok (.iconst 4, 1) := by decide +kernel
theorem dX4_signCount_20 : decode cX4_signCount 20 = .ok (.iadd, 1) := by decide +kernel
theorem dX4_signCount_21 : decode cX4_signCount 21 = .ok (.ireturn, 1) := by decide +kernel
set_option maxRecDepth 20000 in
theorem ggX4_signAt_X4_signCount : GoodIn wsX4_signAt wsX4_signCount := goodIn_r _ [10, 1, 52, 53, 54, 55, 56] rfl (by decide +kernel)
set_option maxRecDepth 20000 in
theorem gX4_signAt_X4_signCount : GoodIn wsX4_signAt (wsV RX4 47 RX4 yX4_signCount wsX4_signCount) := goodIn_app (goodIn_r _ [6, 7, 8, 9] rfl (by decide +kernel)) ggX4_signAt_X4_signCount
set_option maxRecDepth 20000 in
theorem ggX4_signAt_J0_charAt_5068e : GoodIn wsX4_signAt wsJ0_charAt_5068e := goodIn_r _ [15, 16, 17, 18, 19, 14, 20, 21, 22, 23, 24, 25, 26, 27, 28, 29, 30, 31, 32, 33, 34, 35, 36, 37, 38, 39, 40, 41, 42, 43, 44, 45, 46, 47, 48, 49, 50, 51] rfl (by decide +kernel)
set_option maxRecDepth 20000 in
theorem gX4_signAt_J0_charAt_5068e : GoodIn wsX4_signAt (wsV RX4 53 RJ0 yJ0_charAt_5068e wsJ0_charAt_5068e) := goodIn_app (goodIn_r _ [11, 12, 13, 14] rfl (by decide +kernel)) ggX4_signAt_J0_charAt_5068e
theorem dX4_signAt_0 : decode cX4_signAt 0 = .ok (.iload_n 1, 1) := by decide +kernel
theorem dX4_signAt_1 : decode cX4_signAt 1 = .ok (.ifCond .lt 11, 3) := by decide +kernel
theorem dX4_signAt_4 : decode cX4_signAt 4 = .ok (.iload_n 1, 1) := by decide +kernel
theorem dX4_signAt_5 : decode cX4_signAt 5 = .ok (.aload_n 0, 1) := by decide +kernel
theorem dX4_signAt_6 : decode cX4_signAt 6 = .ok (.invokevirtual 47, 3) := by decide +kernel
theorem dX4_signAt_9 : decode cX4_signAt 9 = .ok (.if_icmp .lt 6, 3) := by decide +kernel
theorem dX4_signAt_12 : decode cX4_signAt 12 = .ok (.bipush (-101), 2) := by decide +kernel
theorem dX4_signAt_14 : decode cX4_signAt 14 = .ok (.ireturn, 1) := by decide +kernel
theorem dX4_signAt_15 : decode cX4_signAt 15 = .ok (.iconst 1, 1) := by decide +kernel
theorem dX4_signAt_16 : decode cX4_signAt 16 = .ok (.aload_n 0, 1) := by decide +kernel
theorem dX4_signAt_17 : decode cX4_signAt 17 = .ok (.getfield 21, 3) := by decide +kernel
theorem dX4_signAt_20 : decode cX4_signAt 20 = .ok (.iadd, 1) := by decide +kernel
theorem dX4_signAt_21 : decode cX4_signAt 21 = .ok (.istore_n 2, 1) := by decide +kernel
theorem dX4_signAt_22 : decode cX4_signAt 22 = .ok (.iload_n 2, 1) := by decide +kernel
theorem dX4_signAt_23 : decode cX4_signAt 23 = .ok (.iconst 1, 1) := by decide +kernel
theorem dX4_signAt_24 : decode cX4_signAt 24 = .ok (.iadd, 1) := by decide +kernel
theorem dX4_signAt_25 : decode cX4_signAt 25 = .ok (.aload_n 0, 1) := by decide +kernel
theorem dX4_signAt_26 : decode cX4_signAt 26 = .ok (.getfield 21, 3) := by decide +kernel
theorem dX4_signAt_29 : decode cX4_signAt 29 = .ok (.iadd, 1) := by decide +kernel
theorem dX4_signAt_30 : decode cX4_signAt 30 = .ok (.istore_n 3, 1) := by decide +kernel
theorem dX4_signAt_31 : decode cX4_signAt 31 = .ok (.iload_n 1, 1) := by decide +kernel
theorem dX4_signAt_32 : decode cX4_signAt 32 = .ok (.ifCond .ne 13, 3) := by decide +kernel
theorem dX4_signAt_35 : decode cX4_signAt 35 = .ok (.ldc 51, 2) := by decide +kernel
theorem dX4_signAt_37 : decode cX4_signAt 37 = .ok (.aload_n 0, 1) := by decide +kernel
theorem dX4_signAt_38 : decode cX4_signAt 38 = .ok (.getfield 25, 3) := by decide +kernel
theorem dX4_signAt_41 : decode cX4_signAt 41 = .ok (.invokevirtual 53, 3) := by decide +kernel
theorem dX4_signAt_44 : decode cX4_signAt 44 = .ok (.ireturn, 1) := by decide +kernel
theorem dX4_signAt_45 : decode cX4_signAt 45 = .ok (.iload_n 1, 1) := by decide +kernel
theorem dX4_signAt_46 : decode cX4_signAt 46 = .ok (.iload_n 2, 1) := by decide +kernel
theorem dX4_signAt_47 : decode cX4_signAt 47 = .ok (.if_icmp .ge 15, 3) := by decide +kernel
theorem dX4_signAt_50 : decode cX4_signAt 50 = .ok (.bipush 48, 2) := by decide +kernel
theorem dX4_signAt_52 : decode cX4_signAt 52 = .ok (.aload_n 0, 1) := by decide +kernel
theorem dX4_signAt_53 : decode cX4_signAt 53 = .ok (.getfield 9, 3) := by decide +kernel
theorem dX4_signAt_56 : decode cX4_signAt 56 = .ok (.iload_n 1, 1) := by decide +kernel
theorem dX4_signAt_57 : decode cX4_signAt 57 = .ok (.iconst 1, 1) := by decide +kernel
theorem dX4_signAt_58 : decode cX4_signAt 58 = .ok (.isub, 1) := by decide +kernel
theorem dX4_signAt_59 : decode cX4_signAt 59 = .ok (.iaload, 1) := by decide +kernel
theorem dX4_signAt_60 : decode cX4_signAt 60 = .ok (.iadd, 1) := by decide +kernel
theorem dX4_signAt_61 : decode cX4_signAt 61 = .ok (.ireturn, 1) := by decide +kernel
theorem dX4_signAt_62 : decode cX4_signAt 62 = .ok (.iload_n 1, 1) := by decide +kernel
theorem dX4_signAt_63 : decode cX4_signAt 63 = .ok (.iload_n 2, 1) := by decide +kernel
theorem dX4_signAt_64 : decode cX4_signAt 64 = .ok (.if_icmp .ne 6, 3) := by decide +kernel
theorem dX4_signAt_67 : decode cX4_signAt 67 = .ok (.bipush 47, 2) := by decide +kernel
theorem dX4_signAt_69 : decode cX4_signAt 69 = .ok (.ireturn, 1) := by decide +kernel
theorem dX4_signAt_70 : decode cX4_signAt 70 = .ok (.iload_n 1, 1) := by decide +kernel
theorem dX4_signAt_71 : decode cX4_signAt 71 = .ok (.iload_n 3, 1) := by decide +kernel
theorem dX4_signAt_72 : decode cX4_signAt 72 = .ok (.if_icmp .ge 17, 3) := by decide +kernel
theorem dX4_signAt_75 : decode cX4_signAt 75 = .ok (.bipush 48, 2) := by decide +kernel
theorem dX4_signAt_77 : decode cX4_signAt 77 = .ok (.aload_n 0, 1) := by decide +kernel
theorem dX4_signAt_78 : decode cX4_signAt 78 = .ok (.getfield 15, 3) := by decide +kernel
theorem dX4_signAt_81 : decode cX4_signAt 81 = .ok (.iload_n 1, 1) := by decide +kernel
theorem dX4_signAt_82 : decode cX4_signAt 82 = .ok (.iload_n 2, 1) := by decide +kernel
theorem dX4_signAt_83 : decode cX4_signAt 83 = .ok (.isub, 1) := by decide +kernel
theorem dX4_signAt_84 : decode cX4_signAt 84 = .ok (.iconst 1, 1) := by decide +kernel
theorem dX4_signAt_85 : decode cX4_signAt 85 = .ok (.isub, 1) := by decide +kernel
theorem dX4_signAt_86 : decode cX4_signAt 86 = .ok (.iaload, 1) := by decide +kernel
theorem dX4_signAt_87 : decode cX4_signAt 87 = .ok (.iadd, 1) := by decide +kernel
theorem dX4_signAt_88 : decode cX4_signAt 88 = .ok (.ireturn, 1) := by decide +kernel
theorem dX4_signAt_89 : decode cX4_signAt 89 = .ok (.iload_n 1, 1) := by decide +kernel
theorem dX4_signAt_90 : decode cX4_signAt 90 = .ok (.iload_n 3, 1) := by decide +kernel
theorem dX4_signAt_91 : decode cX4_signAt 91 = .ok (.if_icmp .ne 8, 3) := by decide +kernel
theorem dX4_signAt_94 : decode cX4_signAt 94 = .ok (.bipush 58, 2) := by decide +kernel
theorem dX4_signAt_96 : decode cX4_signAt 96 = .ok (.goto 16, 3) := by decide +kernel
theorem dX4_signAt_99 : decode cX4_signAt 99 = .ok (.bipush 48, 2) := by decide +kernel
theorem dX4_signAt_101 : decode cX4_signAt 101 = .ok (.aload_n 0, 1) := by decide +kernel
theorem dX4_signAt_102 : decode cX4_signAt 102 = .ok (.getfield 18, 3) := by decide +kernel
theorem dX4_signAt_105 : decode cX4_signAt 105 = .ok (.iload_n 1, 1) := by decide +kernel
theorem dX4_signAt_106 : decode cX4_signAt 106 = .ok (.iload_n 3, 1) := by decide +kernel
theorem dX4_signAt_107 : decode cX4_signAt 107 = .ok (.isub, 1) := by decide +kernel
theorem dX4_signAt_108 : decode cX4_signAt 108 = .ok (.iconst 1, 1) := by decide +kernel
theorem dX4_signAt_109 : decode cX4_signAt 109 = .ok (.isub, 1) := by decide +kernel
theorem dX4_signAt_110 : decode cX4_signAt 110 = .ok (.iaload, 1) := by decide +kernel
theorem dX4_signAt_111 : decode cX4_signAt 111 = .ok (.iadd, 1) := by decide +kernel
theorem dX4_signAt_112 : decode cX4_signAt 112 = .ok (.ireturn, 1) := by decide +kernel
theorem dX5_init_0 : decode cX5_init 0 = .ok (.aload_n 0, 1) := by decide +kernel
theorem dX5_init_1 : decode cX5_init 1 = .ok (.invokespecial 5, 3) := by decide +kernel
theorem dX5_init_4 : decode cX5_init 4 = .ok (.aload_n 0, 1) := by decide +kernel
theorem dX5_init_5 : decode cX5_init 5 = .ok (.iconst 4, 1) := by decide +kernel
theorem dX5_init_6 : decode cX5_init 6 = .ok (.newarray .int, 2) := by decide +kernel
theorem dX5_init_8 : decode cX5_init 8 = .ok (.putfield 11, 3) := by decide +kernel
theorem dX5_init_11 : decode cX5_init 11 = .ok (.aload_n 0, 1) := by decide +kernel
theorem dX5_init_12 : decode cX5_init 12 = .ok (.iconst 5, 1) := by decide +kernel
theorem dX5_init_13 : decode cX5_init 13 = .ok (.newarray .int, 2) := by decide +kernel
theorem dX5_init_15 : decode cX5_init 15 = .ok (.putfield 15, 3) := by decide +kernel
theorem dX5_init_18 : decode cX5_init 18 = .ok (.aload_n 0, 1) := by decide +kernel
theorem dX5_init_19 : decode cX5_init 19 = .ok (.iconst 5, 1) := by decide +kernel
theorem dX5_init_20 : decode cX5_init 20 = .ok (.newarray .int, 2) := by decide +kernel
theorem dX5_init_22 : decode cX5_init 22 = .ok (.putfield 18, 3) := by decide +kernel
theorem dX5_init_25 : decode cX5_init 25 = .ok (.aload_n 0, 1) := by decide +kernel
theorem dX5_init_26 : decode cX5_init 26 = .ok (.iconst 4, 1) := by decide +kernel
theorem dX5_init_27 : decode cX5_init 27 = .ok (.iconst 5, 1) := by decide +kernel
theorem dX5_init_28 : decode cX5_init 28 = .ok (.multianewarray 21 2, 4) := by decide +kernel
theorem dX5_init_32 : decode cX5_init 32 = .ok (.putfield 23, 3) := by decide +kernel
theorem dX5_init_35 : decode cX5_init 35 = .ok (.aload_n 0, 1) := by decide +kernel
theorem dX5_init_36 : decode cX5_init 36 = .ok (.sipush 1000, 3) := by decide +kernel
theorem dX5_init_39 : decode cX5_init 39 = .ok (.newarray .int, 2) := by decide +kernel
theorem dX5_init_41 : decode cX5_init 41 = .ok (.putfield 26, 3) := by decide +kernel
theorem dX5_init_44 : decode cX5_init 44 = .ok (.aload_n 0, 1) := by decide +kernel
theorem dX5_init_45 : decode cX5_init 45 = .ok (.sipush 220, 3) := by decide +kernel
theorem dX5_init_48 : decode cX5_init 48 = .ok (.newarray .int, 2) := by decide +kernel
theorem dX5_init_50 : decode cX5_init 50 = .ok (.putfield 29, 3) := by decide +kernel
theorem dX5_init_53 : decode cX5_init 53 = .ok (.return_, 1) := by decide +kernel
set_option maxRecDepth 20000 in
theorem ggX5_findAll_X4_contentSum : GoodIn wsX5_findAll wsX4_contentSum := goodIn_r _ [19, 20, 61, 62, 63, 64, 65] rfl (by decide +kernel)
set_option maxRecDepth 20000 in
theorem gX5_findAll_X4_contentSum : GoodIn wsX5_findAll (wsV RX5 39 RX4 yX4_contentSum wsX4_contentSum) := goodIn_app (goodIn_r _ [15, 16, 17, 18] rfl (by decide +kernel)) ggX5_findAll_X4_contentSum
set_option maxRecDepth 20000 in
theorem ggX5_findAll_X4_isMissing : GoodIn wsX5_findAll wsX4_isMissing := goodIn_r _ [24, 25, 61, 62, 63, 64, 65] rfl (by decide +kernel)
set_option maxRecDepth 20000 in
theorem gX5_findAll_X4_isMissing : GoodIn wsX5_findAll (wsV RX5 48 RX4 yX4_isMissing wsX4_isMissing) := goodIn_app (goodIn_r _ [21, 22, 23, 18] rfl (by decide +kernel)) ggX5_findAll_X4_isMissing
set_option maxRecDepth 20000 in
theorem ggX5_findAll_J7_fill_53178 : GoodIn wsX5_findAll wsJ7_fill_53178 := goodIn_r _ [29] rfl (by decide +kernel)
set_option maxRecDepth 20000 in
theorem gX5_findAll_J7_fill_53178 : GoodIn wsX5_findAll (va_wsS RX5 52 yJ7_fill_53178 wsJ7_fill_53178) := goodIn_app (goodIn_r _ [26, 27, 28] rfl (by decide +kernel)) ggX5_findAll_J7_fill_53178
set_option maxRecDepth 20000 in
theorem ggX5_findAll_X5_share : GoodIn wsX5_findAll wsX5_share := goodIn_r _ [34, 7, 14, 5, 35, 36, 37, 33, 38, 13, 4, 30, 31, 32, 39, 40, 41, 42, 43, 44, 45, 46, 52, 53, 54, 55, 56, 57, 58, 59, 60] rfl (by decide +kernel)
set_option maxRecDepth 20000 in
theorem gX5_findAll_X5_share : GoodIn wsX5_findAll (wsV RX5 68 RX5 yX5_share wsX5_share) := goodIn_app (goodIn_r _ [30, 31, 32, 33] rfl (by decide +kernel)) ggX5_findAll_X5_share
set_option maxRecDepth 20000 in
theorem ggX5_findAll_X5_collect : GoodIn wsX5_findAll wsX5_collect := goodIn_r _ [50, 4, 1, 51, 2, 52, 53, 54, 55, 56, 57, 58, 59, 60] rfl (by decide +kernel)
set_option maxRecDepth 20000 in
theorem gX5_findAll_X5_collect : GoodIn wsX5_findAll (wsV RX5 72 RX5 yX5_collect wsX5_collect) := goodIn_app (goodIn_r _ [47, 48, 49, 33] rfl (by decide +kernel)) ggX5_findAll_X5_collect
theorem dX5_findAll_0 : decode cX5_findAll 0 = .ok (.aload_n 0, 1) := by decide +kernel
theorem dX5_findAll_1 : decode cX5_findAll 1 = .ok (.iconst 0, 1) := by decide +kernel
theorem dX5_findAll_2 : decode cX5_findAll 2 = .ok (.putfield 32, 3) := by decide +kernel
theorem dX5_findAll_5 : decode cX5_findAll 5 = .ok (.aload_n 0, 1) := by decide +kernel
theorem dX5_findAll_6 : decode cX5_findAll 6 = .ok (.iconst 0, 1) := by decide +kernel
theorem dX5_findAll_7 : decode cX5_findAll 7 = .ok (.putfield 36, 3) := by decide +kernel
theorem dX5_findAll_10 : decode cX5_findAll 10 = .ok (.aload_n 0, 1) := by decide +kernel
theorem dX5_findAll_11 : decode cX5_findAll 11 = .ok (.aload_n 1, 1) := by decide +kernel
theorem dX5_findAll_12 : decode cX5_findAll 12 = .ok (.invokevirtual 39, 3) := by decide +kernel
theorem dX5_findAll_15 : decode cX5_findAll 15 = .ok (.putfield 45, 3) := by decide +kernel
theorem dX5_findAll_18 : decode cX5_findAll 18 = .ok (.aload_n 1, 1) := by decide +kernel
theorem dX5_findAll_19 : decode cX5_findAll 19 = .ok (.invokevirtual 48, 3) := by decide +kernel
theorem dX5_findAll_22 : decode cX5_findAll 22 = .ok (.ifCond .ne 12, 3) := by decide +kernel
theorem dX5_findAll_25 : decode cX5_findAll 25 = .ok (.aload_n 0, 1) := by decide +kernel
theorem dX5_findAll_26 : decode cX5_findAll 26 = .ok (.getfield 45, 3) := by decide +kernel
theorem dX5_findAll_29 : decode cX5_findAll 29 = .ok (.bipush 9, 2) := by decide +kernel
theorem dX5_findAll_31 : decode cX5_findAll 31 = .ok (.if_icmp .le 4, 3) := by decide +kernel
theorem dX5_findAll_34 : decode cX5_findAll 34 = .ok (.return_, 1) := by decide +kernel
theorem dX5_findAll_35 : decode cX5_findAll 35 = .ok (.aload_n 0, 1) := by decide +kernel
theorem dX5_findAll_36 : decode cX5_findAll 36 = .ok (.getfield 26, 3) := by decide +kernel
theorem dX5_findAll_39 : decode cX5_findAll 39 = .ok (.iconst 0, 1) := by decide +kernel
theorem dX5_findAll_40 : decode cX5_findAll 40 = .ok (.invokestatic 52, 3) := by decide +kernel
theorem dX5_findAll_43 : decode cX5_findAll 43 = .ok (.aload_n 0, 1) := by decide +kernel
theorem dX5_findAll_44 : decode cX5_findAll 44 = .ok (.getfield 15, 3) := by decide +kernel
theorem dX5_findAll_47 : decode cX5_findAll 47 = .ok (.iconst 0, 1) := by decide +kernel
theorem dX5_findAll_48 : decode cX5_findAll 48 = .ok (.invokestatic 52, 3) := by decide +kernel
theorem dX5_findAll_51 : decode cX5_findAll 51 = .ok (.aload_n 1, 1) := by decide +kernel
theorem dX5_findAll_52 : decode cX5_findAll 52 = .ok (.getfield 58, 3) := by decide +kernel
theorem dX5_findAll_55 : decode cX5_findAll 55 = .ok (.iconst 0, 1) := by decide +kernel
theorem dX5_findAll_56 : decode cX5_findAll 56 = .ok (.aload_n 0, 1) := by decide +kernel
theorem dX5_findAll_57 : decode cX5_findAll 57 = .ok (.getfield 18, 3) := by decide +kernel
theorem dX5_findAll_60 : decode cX5_findAll 60 = .ok (.iconst 1, 1) := by decide +kernel
theorem dX5_findAll_61 : decode cX5_findAll 61 = .ok (.iconst 4, 1) := by decide +kernel
theorem dX5_findAll_62 : decode cX5_findAll 62 = .ok (.invokestatic 61, 3) := by decide +kernel
theorem dX5_findAll_65 : decode cX5_findAll 65 = .ok (.aload_n 1, 1) := by decide +kernel
theorem dX5_findAll_66 : decode cX5_findAll 66 = .ok (.getfield 67, 3) := by decide +kernel
theorem dX5_findAll_69 : decode cX5_findAll 69 = .ok (.iconst 0, 1) := by decide +kernel
theorem dX5_findAll_70 : decode cX5_findAll 70 = .ok (.aload_n 0, 1) := by decide +kernel
theorem dX5_findAll_71 : decode cX5_findAll 71 = .ok (.getfield 11, 3) := by decide +kernel
theorem dX5_findAll_74 : decode cX5_findAll 74 = .ok (.iconst 0, 1) := by decide +kernel
theorem dX5_findAll_75 : decode cX5_findAll 75 = .ok (.iconst 4, 1) := by decide +kernel
theorem dX5_findAll_76 : decode cX5_findAll 76 = .ok (.invokestatic 61, 3) := by decide +kernel
theorem dX5_findAll_79 : decode cX5_findAll 79 = .ok (.iconst 0, 1) := by decide +kernel
theorem dX5_findAll_80 : decode cX5_findAll 80 = .ok (.istore_n 2, 1) := by decide +kernel
theorem dX5_findAll_81 : decode cX5_findAll 81 = .ok (.iload_n 2, 1) := by decide +kernel
theorem dX5_findAll_82 : decode cX5_findAll 82 = .ok (.iconst 4, 1) := by decide +kernel
theorem dX5_findAll_83 : decode cX5_findAll 83 = .ok (.if_icmp .ge 23, 3) := by decide +kernel
theorem dX5_findAll_86 : decode cX5_findAll 86 = .ok (.aload_n 0, 1) := by decide +kernel
theorem dX5_findAll_87 : decode cX5_findAll 87 = .ok (.getfield 23, 3) := by decide +kernel
theorem dX5_findAll_90 : decode cX5_findAll 90 = .ok (.iload_n 2, 1) := by decide +kernel
theorem dX5_findAll_91 : decode cX5_findAll 91 = .ok (.aaload, 1) := by decide +kernel
theorem dX5_findAll_92 : decode cX5_findAll 92 = .ok (.iconst 0, 1) := by decide +kernel
theorem dX5_findAll_93 : decode cX5_findAll 93 = .ok (.aload_n 0, 1) := by decide +kernel
theorem dX5_findAll_94 : decode cX5_findAll 94 = .ok (.getfield 11, 3) := by decide +kernel
theorem dX5_findAll_97 : decode cX5_findAll 97 = .ok (.iload_n 2, 1) := by decide +kernel
theorem dX5_findAll_98 : decode cX5_findAll 98 = .ok (.iaload, 1) := by decide +kernel
theorem dX5_findAll_99 : decode cX5_findAll 99 = .ok (.iastore, 1) := by decide +kernel
theorem dX5_findAll_100 : decode cX5_findAll 100 = .ok (.iinc 2 1, 3) := by decide +kernel
theorem dX5_findAll_103 : decode cX5_findAll 103 = .ok (.goto (-22), 3) := by decide +kernel
theorem dX5_findAll_106 : decode cX5_findAll 106 = .ok (.aload_n 0, 1) := by decide +kernel
theorem dX5_findAll_107 : decode cX5_findAll 107 = .ok (.iconst 0, 1) := by decide +kernel
theorem dX5_findAll_108 : decode cX5_findAll 108 = .ok (.iconst 1, 1) := by decide +kernel
theorem dX5_findAll_109 : decode cX5_findAll 109 = .ok (.invokevirtual 68, 3) := by decide +kernel
theorem dX5_findAll_112 : decode cX5_findAll 112 = .ok (.aload_n 0, 1) := by decide +kernel
theorem dX5_findAll_113 : decode cX5_findAll 113 = .ok (.invokevirtual 72, 3) := by decide +kernel
theorem dX5_findAll_116 : decode cX5_findAll 116 = .ok (.return_, 1) := by decide +kernel
set_option maxRecDepth 20000 in
theorem ggX5_share_X5_tally : GoodIn wsX5_share wsX5_tally := goodIn_r _ [8, 2, 9, 10, 22, 23, 24, 25, 26, 27, 28, 29, 30] rfl (by decide +kernel)
set_option maxRecDepth 20000 in
theorem gX5_share_X5_tally : GoodIn wsX5_share (wsV RX5 75 RX5 yX5_tally wsX5_tally) := goodIn_app (goodIn_r _ [4, 5, 6, 7] rfl (by decide +kernel)) ggX5_share_X5_tally
set_option maxRecDepth 20000 in
theorem ggX5_share_X5_share : GoodIn wsX5_share wsX5_share := goodIn_r _ [0, 1, 2, 3, 4, 5, 6, 7, 8, 9, 10, 11, 12, 13, 14, 15, 16, 17, 18, 19, 20, 21, 22, 23, 24, 25, 26, 27, 28, 29, 30] rfl (by decide +kernel)
set_option maxRecDepth 20000 in
theorem gX5_share_X5_share : GoodIn wsX5_share (wsV RX5 68 RX5 yX5_share wsX5_share) := goodIn_app (goodIn_r _ [11, 12, 13, 7] rfl (by decide +kernel)) ggX5_share_X5_share
set_option maxRecDepth 20000 in
theorem ggX5_share_X5_mostOf : GoodIn wsX5_share wsX5_mostOf := goodIn_r _ [17, 1, 2, 18, 19, 20, 21, 3, 22, 23, 24, 25, 26, 27, 28, 29, 30] rfl (by decide +kernel)
set_option maxRecDepth 20000 in
theorem gX5_share_X5_mostOf : GoodIn wsX5_share (wsV RX5 78 RX5 yX5_mostOf wsX5_mostOf) := goodIn_app (goodIn_r _ [14, 15, 16, 7] rfl (by decide +kernel)) ggX5_share_X5_mostOf
theorem dX5_share_0 : decode cX5_share 0 = .ok (.iload_n 1, 1) := by decide +kernel
theorem dX5_share_1 : decode cX5_share 1 = .ok (.iconst 4, 1) := by decide +kernel
theorem dX5_share_2 : decode cX5_share 2 = .ok (.if_icmp .lt 8, 3) := by decide +kernel
theorem dX5_share_5 : decode cX5_share 5 = .ok (.aload_n 0, 1) := by decide +kernel
theorem dX5_share_6 : decode cX5_share 6 = .ok (.invokevirtual 75, 3) := by decide +kernel
theorem dX5_share_9 : decode cX5_share 9 = .ok (.return_, 1) := by decide +kernel
theorem dX5_share_10 : decode cX5_share 10 = .ok (.iload_n 2, 1) := by decide +kernel
theorem dX5_share_11 : decode cX5_share 11 = .ok (.iconst 4, 1) := by decide +kernel
theorem dX5_share_12 : decode cX5_share 12 = .ok (.if_icmp .le 12, 3) := by decide +kernel
theorem dX5_share_15 : decode cX5_share 15 = .ok (.aload_n 0, 1) := by decide +kernel
theorem dX5_share_16 : decode cX5_share 16 = .ok (.iload_n 1, 1) := by decide +kernel
theorem dX5_share_17 : decode cX5_share 17 = .ok (.iconst 1, 1) := by decide +kernel
theorem dX5_share_18 : decode cX5_share 18 = .ok (.iadd, 1) := by decide +kernel
theorem dX5_share_19 : decode cX5_share 19 = .ok (.iconst 1, 1) := by decide +kernel
theorem dX5_share_20 : decode cX5_share 20 = .ok (.invokevirtual 68, 3) := by decide +kernel
theorem dX5_share_23 : decode cX5_share 23 = .ok (.return_, 1) := by decide +kernel
theorem dX5_share_24 : decode cX5_share 24 = .ok (.iload_n 1, 1) := by decide +kernel
theorem dX5_share_25 : decode cX5_share 25 = .ok (.iconst 3, 1) := by decide +kernel
theorem dX5_share_26 : decode cX5_share 26 = .ok (.if_icmp .ne 12, 3) := by decide +kernel
theorem dX5_share_29 : decode cX5_share 29 = .ok (.aload_n 0, 1) := by decide +kernel
theorem dX5_share_30 : decode cX5_share 30 = .ok (.getfield 18, 3) := by decide +kernel
theorem dX5_share_33 : decode cX5_share 33 = .ok (.iload_n 2, 1) := by decide +kernel
theorem dX5_share_34 : decode cX5_share 34 = .ok (.iaload, 1) := by decide +kernel
theorem dX5_share_35 : decode cX5_share 35 = .ok (.goto 4, 3) := by decide +kernel
theorem dX5_share_38 : decode cX5_share 38 = .ok (.iconst 0, 1) := by decide +kernel
theorem dX5_share_39 : decode cX5_share 39 = .ok (.istore_n 3, 1) := by decide +kernel
theorem dX5_share_40 : decode cX5_share 40 = .ok (.aload_n 0, 1) := by decide +kernel
theorem dX5_share_41 : decode cX5_share 41 = .ok (.iload_n 1, 1) := by decide +kernel
theorem dX5_share_42 : decode cX5_share 42 = .ok (.iload_n 2, 1) := by decide +kernel
theorem dX5_share_43 : decode cX5_share 43 = .ok (.invokevirtual 78, 3) := by decide +kernel
theorem dX5_share_46 : decode cX5_share 46 = .ok (.istore 4, 2) := by decide +kernel
theorem dX5_share_48 : decode cX5_share 48 = .ok (.iload_n 3, 1) := by decide +kernel
theorem dX5_share_49 : decode cX5_share 49 = .ok (.istore 5, 2) := by decide +kernel
theorem dX5_share_51 : decode cX5_share 51 = .ok (.iload 5, 2) := by decide +kernel
theorem dX5_share_53 : decode cX5_share 53 = .ok (.iload 4, 2) := by decide +kernel
theorem dX5_share_55 : decode cX5_share 55 = .ok (.if_icmp .gt 82, 3) := by decide +kernel
theorem dX5_share_58 : decode cX5_share 58 = .ok (.aload_n 0, 1) := by decide +kernel
theorem dX5_share_59 : decode cX5_share 59 = .ok (.getfield 23, 3) := by decide +kernel
theorem dX5_share_62 : decode cX5_share 62 = .ok (.iload_n 1, 1) := by decide +kernel
theorem dX5_share_63 : decode cX5_share 63 = .ok (.aaload, 1) := by decide +kernel
theorem dX5_share_64 : decode cX5_share 64 = .ok (.iload_n 2, 1) := by decide +kernel
theorem dX5_share_65 : decode cX5_share 65 = .ok (.aload_n 0, 1) := by decide +kernel
theorem dX5_share_66 : decode cX5_share 66 = .ok (.getfield 23, 3) := by decide +kernel
theorem dX5_share_69 : decode cX5_share 69 = .ok (.iload_n 1, 1) := by decide +kernel
theorem dX5_share_70 : decode cX5_share 70 = .ok (.aaload, 1) := by decide +kernel
theorem dX5_share_71 : decode cX5_share 71 = .ok (.iload_n 2, 1) := by decide +kernel
theorem dX5_share_72 : decode cX5_share 72 = .ok (.iconst 1, 1) := by decide +kernel
theorem dX5_share_73 : decode cX5_share 73 = .ok (.isub, 1) := by decide +kernel
theorem dX5_share_74 : decode cX5_share 74 = .ok (.iaload, 1) := by decide +kernel
theorem dX5_share_75 : decode cX5_share 75 = .ok (.iload 5, 2) := by decide +kernel
theorem dX5_share_77 : decode cX5_share 77 = .ok (.iadd, 1) := by decide +kernel
theorem dX5_share_78 : decode cX5_share 78 = .ok (.iastore, 1) := by decide +kernel
theorem dX5_share_79 : decode cX5_share 79 = .ok (.aload_n 0, 1) := by decide +kernel
theorem dX5_share_80 : decode cX5_share 80 = .ok (.getfield 15, 3) := by decide +kernel
theorem dX5_share_83 : decode cX5_share 83 = .ok (.iload_n 2, 1) := by decide +kernel
theorem dX5_share_84 : decode cX5_share 84 = .ok (.dup2, 1) := by decide +kernel
theorem dX5_share_85 : decode cX5_share 85 = .ok (.iaload, 1) := by decide +kernel
theorem dX5_share_86 : decode cX5_share 86 = .ok (.iload 5, 2) := by decide +kernel
theorem dX5_share_88 : decode cX5_share 88 = .ok (.iadd, 1) := by decide +kernel
theorem dX5_share_89 : decode cX5_share 89 = .ok (.iastore, 1) := by decide +kernel
theorem dX5_share_90 : decode cX5_share 90 = .ok (.aload_n 0, 1) := by decide +kernel
theorem dX5_share_91 : decode cX5_share 91 = .ok (.getfield 18, 3) := by decide +kernel
theorem dX5_share_94 : decode cX5_share 94 = .ok (.iload_n 2, 1) := by decide +kernel
theorem dX5_share_95 : decode cX5_share 95 = .ok (.dup2, 1) := by decide +kernel
theorem dX5_share_96 : decode cX5_share 96 = .ok (.iaload, 1) := by decide +kernel
theorem dX5_share_97 : decode cX5_share 97 = .ok (.iload 5, 2) := by decide +kernel
theorem dX5_share_99 : decode cX5_share 99 = .ok (.isub, 1) := by decide +kernel
theorem dX5_share_100 : decode cX5_share 100 = .ok (.iastore, 1) := by decide +kernel
theorem dX5_share_101 : decode cX5_share 101 = .ok (.aload_n 0, 1) := by decide +kernel
theorem dX5_share_102 : decode cX5_share 102 = .ok (.iload_n 1, 1) := by decide +kernel
theorem dX5_share_103 : decode cX5_share 103 = .ok (.iload_n 2, 1) := by decide +kernel
theorem dX5_share_104 : decode cX5_share 104 = .ok (.iconst 1, 1) := by decide +kernel
theorem dX5_share_105 : decode cX5_share 105 = .ok (.iadd, 1) := by decide +kernel
theorem dX5_share_106 : decode cX5_share 106 = .ok (.invokevirtual 68, 3) := by decide +kernel
theorem dX5_share_109 : decode cX5_share 109 = .ok (.aload_n 0, 1) := by decide +kernel
theorem dX5_share_110 : decode cX5_share 110 = .ok (.getfield 15, 3) := by decide +kernel
theorem dX5_share_113 : decode cX5_share 113 = .ok (.iload_n 2, 1) := by decide +kernel
theorem dX5_share_114 : decode cX5_share 114 = .ok (.dup2, 1) := by decide +kernel
theorem dX5_share_115 : decode cX5_share 115 = .ok (.iaload, 1) := by decide +kernel
theorem dX5_share_116 : decode cX5_share 116 = .ok (.iload 5, 2) := by decide +kernel
theorem dX5_share_118 : decode cX5_share 118 = .ok (.isub, 1) := by decide +kernel
theorem dX5_share_119 : decode cX5_share 119 = .ok (.iastore, 1) := by decide +kernel
theorem dX5_share_120 : decode cX5_share 120 = .ok (.aload_n 0, 1) := by decide +kernel
theorem dX5_share_121 : decode cX5_share 121 = .ok (.getfield 18, 3) := by decide +kernel
theorem dX5_share_124 : decode cX5_share 124 = .ok (.iload_n 2, 1) := by decide +kernel
theorem dX5_share_125 : decode cX5_share 125 = .ok (.dup2, 1) := by decide +kernel
theorem dX5_share_126 : decode cX5_share 126 = .ok (.iaload, 1) := by decide +kernel
theorem dX5_share_127 : decode cX5_share 127 = .ok (.iload 5, 2) := by decide +kernel
theorem dX5_share_129 : decode cX5_share 129 = .ok (.iadd, 1) := by decide +kernel
theorem dX5_share_130 : decode cX5_share 130 = .ok (.iastore, 1) := by decide +kernel
theorem dX5_share_131 : decode cX5_share 131 = .ok (.iinc 5 1, 3) := by decide +kernel
theorem dX5_share_134 : decode cX5_share 134 = .ok (.goto (-83), 3) := by decide +kernel
theorem dX5_share_137 : decode cX5_share 137 = .ok (.return_, 1) := by decide +kernel
theorem dX5_mostOf_0 : decode cX5_mostOf 0 = .ok (.aload_n 0, 1) := by decide +kernel
theorem dX5_mostOf_1 : decode cX5_mostOf 1 = .ok (.getfield 18, 3) := by decide +kernel
theorem dX5_mostOf_4 : decode cX5_mostOf 4 = .ok (.iload_n 2, 1) := by decide +kernel
theorem dX5_mostOf_5 : decode cX5_mostOf 5 = .ok (.iaload, 1) := by decide +kernel
theorem dX5_mostOf_6 : decode cX5_mostOf 6 = .ok (.istore_n 3, 1) := by decide +kernel
theorem dX5_mostOf_7 : decode cX5_mostOf 7 = .ok (.iload_n 1, 1) := by decide +kernel
theorem dX5_mostOf_8 : decode cX5_mostOf 8 = .ok (.ifCond .le 31, 3) := by decide +kernel
theorem dX5_mostOf_11 : decode cX5_mostOf 11 = .ok (.iload_n 3, 1) := by decide +kernel
theorem dX5_mostOf_12 : decode cX5_mostOf 12 = .ok (.aload_n 0, 1) := by decide +kernel
theorem dX5_mostOf_13 : decode cX5_mostOf 13 = .ok (.getfield 23, 3) := by decide +kernel
theorem dX5_mostOf_16 : decode cX5_mostOf 16 = .ok (.iload_n 1, 1) := by decide +kernel
theorem dX5_mostOf_17 : decode cX5_mostOf 17 = .ok (.iconst 1, 1) := by decide +kernel
theorem dX5_mostOf_18 : decode cX5_mostOf 18 = .ok (.isub, 1) := by decide +kernel
theorem dX5_mostOf_19 : decode cX5_mostOf 19 = .ok (.aaload, 1) := by decide +kernel
theorem dX5_mostOf_20 : decode cX5_mostOf 20 = .ok (.iload_n 2, 1) := by decide +kernel
theorem dX5_mostOf_21 : decode cX5_mostOf 21 = .ok (.iconst 1, 1) := by decide +kernel
theorem dX5_mostOf_22 : decode cX5_mostOf 22 = .ok (.isub, 1) := by decide +kernel
theorem dX5_mostOf_23 : decode cX5_mostOf 23 = .ok (.iaload, 1) := by decide +kernel
theorem dX5_mostOf_24 : decode cX5_mostOf 24 = .ok (.aload_n 0, 1) := by decide +kernel
theorem dX5_mostOf_25 : decode cX5_mostOf 25 = .ok (.getfield 23, 3) := by decide +kernel
theorem dX5_mostOf_28 : decode cX5_mostOf 28 = .ok (.iload_n 1, 1) := by decide +kernel
theorem dX5_mostOf_29 : decode cX5_mostOf 29 = .ok (.aaload, 1) := by decide +kernel
theorem dX5_mostOf_30 : decode cX5_mostOf 30 = .ok (.iload_n 2, 1) := by decide +kernel
theorem dX5_mostOf_31 : decode cX5_mostOf 31 = .ok (.iconst 1, 1) := by decide +kernel
theorem dX5_mostOf_32 : decode cX5_mostOf 32 = .ok (.isub, 1) := by decide +kernel
theorem dX5_mostOf_33 : decode cX5_mostOf 33 = .ok (.iaload, 1) := by decide +kernel
theorem dX5_mostOf_34 : decode cX5_mostOf 34 = .ok (.isub, 1) := by decide +kernel
theorem dX5_mostOf_35 : decode cX5_mostOf 35 = .ok (.invokestatic 82, 3) := by decide +kernel
theorem dX5_mostOf_38 : decode cX5_mostOf 38 = .ok (.istore_n 3, 1) := by decide +kernel
theorem dX5_mostOf_39 : decode cX5_mostOf 39 = .ok (.iload_n 2, 1) := by decide +kernel
theorem dX5_mostOf_40 : decode cX5_mostOf 40 = .ok (.iconst 1, 1) := by decide +kernel
theorem dX5_mostOf_41 : decode cX5_mostOf 41 = .ok (.if_icmp .le 49, 3) := by decide +kernel
theorem dX5_mostOf_44 : decode cX5_mostOf 44 = .ok (.aload_n 0, 1) := by decide +kernel
theorem dX5_mostOf_45 : decode cX5_mostOf 45 = .ok (.getfield 23, 3) := by decide +kernel
theorem dX5_mostOf_48 : decode cX5_mostOf 48 = .ok (.iload_n 1, 1) := by decide +kernel
theorem dX5_mostOf_49 : decode cX5_mostOf 49 = .ok (.aaload, 1) := by decide +kernel
theorem dX5_mostOf_50 : decode cX5_mostOf 50 = .ok (.iload_n 2, 1) := by decide +kernel
theorem dX5_mostOf_51 : decode cX5_mostOf 51 = .ok (.iconst 1, 1) := by decide +kernel
theorem dX5_mostOf_52 : decode cX5_mostOf 52 = .ok (.isub, 1) := by decide +kernel
theorem dX5_mostOf_53 : decode cX5_mostOf 53 = .ok (.iaload, 1) := by decide +kernel
theorem dX5_mostOf_54 : decode cX5_mostOf 54 = .ok (.aload_n 0, 1) := by decide +kernel
theorem dX5_mostOf_55 : decode cX5_mostOf 55 = .ok (.getfield 23, 3) := by decide +kernel
theorem dX5_mostOf_58 : decode cX5_mostOf 58 = .ok (.iload_n 1, 1) := by decide +kernel
theorem dX5_mostOf_59 : decode cX5_mostOf 59 = .ok (.aaload, 1) := by decide +kernel
theorem dX5_mostOf_60 : decode cX5_mostOf 60 = .ok (.iload_n 2, 1) := by decide +kernel
theorem dX5_mostOf_61 : decode cX5_mostOf 61 = .ok (.iconst 2, 1) := by decide +kernel
theorem dX5_mostOf_62 : decode cX5_mostOf 62 = .ok (.isub, 1) := by decide +kernel
theorem dX5_mostOf_63 : decode cX5_mostOf 63 = .ok (.iaload, 1) := by decide +kernel
theorem dX5_mostOf_64 : decode cX5_mostOf 64 = .ok (.isub, 1) := by decide +kernel
theorem dX5_mostOf_65 : decode cX5_mostOf 65 = .ok (.istore 4, 2) := by decide +kernel
theorem dX5_mostOf_67 : decode cX5_mostOf 67 = .ok (.iload_n 3, 1) := by decide +kernel
theorem dX5_mostOf_68 : decode cX5_mostOf 68 = .ok (.aload_n 0, 1) := by decide +kernel
theorem dX5_mostOf_69 : decode cX5_mostOf 69 = .ok (.getfield 15, 3) := by decide +kernel
theorem dX5_mostOf_72 : decode cX5_mostOf 72 = .ok (.iload_n 2, 1) := by decide +kernel
theorem dX5_mostOf_73 : decode cX5_mostOf 73 = .ok (.iconst 1, 1) := by decide +kernel
theorem dX5_mostOf_74 : decode cX5_mostOf 74 = .ok (.isub, 1) := by decide +kernel
theorem dX5_mostOf_75 : decode cX5_mostOf 75 = .ok (.iaload, 1) := by decide +kernel
theorem dX5_mostOf_76 : decode cX5_mostOf 76 = .ok (.iload 4, 2) := by decide +kernel
theorem dX5_mostOf_78 : decode cX5_mostOf 78 = .ok (.isub, 1) := by decide +kernel
theorem dX5_mostOf_79 : decode cX5_mostOf 79 = .ok (.aload_n 0, 1) := by decide +kernel
theorem dX5_mostOf_80 : decode cX5_mostOf 80 = .ok (.getfield 15, 3) := by decide +kernel
theorem dX5_mostOf_83 : decode cX5_mostOf 83 = .ok (.iload_n 2, 1) := by decide +kernel
theorem dX5_mostOf_84 : decode cX5_mostOf 84 = .ok (.iaload, 1) := by decide +kernel
theorem dX5_mostOf_85 : decode cX5_mostOf 85 = .ok (.isub, 1) := by decide +kernel
theorem dX5_mostOf_86 : decode cX5_mostOf 86 = .ok (.invokestatic 82, 3) := by decide +kernel
theorem dX5_mostOf_89 : decode cX5_mostOf 89 = .ok (.istore_n 3, 1) := by decide +kernel
theorem dX5_mostOf_90 : decode cX5_mostOf 90 = .ok (.iload_n 3, 1) := by decide +kernel
theorem dX5_mostOf_91 : decode cX5_mostOf 91 = .ok (.ireturn, 1) := by decide +kernel
theorem dX5_tally_0 : decode cX5_tally 0 = .ok (.iconst 0, 1) := by decide +kernel
theorem dX5_tally_1 : decode cX5_tally 1 = .ok (.istore_n 1, 1) := by decide +kernel
theorem dX5_tally_2 : decode cX5_tally 2 = .ok (.iconst 0, 1) := by decide +kernel
theorem dX5_tally_3 : decode cX5_tally 3 = .ok (.istore_n 2, 1) := by decide +kernel
theorem dX5_tally_4 : decode cX5_tally 4 = .ok (.iload_n 2, 1) := by decide +kernel
theorem dX5_tally_5 : decode cX5_tally 5 = .ok (.iconst 3, 1) := by decide +kernel
theorem dX5_tally_6 : decode cX5_tally 6 = .ok (.if_icmp .ge 30, 3) := by decide +kernel
theorem dX5_tally_9 : decode cX5_tally 9 = .ok (.bipush 10, 2) := by decide +kernel
theorem dX5_tally_11 : decode cX5_tally 11 = .ok (.iload_n 1, 1) := by decide +kernel
theorem dX5_tally_12 : decode cX5_tally 12 = .ok (.imul, 1) := by decide +kernel
theorem dX5_tally_13 : decode cX5_tally 13 = .ok (.aload_n 0, 1) := by decide +kernel
theorem dX5_tally_14 : decode cX5_tally 14 = .ok (.getfield 23, 3) := by decide +kernel
theorem dX5_tally_17 : decode cX5_tally 17 = .ok (.iload_n 2, 1) := by decide +kernel
theorem dX5_tally_18 : decode cX5_tally 18 = .ok (.aaload, 1) := by decide +kernel
theorem dX5_tally_19 : decode cX5_tally 19 = .ok (.iconst 4, 1) := by decide +kernel
theorem dX5_tally_20 : decode cX5_tally 20 = .ok (.iaload, 1) := by decide +kernel
theorem dX5_tally_21 : decode cX5_tally 21 = .ok (.iadd, 1) := by decide +kernel
theorem dX5_tally_22 : decode cX5_tally 22 = .ok (.aload_n 0, 1) := by decide +kernel
theorem dX5_tally_23 : decode cX5_tally 23 = .ok (.getfield 11, 3) := by decide +kernel
theorem dX5_tally_26 : decode cX5_tally 26 = .ok (.iload_n 2, 1) := by decide +kernel
theorem dX5_tally_27 : decode cX5_tally 27 = .ok (.iaload, 1) := by decide +kernel
theorem dX5_tally_28 : decode cX5_tally 28 = .ok (.isub, 1) := by decide +kernel
theorem dX5_tally_29 : decode cX5_tally 29 = .ok (.istore_n 1, 1) := by decide +kernel
theorem dX5_tally_30 : decode cX5_tally 30 = .ok (.iinc 2 1, 3) := by decide +kernel
theorem dX5_tally_33 : decode cX5_tally 33 = .ok (.goto (-29), 3) := by decide +kernel
theorem dX5_tally_36 : decode cX5_tally 36 = .ok (.iload_n 1, 1) := by decide +kernel
theorem dX5_tally_37 : decode cX5_tally 37 = .ok (.ifCond .lt 20, 3) := by decide +kernel
theorem dX5_tally_40 : decode cX5_tally 40 = .ok (.iload_n 1, 1) := by decide +kernel
theorem dX5_tally_41 : decode cX5_tally 41 = .ok (.sipush 1000, 3) := by decide +kernel
theorem dX5_tally_44 : decode cX5_tally 44 = .ok (.if_icmp .ge 13, 3) := by decide +kernel
theorem dX5_tally_47 : decode cX5_tally 47 = .ok (.aload_n 0, 1) := by decide +kernel
theorem dX5_tally_48 : decode cX5_tally 48 = .ok (.getfield 26, 3) := by decide +kernel
theorem dX5_tally_51 : decode cX5_tally 51 = .ok (.iload_n 1, 1) := by decide +kernel
theorem dX5_tally_52 : decode cX5_tally 52 = .ok (.dup2, 1) := by decide +kernel
theorem dX5_tally_53 : decode cX5_tally 53 = .ok (.iaload, 1) := by decide +kernel
theorem dX5_tally_54 : decode cX5_tally 54 = .ok (.iconst 1, 1) := by decide +kernel
theorem dX5_tally_55 : decode cX5_tally 55 = .ok (.iadd, 1) := by decide +kernel
theorem dX5_tally_56 : decode cX5_tally 56 = .ok (.iastore, 1) := by decide +kernel
theorem dX5_tally_57 : decode cX5_tally 57 = .ok (.return_, 1) := by decide +kernel
theorem dX5_collect_0 : decode cX5_collect 0 = .ok (.sipush 999, 3) := by decide +kernel
theorem dX5_collect_3 : decode cX5_collect 3 = .ok (.istore_n 1, 1) := by decide +kernel
theorem dX5_collect_4 : decode cX5_collect 4 = .ok (.iload_n 1, 1) := by decide +kernel
theorem dX5_collect_5 : decode cX5_collect 5 = .ok (.ifCond .lt 63, 3) := by decide +kernel
theorem dX5_collect_8 : decode cX5_collect 8 = .ok (.aload_n 0, 1) := by decide +kernel
theorem dX5_collect_9 : decode cX5_collect 9 = .ok (.getfield 26, 3) := by decide +kernel
theorem dX5_collect_12 : decode cX5_collect 12 = .ok (.iload_n 1, 1) := by decide +kernel
theorem dX5_collect_13 : decode cX5_collect 13 = .ok (.iaload, 1) := by decide +kernel
theorem dX5_collect_14 : decode cX5_collect 14 = .ok (.ifCond .le 48, 3) := by decide +kernel
theorem dX5_collect_17 : decode cX5_collect 17 = .ok (.aload_n 0, 1) := by decide +kernel
theorem dX5_collect_18 : decode cX5_collect 18 = .ok (.getfield 32, 3) := by decide +kernel
theorem dX5_collect_21 : decode cX5_collect 21 = .ok (.sipush 220, 3) := by decide +kernel
theorem dX5_collect_24 : decode cX5_collect 24 = .ok (.if_icmp .ge 38, 3) := by decide +kernel
theorem dX5_collect_27 : decode cX5_collect 27 = .ok (.aload_n 0, 1) := by decide +kernel
theorem dX5_collect_28 : decode cX5_collect 28 = .ok (.getfield 29, 3) := by decide +kernel
theorem dX5_collect_31 : decode cX5_collect 31 = .ok (.aload_n 0, 1) := by decide +kernel
theorem dX5_collect_32 : decode cX5_collect 32 = .ok (.getfield 32, 3) := by decide +kernel
theorem dX5_collect_35 : decode cX5_collect 35 = .ok (.iload_n 1, 1) := by decide +kernel
theorem dX5_collect_36 : decode cX5_collect 36 = .ok (.iastore, 1) := by decide +kernel
theorem dX5_collect_37 : decode cX5_collect 37 = .ok (.aload_n 0, 1) := by decide +kernel
theorem dX5_collect_38 : decode cX5_collect 38 = .ok (.dup, 1) := by decide +kernel
theorem dX5_collect_39 : decode cX5_collect 39 = .ok (.getfield 32, 3) := by decide +kernel
theorem dX5_collect_42 : decode cX5_collect 42 = .ok (.iconst 1, 1) := by decide +kernel
theorem dX5_collect_43 : decode cX5_collect 43 = .ok (.iadd, 1) := by decide +kernel
theorem dX5_collect_44 : decode cX5_collect 44 = .ok (.putfield 32, 3) := by decide +kernel
theorem dX5_collect_47 : decode cX5_collect 47 = .ok (.aload_n 0, 1) := by decide +kernel
theorem dX5_collect_48 : decode cX5_collect 48 = .ok (.dup, 1) := by decide +kernel
theorem dX5_collect_49 : decode cX5_collect 49 = .ok (.getfield 36, 3) := by decide +kernel
theorem dX5_collect_52 : decode cX5_collect 52 = .ok (.aload_n 0, 1) := by decide +kernel
theorem dX5_collect_53 : decode cX5_collect 53 = .ok (.getfield 26, 3) := by decide +kernel
theorem dX5_collect_56 : decode cX5_collect 56 = .ok (.iload_n 1, 1) := by decide +kernel
theorem dX5_collect_57 : decode cX5_collect 57 = .ok (.iaload, 1) := by decide +kernel
theorem dX5_collect_58 : decode cX5_collect 58 = .ok (.iadd, 1) := by decide +kernel
theorem dX5_collect_59 : decode cX5_collect 59 = .ok (.putfield 36, 3) := by decide +kernel
theorem dX5_collect_62 : decode cX5_collect 62 = .ok (.iinc 1 (-1), 3) := by decide +kernel
theorem dX5_collect_65 : decode cX5_collect 65 = .ok (.goto (-61), 3) := by decide +kernel
theorem dX5_collect_68 : decode cX5_collect 68 = .ok (.return_, 1) := by decide +kernel
theorem dX5_hasTerm_0 : decode cX5_hasTerm 0 = .ok (.iload_n 1, 1) := by decide +kernel
theorem dX5_hasTerm_1 : decode cX5_hasTerm 1 = .ok (.ifCond .lt 15, 3) := by decide +kernel
theorem dX5_hasTerm_4 : decode cX5_hasTerm 4 = .ok (.iload_n 1, 1) := by decide +kernel
theorem dX5_hasTerm_5 : decode cX5_hasTerm 5 = .ok (.aload_n 0, 1) := by decide +kernel
theorem dX5_hasTerm_6 : decode cX5_hasTerm 6 = .ok (.getfield 32, 3) := by decide +kernel
theorem dX5_hasTerm_9 : decode cX5_hasTerm 9 = .ok (.if_icmp .ge 7, 3) := by decide +kernel
theorem dX5_hasTerm_12 : decode cX5_hasTerm 12 = .ok (.iconst 1, 1) := by decide +kernel
theorem dX5_hasTerm_13 : decode cX5_hasTerm 13 = .ok (.goto 4, 3) := by decide +kernel
theorem dX5_hasTerm_16 : decode cX5_hasTerm 16 = .ok (.iconst 0, 1) := by decide +kernel
theorem dX5_hasTerm_17 : decode cX5_hasTerm 17 = .ok (.ireturn, 1) := by decide +kernel
theorem dX5_propertyOf_0 : decode cX5_propertyOf 0 = .ok (.aload_n 0, 1) := by decide +kernel
theorem dX5_propertyOf_1 : decode cX5_propertyOf 1 = .ok (.getfield 29, 3) := by decide +kernel
theorem dX5_propertyOf_4 : decode cX5_propertyOf 4 = .ok (.iload_n 1, 1) := by decide +kernel
theorem dX5_propertyOf_5 : decode cX5_propertyOf 5 = .ok (.iaload, 1) := by decide +kernel
theorem dX5_propertyOf_6 : decode cX5_propertyOf 6 = .ok (.istore_n 3, 1) := by decide +kernel
theorem dX5_propertyOf_7 : decode cX5_propertyOf 7 = .ok (.iload_n 3, 1) := by decide +kernel
theorem dX5_propertyOf_8 : decode cX5_propertyOf 8 = .ok (.bipush 100, 2) := by decide +kernel
theorem dX5_propertyOf_10 : decode cX5_propertyOf 10 = .ok (.idiv, 1) := by decide +kernel
theorem dX5_propertyOf_11 : decode cX5_propertyOf 11 = .ok (.istore 4, 2) := by decide +kernel
theorem dX5_propertyOf_13 : decode cX5_propertyOf 13 = .ok (.iload_n 3, 1) := by decide +kernel
theorem dX5_propertyOf_14 : decode cX5_propertyOf 14 = .ok (.bipush 10, 2) := by decide +kernel
theorem dX5_propertyOf_16 : decode cX5_propertyOf 16 = .ok (.idiv, 1) := by decide +kernel
theorem dX5_propertyOf_17 : decode cX5_propertyOf 17 = .ok (.bipush 10, 2) := by decide +kernel
theorem dX5_propertyOf_19 : decode cX5_propertyOf 19 = .ok (.irem, 1) := by decide +kernel
theorem dX5_propertyOf_20 : decode cX5_propertyOf 20 = .ok (.istore 5, 2) := by decide +kernel
theorem dX5_propertyOf_22 : decode cX5_propertyOf 22 = .ok (.iload_n 3, 1) := by decide +kernel
theorem dX5_propertyOf_23 : decode cX5_propertyOf 23 = .ok (.bipush 10, 2) := by decide +kernel
theorem dX5_propertyOf_25 : decode cX5_propertyOf 25 = .ok (.irem, 1) := by decide +kernel
theorem dX5_propertyOf_26 : decode cX5_propertyOf 26 = .ok (.istore 6, 2) := by decide +kernel
theorem dX5_propertyOf_28 : decode cX5_propertyOf 28 = .ok (.iload_n 2, 1) := by decide +kernel
theorem dX5_propertyOf_29 : decode cX5_propertyOf 29 = .ok (.tableswitch 82 0 3 #[31, 41, 51, 61], 31) := by decide +kernel
theorem dX5_propertyOf_60 : decode cX5_propertyOf 60 = .ok (.aload_n 0, 1) := by decide +kernel
theorem dX5_propertyOf_61 : decode cX5_propertyOf 61 = .ok (.getfield 11, 3) := by decide +kernel
theorem dX5_propertyOf_64 : decode cX5_propertyOf 64 = .ok (.iconst 0, 1) := by decide +kernel
theorem dX5_propertyOf_65 : decode cX5_propertyOf 65 = .ok (.iaload, 1) := by decide +kernel
theorem dX5_propertyOf_66 : decode cX5_propertyOf 66 = .ok (.iload 4, 2) := by decide +kernel
theorem dX5_propertyOf_68 : decode cX5_propertyOf 68 = .ok (.iadd, 1) := by decide +kernel
theorem dX5_propertyOf_69 : decode cX5_propertyOf 69 = .ok (.ireturn, 1) := by decide +kernel
theorem dX5_propertyOf_70 : decode cX5_propertyOf 70 = .ok (.aload_n 0, 1) := by decide +kernel
theorem dX5_propertyOf_71 : decode cX5_propertyOf 71 = .ok (.getfield 11, 3) := by decide +kernel
theorem dX5_propertyOf_74 : decode cX5_propertyOf 74 = .ok (.iconst 1, 1) := by decide +kernel
theorem dX5_propertyOf_75 : decode cX5_propertyOf 75 = .ok (.iaload, 1) := by decide +kernel
theorem dX5_propertyOf_76 : decode cX5_propertyOf 76 = .ok (.iload 5, 2) := by decide +kernel
theorem dX5_propertyOf_78 : decode cX5_propertyOf 78 = .ok (.iadd, 1) := by decide +kernel
theorem dX5_propertyOf_79 : decode cX5_propertyOf 79 = .ok (.ireturn, 1) := by decide +kernel
theorem dX5_propertyOf_80 : decode cX5_propertyOf 80 = .ok (.aload_n 0, 1) := by decide +kernel
theorem dX5_propertyOf_81 : decode cX5_propertyOf 81 = .ok (.getfield 11, 3) := by decide +kernel
theorem dX5_propertyOf_84 : decode cX5_propertyOf 84 = .ok (.iconst 2, 1) := by decide +kernel
theorem dX5_propertyOf_85 : decode cX5_propertyOf 85 = .ok (.iaload, 1) := by decide +kernel
theorem dX5_propertyOf_86 : decode cX5_propertyOf 86 = .ok (.iload 6, 2) := by decide +kernel
theorem dX5_propertyOf_88 : decode cX5_propertyOf 88 = .ok (.iadd, 1) := by decide +kernel
theorem dX5_propertyOf_89 : decode cX5_propertyOf 89 = .ok (.ireturn, 1) := by decide +kernel
theorem dX5_propertyOf_90 : decode cX5_propertyOf 90 = .ok (.aload_n 0, 1) := by decide +kernel
theorem dX5_propertyOf_91 : decode cX5_propertyOf 91 = .ok (.getfield 11, 3) := by decide +kernel
theorem dX5_propertyOf_94 : decode cX5_propertyOf 94 = .ok (.iconst 3, 1) := by decide +kernel
theorem dX5_propertyOf_95 : decode cX5_propertyOf 95 = .ok (.iaload, 1) := by decide +kernel
theorem dX5_propertyOf_96 : decode cX5_propertyOf 96 = .ok (.aload_n 0, 1) := by decide +kernel
theorem dX5_propertyOf_97 : decode cX5_propertyOf 97 = .ok (.getfield 45, 3) := by decide +kernel
theorem dX5_propertyOf_100 : decode cX5_propertyOf 100 = .ok (.iadd, 1) := by decide +kernel
theorem dX5_propertyOf_101 : decode cX5_propertyOf 101 = .ok (.iload 4, 2) := by decide +kernel
theorem dX5_propertyOf_103 : decode cX5_propertyOf 103 = .ok (.isub, 1) := by decide +kernel
theorem dX5_propertyOf_104 : decode cX5_propertyOf 104 = .ok (.iload 5, 2) := by decide +kernel
theorem dX5_propertyOf_106 : decode cX5_propertyOf 106 = .ok (.isub, 1) := by decide +kernel
theorem dX5_propertyOf_107 : decode cX5_propertyOf 107 = .ok (.iload 6, 2) := by decide +kernel
theorem dX5_propertyOf_109 : decode cX5_propertyOf 109 = .ok (.isub, 1) := by decide +kernel
theorem dX5_propertyOf_110 : decode cX5_propertyOf 110 = .ok (.ireturn, 1) := by decide +kernel
theorem dX5_propertyOf_111 : decode cX5_propertyOf 111 = .ok (.aload_n 0, 1) := by decide +kernel
theorem dX5_propertyOf_112 : decode cX5_propertyOf 112 = .ok (.getfield 26, 3) := by decide +kernel
theorem dX5_propertyOf_115 : decode cX5_propertyOf 115 = .ok (.iload_n 3, 1) := by decide +kernel
theorem dX5_propertyOf_116 : decode cX5_propertyOf 116 = .ok (.iaload, 1) := by decide +kernel
theorem dX5_propertyOf_117 : decode cX5_propertyOf 117 = .ok (.ireturn, 1) := by decide +kernel
set_option maxRecDepth 20000 in
theorem ggX6_init_X4_init : GoodIn wsX6_init wsX4_init := goodIn_r _ [9, 10, 2, 3, 11, 12, 13, 14, 15, 16, 17, 18, 19] rfl (by decide +kernel)
set_option maxRecDepth 20000 in
theorem gX6_init_X4_init_n11 : GoodIn wsX6_init (wsX4_init) := ggX6_init_X4_init
theorem dX6_init_0 : decode cX6_init 0 = .ok (.aload_n 0, 1) := by decide +kernel
theorem dX6_init_1 : decode cX6_init 1 = .ok (.invokespecial 3, 3) := by decide +kernel
theorem dX6_init_4 : decode cX6_init 4 = .ok (.aload_n 0, 1) := by decide +kernel
theorem dX6_init_5 : decode cX6_init 5 = .ok (.new 9, 3) := by decide +kernel
theorem dX6_init_8 : decode cX6_init 8 = .ok (.dup, 1) := by decide +kernel
theorem dX6_init_9 : decode cX6_init 9 = .ok (.invokespecial 11, 3) := by decide +kernel
theorem dX6_init_12 : decode cX6_init 12 = .ok (.putfield 12, 3) := by decide +kernel
theorem dX6_init_15 : decode cX6_init 15 = .ok (.return_, 1) := by decide +kernel
set_option maxRecDepth 20000 in
theorem ggX6_readFrom_X4_clear : GoodIn wsX6_readFrom wsX4_clear := goodIn_r _ [8, 9, 10, 11, 12, 13, 14, 15, 16, 17, 152, 153, 154, 155, 156] rfl (by decide +kernel)
set_option maxRecDepth 20000 in
theorem gX6_readFrom_X4_clear : GoodIn wsX6_readFrom (wsV RX6 18 RX4 yX4_clear wsX4_clear) := goodIn_app (goodIn_r _ [4, 5, 6, 7] rfl (by decide +kernel)) ggX6_readFrom_X4_clear
set_option maxRecDepth 20000 in
theorem ggX6_readFrom_X6_enter : GoodIn wsX6_readFrom wsX6_enter := goodIn_r _ [22, 23, 24, 147, 148, 149] rfl (by decide +kernel)
set_option maxRecDepth 20000 in
theorem gX6_readFrom_X6_enter : GoodIn wsX6_readFrom (wsV RX6 21 RX6 yX6_enter wsX6_enter) := goodIn_app (goodIn_r _ [18, 19, 20, 21] rfl (by decide +kernel)) ggX6_readFrom_X6_enter
set_option maxRecDepth 20000 in
theorem ggX6_readFrom_X6_accepts : GoodIn wsX6_readFrom wsX6_accepts := goodIn_r _ [28, 23, 29, 30, 31, 21, 32, 1, 33, 34, 35, 36, 37, 38, 39, 40, 41, 42, 43, 44, 45, 46, 47, 48, 49, 50, 51, 52, 53, 54, 55, 56, 57, 58, 59, 60, 61, 62, 63, 64, 65, 66, 67, 68, 69, 70, 71, 72, 73, 74, 75, 76, 77, 78, 79, 80, 81, 82, 83, 84, 85, 86, 87, 88, 89, 90, 91, 92, 93, 94, 95, 96, 97, 98, 99, 100, 101, 102, 103, 104, 105, 106, 107, 108, 109, 110, 111, 112, 113, 114, 115, 116, 117, 118, 119, 120, 121, 122, 18, 19, 20, 22, 24, 123, 124, 125, 126, 127, 128, 129, 130, 131, 7, 132, 11, 133, 134, 135, 136, 137, 138, 139, 140, 141, 12, 142, 143, 144, 145, 146, 147, 148, 149, 152, 153, 154, 155, 156] rfl (by decide +kernel)
set_option maxRecDepth 20000 in
theorem gX6_readFrom_X6_accepts : GoodIn wsX6_readFrom (wsV RX6 35 RX6 yX6_accepts wsX6_accepts) := goodIn_app (goodIn_r _ [25, 26, 27, 21] rfl (by decide +kernel)) ggX6_readFrom_X6_accepts
theorem dX6_readFrom_0 : decode cX6_readFrom 0 = .ok (.aload_n 0, 1) := by decide +kernel
theorem dX6_readFrom_1 : decode cX6_readFrom 1 = .ok (.getfield 12, 3) := by decide +kernel
theorem dX6_readFrom_4 : decode cX6_readFrom 4 = .ok (.invokevirtual 18, 3) := by decide +kernel
theorem dX6_readFrom_7 : decode cX6_readFrom 7 = .ok (.aload_n 0, 1) := by decide +kernel
theorem dX6_readFrom_8 : decode cX6_readFrom 8 = .ok (.iconst 0, 1) := by decide +kernel
theorem dX6_readFrom_9 : decode cX6_readFrom 9 = .ok (.invokevirtual 21, 3) := by decide +kernel
theorem dX6_readFrom_12 : decode cX6_readFrom 12 = .ok (.iconst 0, 1) := by decide +kernel
theorem dX6_readFrom_13 : decode cX6_readFrom 13 = .ok (.istore_n 2, 1) := by decide +kernel
theorem dX6_readFrom_14 : decode cX6_readFrom 14 = .ok (.iload_n 2, 1) := by decide +kernel
theorem dX6_readFrom_15 : decode cX6_readFrom 15 = .ok (.aload_n 1, 1) := by decide +kernel
theorem dX6_readFrom_16 : decode cX6_readFrom 16 = .ok (.getfield 25, 3) := by decide +kernel
theorem dX6_readFrom_19 : decode cX6_readFrom 19 = .ok (.if_icmp .ge 24, 3) := by decide +kernel
theorem dX6_readFrom_22 : decode cX6_readFrom 22 = .ok (.aload_n 0, 1) := by decide +kernel
theorem dX6_readFrom_23 : decode cX6_readFrom 23 = .ok (.aload_n 1, 1) := by decide +kernel
theorem dX6_readFrom_24 : decode cX6_readFrom 24 = .ok (.getfield 31, 3) := by decide +kernel
theorem dX6_readFrom_27 : decode cX6_readFrom 27 = .ok (.iload_n 2, 1) := by decide +kernel
theorem dX6_readFrom_28 : decode cX6_readFrom 28 = .ok (.iaload, 1) := by decide +kernel
theorem dX6_readFrom_29 : decode cX6_readFrom 29 = .ok (.invokevirtual 35, 3) := by decide +kernel
theorem dX6_readFrom_32 : decode cX6_readFrom 32 = .ok (.ifCond .ne 5, 3) := by decide +kernel
theorem dX6_readFrom_35 : decode cX6_readFrom 35 = .ok (.iload_n 2, 1) := by decide +kernel
theorem dX6_readFrom_36 : decode cX6_readFrom 36 = .ok (.ireturn, 1) := by decide +kernel
theorem dX6_readFrom_37 : decode cX6_readFrom 37 = .ok (.iinc 2 1, 3) := by decide +kernel
theorem dX6_readFrom_40 : decode cX6_readFrom 40 = .ok (.goto (-26), 3) := by decide +kernel
theorem dX6_readFrom_43 : decode cX6_readFrom 43 = .ok (.aload_n 1, 1) := by decide +kernel
theorem dX6_readFrom_44 : decode cX6_readFrom 44 = .ok (.getfield 25, 3) := by decide +kernel
theorem dX6_readFrom_47 : decode cX6_readFrom 47 = .ok (.ireturn, 1) := by decide +kernel
theorem dX6_isComplete_0 : decode cX6_isComplete 0 = .ok (.aload_n 0, 1) := by decide +kernel
theorem dX6_isComplete_1 : decode cX6_isComplete 1 = .ok (.getfield 39, 3) := by decide +kernel
theorem dX6_isComplete_4 : decode cX6_isComplete 4 = .ok (.iconst 3, 1) := by decide +kernel
theorem dX6_isComplete_5 : decode cX6_isComplete 5 = .ok (.if_icmp .ne 14, 3) := by decide +kernel
theorem dX6_isComplete_8 : decode cX6_isComplete 8 = .ok (.aload_n 0, 1) := by decide +kernel
theorem dX6_isComplete_9 : decode cX6_isComplete 9 = .ok (.getfield 42, 3) := by decide +kernel
theorem dX6_isComplete_12 : decode cX6_isComplete 12 = .ok (.ifCond .le 7, 3) := by decide +kernel
theorem dX6_isComplete_15 : decode cX6_isComplete 15 = .ok (.iconst 1, 1) := by decide +kernel
theorem dX6_isComplete_16 : decode cX6_isComplete 16 = .ok (.goto 4, 3) := by decide +kernel
theorem dX6_isComplete_19 : decode cX6_isComplete 19 = .ok (.iconst 0, 1) := by decide +kernel
theorem dX6_isComplete_20 : decode cX6_isComplete 20 = .ok (.ireturn, 1) := by decide +kernel
theorem dX6_enter_0 : decode cX6_enter 0 = .ok (.aload_n 0, 1) := by decide +kernel
theorem dX6_enter_1 : decode cX6_enter 1 = .ok (.iload_n 1, 1) := by decide +kernel
theorem dX6_enter_2 : decode cX6_enter 2 = .ok (.putfield 39, 3) := by decide +kernel
theorem dX6_enter_5 : decode cX6_enter 5 = .ok (.aload_n 0, 1) := by decide +kernel
theorem dX6_enter_6 : decode cX6_enter 6 = .ok (.iconst 0, 1) := by decide +kernel
theorem dX6_enter_7 : decode cX6_enter 7 = .ok (.putfield 42, 3) := by decide +kernel
theorem dX6_enter_10 : decode cX6_enter 10 = .ok (.return_, 1) := by decide +kernel
set_option maxRecDepth 20000 in
theorem ggX6_accepts_X6_acceptsRule : GoodIn wsX6_accepts wsX6_acceptsRule := goodIn_r _ [6, 7, 8, 9, 10, 11, 12, 13, 14, 15, 16, 17, 18, 19, 20, 21, 22, 23, 24, 25, 26, 27, 28, 29, 30, 31, 32, 33, 34, 35, 36, 37, 38, 39, 40, 41, 42, 43, 44, 45, 46, 47, 48, 49, 50, 51, 52, 53, 54, 55, 56, 57, 58, 59, 60, 61, 62, 63, 64, 65, 66, 67, 68, 69, 70, 71, 72, 73, 74, 75, 76, 77, 78, 79, 80, 81, 82, 83, 84, 85, 86, 87, 88, 89, 90, 91, 92, 93, 94, 95, 96, 97, 98, 99, 100, 5, 101, 1, 102, 130, 131, 132, 133, 134, 135, 136, 137] rfl (by decide +kernel)
set_option maxRecDepth 20000 in
theorem gX6_accepts_X6_acceptsRule : GoodIn wsX6_accepts (wsV RX6 45 RX6 yX6_acceptsRule wsX6_acceptsRule) := goodIn_app (goodIn_r _ [2, 3, 4, 5] rfl (by decide +kernel)) ggX6_accepts_X6_acceptsRule
set_option maxRecDepth 20000 in
theorem ggX6_accepts_X6_acceptsOuter : GoodIn wsX6_accepts wsX6_acceptsOuter := goodIn_r _ [106, 102, 7, 107, 108, 98, 99, 100, 5, 101, 1, 109, 110, 111, 112, 113, 114, 130, 131, 132, 133, 134, 135, 136, 137] rfl (by decide +kernel)
set_option maxRecDepth 20000 in
theorem gX6_accepts_X6_acceptsOuter : GoodIn wsX6_accepts (wsV RX6 48 RX6 yX6_acceptsOuter wsX6_acceptsOuter) := goodIn_app (goodIn_r _ [103, 104, 105, 5] rfl (by decide +kernel)) ggX6_accepts_X6_acceptsOuter
set_option maxRecDepth 20000 in
theorem ggX6_accepts_X6_acceptsInner : GoodIn wsX6_accepts wsX6_acceptsInner := goodIn_r _ [118, 102, 7, 108, 119, 98, 99, 100, 5, 101, 1, 120, 121, 122, 112, 123, 124, 114, 130, 131, 132, 133, 134, 135, 136, 137] rfl (by decide +kernel)
set_option maxRecDepth 20000 in
theorem gX6_accepts_X6_acceptsInner : GoodIn wsX6_accepts (wsV RX6 51 RX6 yX6_acceptsInner wsX6_acceptsInner) := goodIn_app (goodIn_r _ [115, 116, 117, 5] rfl (by decide +kernel)) ggX6_accepts_X6_acceptsInner
set_option maxRecDepth 20000 in
theorem ggX6_accepts_X6_acceptsContent : GoodIn wsX6_accepts wsX6_acceptsContent := goodIn_r _ [128, 102, 7, 129, 130, 131, 132, 133, 134, 135, 136, 137] rfl (by decide +kernel)
set_option maxRecDepth 20000 in
theorem gX6_accepts_X6_acceptsContent : GoodIn wsX6_accepts (wsV RX6 54 RX6 yX6_acceptsContent wsX6_acceptsContent) := goodIn_app (goodIn_r _ [125, 126, 127, 5] rfl (by decide +kernel)) ggX6_accepts_X6_acceptsContent
theorem dX6_accepts_0 : decode cX6_accepts 0 = .ok (.aload_n 0, 1) := by decide +kernel
theorem dX6_accepts_1 : decode cX6_accepts 1 = .ok (.getfield 39, 3) := by decide +kernel
theorem dX6_accepts_4 : decode cX6_accepts 4 = .ok (.tableswitch 46 0 2 #[28, 34, 40], 28) := by decide +kernel
theorem dX6_accepts_32 : decode cX6_accepts 32 = .ok (.aload_n 0, 1) := by decide +kernel
theorem dX6_accepts_33 : decode cX6_accepts 33 = .ok (.iload_n 1, 1) := by decide +kernel
theorem dX6_accepts_34 : decode cX6_accepts 34 = .ok (.invokevirtual 45, 3) := by decide +kernel
theorem dX6_accepts_37 : decode cX6_accepts 37 = .ok (.ireturn, 1) := by decide +kernel
theorem dX6_accepts_38 : decode cX6_accepts 38 = .ok (.aload_n 0, 1) := by decide +kernel
theorem dX6_accepts_39 : decode cX6_accepts 39 = .ok (.iload_n 1, 1) := by decide +kernel
theorem dX6_accepts_40 : decode cX6_accepts 40 = .ok (.invokevirtual 48, 3) := by decide +kernel
theorem dX6_accepts_43 : decode cX6_accepts 43 = .ok (.ireturn, 1) := by decide +kernel
theorem dX6_accepts_44 : decode cX6_accepts 44 = .ok (.aload_n 0, 1) := by decide +kernel
theorem dX6_accepts_45 : decode cX6_accepts 45 = .ok (.iload_n 1, 1) := by decide +kernel
theorem dX6_accepts_46 : decode cX6_accepts 46 = .ok (.invokevirtual 51, 3) := by decide +kernel
theorem dX6_accepts_49 : decode cX6_accepts 49 = .ok (.ireturn, 1) := by decide +kernel
theorem dX6_accepts_50 : decode cX6_accepts 50 = .ok (.aload_n 0, 1) := by decide +kernel
theorem dX6_accepts_51 : decode cX6_accepts 51 = .ok (.iload_n 1, 1) := by decide +kernel
theorem dX6_accepts_52 : decode cX6_accepts 52 = .ok (.invokevirtual 54, 3) := by decide +kernel
theorem dX6_accepts_55 : decode cX6_accepts 55 = .ok (.ireturn, 1) := by decide +kernel
set_option maxRecDepth 20000 in
theorem ggX6_acceptsRule_J0_indexOf_0f7a4 : GoodIn wsX6_acceptsRule wsJ0_indexOf_0f7a4 := goodIn_r _ [7, 8, 9, 10, 6, 11, 12, 13, 14, 15, 16, 17, 18, 19, 20, 21, 22, 23, 24, 25, 26, 27, 28, 29, 30, 31, 32, 33, 34, 35, 36, 37, 38, 39, 40, 41, 42, 43, 44, 45, 46, 47, 48, 49, 50, 51, 52, 53, 54, 55, 56, 57, 58, 59, 60, 61, 62, 63, 64, 65, 66, 67, 68, 69, 70, 71, 72, 73, 74, 75, 76, 77, 78, 79, 80, 81, 82, 83, 84, 85, 86, 87, 88, 89, 90, 91] rfl (by decide +kernel)
set_option maxRecDepth 20000 in
theorem gX6_acceptsRule_J0_indexOf_0f7a4 : GoodIn wsX6_acceptsRule (wsV RX6 59 RJ0 yJ0_indexOf_0f7a4 wsJ0_indexOf_0f7a4) := goodIn_app (goodIn_r _ [3, 4, 5, 6] rfl (by decide +kernel)) ggX6_acceptsRule_J0_indexOf_0f7a4
set_option maxRecDepth 20000 in
theorem ggX6_acceptsRule_X6_enter : GoodIn wsX6_acceptsRule wsX6_enter := goodIn_r _ [96, 97, 98, 99, 100, 101] rfl (by decide +kernel)
set_option maxRecDepth 20000 in
theorem gX6_acceptsRule_X6_enter : GoodIn wsX6_acceptsRule (wsV RX6 21 RX6 yX6_enter wsX6_enter) := goodIn_app (goodIn_r _ [92, 93, 94, 95] rfl (by decide +kernel)) ggX6_acceptsRule_X6_enter
theorem dX6_acceptsRule_0 : decode cX6_acceptsRule 0 = .ok (.ldc 57, 2) := by decide +kernel
theorem dX6_acceptsRule_2 : decode cX6_acceptsRule 2 = .ok (.iload_n 1, 1) := by decide +kernel
theorem dX6_acceptsRule_3 : decode cX6_acceptsRule 3 = .ok (.i2c, 1) := by decide +kernel
theorem dX6_acceptsRule_4 : decode cX6_acceptsRule 4 = .ok (.invokevirtual 59, 3) := by decide +kernel
theorem dX6_acceptsRule_7 : decode cX6_acceptsRule 7 = .ok (.istore_n 2, 1) := by decide +kernel
theorem dX6_acceptsRule_8 : decode cX6_acceptsRule 8 = .ok (.iload_n 2, 1) := by decide +kernel
theorem dX6_acceptsRule_9 : decode cX6_acceptsRule 9 = .ok (.ifCond .ge 5, 3) := by decide +kernel
theorem dX6_acceptsRule_12 : decode cX6_acceptsRule 12 = .ok (.iconst 0, 1) := by decide +kernel
theorem dX6_acceptsRule_13 : decode cX6_acceptsRule 13 = .ok (.ireturn, 1) := by decide +kernel
theorem dX6_acceptsRule_14 : decode cX6_acceptsRule 14 = .ok (.aload_n 0, 1) := by decide +kernel
theorem dX6_acceptsRule_15 : decode cX6_acceptsRule 15 = .ok (.getfield 12, 3) := by decide +kernel
theorem dX6_acceptsRule_18 : decode cX6_acceptsRule 18 = .ok (.iload_n 2, 1) := by decide +kernel
theorem dX6_acceptsRule_19 : decode cX6_acceptsRule 19 = .ok (.putfield 65, 3) := by decide +kernel
theorem dX6_acceptsRule_22 : decode cX6_acceptsRule 22 = .ok (.aload_n 0, 1) := by decide +kernel
theorem dX6_acceptsRule_23 : decode cX6_acceptsRule 23 = .ok (.iconst 1, 1) := by decide +kernel
theorem dX6_acceptsRule_24 : decode cX6_acceptsRule 24 = .ok (.invokevirtual 21, 3) := by decide +kernel
theorem dX6_acceptsRule_27 : decode cX6_acceptsRule 27 = .ok (.iconst 1, 1) := by decide +kernel
theorem dX6_acceptsRule_28 : decode cX6_acceptsRule 28 = .ok (.ireturn, 1) := by decide +kernel
set_option maxRecDepth 20000 in
theorem ggX6_acceptsOuter_X6_enter : GoodIn wsX6_acceptsOuter wsX6_enter := goodIn_r _ [9, 10, 1, 17, 18, 19] rfl (by decide +kernel)
set_option maxRecDepth 20000 in
theorem gX6_acceptsOuter_X6_enter : GoodIn wsX6_acceptsOuter (wsV RX6 21 RX6 yX6_enter wsX6_enter) := goodIn_app (goodIn_r _ [5, 6, 7, 8] rfl (by decide +kernel)) ggX6_acceptsOuter_X6_enter
set_option maxRecDepth 20000 in
theorem ggX6_acceptsOuter_X4_outerAllowed : GoodIn wsX6_acceptsOuter wsX4_outerAllowed := goodIn_r _ [15, 16, 20, 21, 22, 23, 24] rfl (by decide +kernel)
set_option maxRecDepth 20000 in
theorem gX6_acceptsOuter_X4_outerAllowed : GoodIn wsX6_acceptsOuter (wsV RX6 68 RX4 yX4_outerAllowed wsX4_outerAllowed) := goodIn_app (goodIn_r _ [11, 12, 13, 14] rfl (by decide +kernel)) ggX6_acceptsOuter_X4_outerAllowed
theorem dX6_acceptsOuter_0 : decode cX6_acceptsOuter 0 = .ok (.iload_n 1, 1) := by decide +kernel
theorem dX6_acceptsOuter_1 : decode cX6_acceptsOuter 1 = .ok (.bipush 47, 2) := by decide +kernel
theorem dX6_acceptsOuter_3 : decode cX6_acceptsOuter 3 = .ok (.if_icmp .ne 17, 3) := by decide +kernel
theorem dX6_acceptsOuter_6 : decode cX6_acceptsOuter 6 = .ok (.aload_n 0, 1) := by decide +kernel
theorem dX6_acceptsOuter_7 : decode cX6_acceptsOuter 7 = .ok (.getfield 42, 3) := by decide +kernel
theorem dX6_acceptsOuter_10 : decode cX6_acceptsOuter 10 = .ok (.ifCond .le 10, 3) := by decide +kernel
theorem dX6_acceptsOuter_13 : decode cX6_acceptsOuter 13 = .ok (.aload_n 0, 1) := by decide +kernel
theorem dX6_acceptsOuter_14 : decode cX6_acceptsOuter 14 = .ok (.iconst 2, 1) := by decide +kernel
theorem dX6_acceptsOuter_15 : decode cX6_acceptsOuter 15 = .ok (.invokevirtual 21, 3) := by decide +kernel
theorem dX6_acceptsOuter_18 : decode cX6_acceptsOuter 18 = .ok (.iconst 1, 1) := by decide +kernel
theorem dX6_acceptsOuter_19 : decode cX6_acceptsOuter 19 = .ok (.ireturn, 1) := by decide +kernel
theorem dX6_acceptsOuter_20 : decode cX6_acceptsOuter 20 = .ok (.iload_n 1, 1) := by decide +kernel
theorem dX6_acceptsOuter_21 : decode cX6_acceptsOuter 21 = .ok (.bipush 48, 2) := by decide +kernel
theorem dX6_acceptsOuter_23 : decode cX6_acceptsOuter 23 = .ok (.isub, 1) := by decide +kernel
theorem dX6_acceptsOuter_24 : decode cX6_acceptsOuter 24 = .ok (.istore_n 2, 1) := by decide +kernel
theorem dX6_acceptsOuter_25 : decode cX6_acceptsOuter 25 = .ok (.aload_n 0, 1) := by decide +kernel
theorem dX6_acceptsOuter_26 : decode cX6_acceptsOuter 26 = .ok (.getfield 42, 3) := by decide +kernel
theorem dX6_acceptsOuter_29 : decode cX6_acceptsOuter 29 = .ok (.iconst 4, 1) := by decide +kernel
theorem dX6_acceptsOuter_30 : decode cX6_acceptsOuter 30 = .ok (.if_icmp .ge 18, 3) := by decide +kernel
theorem dX6_acceptsOuter_33 : decode cX6_acceptsOuter 33 = .ok (.aload_n 0, 1) := by decide +kernel
theorem dX6_acceptsOuter_34 : decode cX6_acceptsOuter 34 = .ok (.getfield 12, 3) := by decide +kernel
theorem dX6_acceptsOuter_37 : decode cX6_acceptsOuter 37 = .ok (.aload_n 0, 1) := by decide +kernel
theorem dX6_acceptsOuter_38 : decode cX6_acceptsOuter 38 = .ok (.getfield 42, 3) := by decide +kernel
theorem dX6_acceptsOuter_41 : decode cX6_acceptsOuter 41 = .ok (.iload_n 2, 1) := by decide +kernel
theorem dX6_acceptsOuter_42 : decode cX6_acceptsOuter 42 = .ok (.invokevirtual 68, 3) := by decide +kernel
theorem dX6_acceptsOuter_45 : decode cX6_acceptsOuter 45 = .ok (.ifCond .ne 5, 3) := by decide +kernel
theorem dX6_acceptsOuter_48 : decode cX6_acceptsOuter 48 = .ok (.iconst 0, 1) := by decide +kernel
theorem dX6_acceptsOuter_49 : decode cX6_acceptsOuter 49 = .ok (.ireturn, 1) := by decide +kernel
theorem dX6_acceptsOuter_50 : decode cX6_acceptsOuter 50 = .ok (.aload_n 0, 1) := by decide +kernel
theorem dX6_acceptsOuter_51 : decode cX6_acceptsOuter 51 = .ok (.getfield 12, 3) := by decide +kernel
theorem dX6_acceptsOuter_54 : decode cX6_acceptsOuter 54 = .ok (.getfield 72, 3) := by decide +kernel
theorem dX6_acceptsOuter_57 : decode cX6_acceptsOuter 57 = .ok (.aload_n 0, 1) := by decide +kernel
theorem dX6_acceptsOuter_58 : decode cX6_acceptsOuter 58 = .ok (.getfield 42, 3) := by decide +kernel
theorem dX6_acceptsOuter_61 : decode cX6_acceptsOuter 61 = .ok (.iload_n 2, 1) := by decide +kernel
theorem dX6_acceptsOuter_62 : decode cX6_acceptsOuter 62 = .ok (.iastore, 1) := by decide +kernel
theorem dX6_acceptsOuter_63 : decode cX6_acceptsOuter 63 = .ok (.aload_n 0, 1) := by decide +kernel
theorem dX6_acceptsOuter_64 : decode cX6_acceptsOuter 64 = .ok (.dup, 1) := by decide +kernel
theorem dX6_acceptsOuter_65 : decode cX6_acceptsOuter 65 = .ok (.getfield 42, 3) := by decide +kernel
theorem dX6_acceptsOuter_68 : decode cX6_acceptsOuter 68 = .ok (.iconst 1, 1) := by decide +kernel
theorem dX6_acceptsOuter_69 : decode cX6_acceptsOuter 69 = .ok (.iadd, 1) := by decide +kernel
theorem dX6_acceptsOuter_70 : decode cX6_acceptsOuter 70 = .ok (.putfield 42, 3) := by decide +kernel
theorem dX6_acceptsOuter_73 : decode cX6_acceptsOuter 73 = .ok (.aload_n 0, 1) := by decide +kernel
theorem dX6_acceptsOuter_74 : decode cX6_acceptsOuter 74 = .ok (.getfield 12, 3) := by decide +kernel
theorem dX6_acceptsOuter_77 : decode cX6_acceptsOuter 77 = .ok (.aload_n 0, 1) := by decide +kernel
theorem dX6_acceptsOuter_78 : decode cX6_acceptsOuter 78 = .ok (.getfield 42, 3) := by decide +kernel
theorem dX6_acceptsOuter_81 : decode cX6_acceptsOuter 81 = .ok (.putfield 75, 3) := by decide +kernel
theorem dX6_acceptsOuter_84 : decode cX6_acceptsOuter 84 = .ok (.iconst 1, 1) := by decide +kernel
theorem dX6_acceptsOuter_85 : decode cX6_acceptsOuter 85 = .ok (.ireturn, 1) := by decide +kernel
set_option maxRecDepth 20000 in
theorem ggX6_acceptsInner_X6_enter : GoodIn wsX6_acceptsInner wsX6_enter := goodIn_r _ [9, 10, 1, 18, 19, 20] rfl (by decide +kernel)
set_option maxRecDepth 20000 in
theorem gX6_acceptsInner_X6_enter : GoodIn wsX6_acceptsInner (wsV RX6 21 RX6 yX6_enter wsX6_enter) := goodIn_app (goodIn_r _ [5, 6, 7, 8] rfl (by decide +kernel)) ggX6_acceptsInner_X6_enter
set_option maxRecDepth 20000 in
theorem ggX6_acceptsInner_X4_innerAllowed : GoodIn wsX6_acceptsInner wsX4_innerAllowed := goodIn_r _ [15, 16, 17, 21, 22, 23, 24, 25] rfl (by decide +kernel)
set_option maxRecDepth 20000 in
theorem gX6_acceptsInner_X4_innerAllowed : GoodIn wsX6_acceptsInner (wsV RX6 78 RX4 yX4_innerAllowed wsX4_innerAllowed) := goodIn_app (goodIn_r _ [11, 12, 13, 14] rfl (by decide +kernel)) ggX6_acceptsInner_X4_innerAllowed
theorem dX6_acceptsInner_0 : decode cX6_acceptsInner 0 = .ok (.iload_n 1, 1) := by decide +kernel
theorem dX6_acceptsInner_1 : decode cX6_acceptsInner 1 = .ok (.bipush 58, 2) := by decide +kernel
theorem dX6_acceptsInner_3 : decode cX6_acceptsInner 3 = .ok (.if_icmp .ne 10, 3) := by decide +kernel
theorem dX6_acceptsInner_6 : decode cX6_acceptsInner 6 = .ok (.aload_n 0, 1) := by decide +kernel
theorem dX6_acceptsInner_7 : decode cX6_acceptsInner 7 = .ok (.iconst 3, 1) := by decide +kernel
theorem dX6_acceptsInner_8 : decode cX6_acceptsInner 8 = .ok (.invokevirtual 21, 3) := by decide +kernel
theorem dX6_acceptsInner_11 : decode cX6_acceptsInner 11 = .ok (.iconst 1, 1) := by decide +kernel
theorem dX6_acceptsInner_12 : decode cX6_acceptsInner 12 = .ok (.ireturn, 1) := by decide +kernel
theorem dX6_acceptsInner_13 : decode cX6_acceptsInner 13 = .ok (.iload_n 1, 1) := by decide +kernel
theorem dX6_acceptsInner_14 : decode cX6_acceptsInner 14 = .ok (.bipush 48, 2) := by decide +kernel
theorem dX6_acceptsInner_16 : decode cX6_acceptsInner 16 = .ok (.isub, 1) := by decide +kernel
theorem dX6_acceptsInner_17 : decode cX6_acceptsInner 17 = .ok (.istore_n 2, 1) := by decide +kernel
theorem dX6_acceptsInner_18 : decode cX6_acceptsInner 18 = .ok (.aload_n 0, 1) := by decide +kernel
theorem dX6_acceptsInner_19 : decode cX6_acceptsInner 19 = .ok (.getfield 42, 3) := by decide +kernel
theorem dX6_acceptsInner_22 : decode cX6_acceptsInner 22 = .ok (.aload_n 0, 1) := by decide +kernel
theorem dX6_acceptsInner_23 : decode cX6_acceptsInner 23 = .ok (.getfield 12, 3) := by decide +kernel
theorem dX6_acceptsInner_26 : decode cX6_acceptsInner 26 = .ok (.getfield 75, 3) := by decide +kernel
theorem dX6_acceptsInner_29 : decode cX6_acceptsInner 29 = .ok (.if_icmp .ge 18, 3) := by decide +kernel
theorem dX6_acceptsInner_32 : decode cX6_acceptsInner 32 = .ok (.aload_n 0, 1) := by decide +kernel
theorem dX6_acceptsInner_33 : decode cX6_acceptsInner 33 = .ok (.getfield 12, 3) := by decide +kernel
theorem dX6_acceptsInner_36 : decode cX6_acceptsInner 36 = .ok (.aload_n 0, 1) := by decide +kernel
theorem dX6_acceptsInner_37 : decode cX6_acceptsInner 37 = .ok (.getfield 42, 3) := by decide +kernel
theorem dX6_acceptsInner_40 : decode cX6_acceptsInner 40 = .ok (.iload_n 2, 1) := by decide +kernel
theorem dX6_acceptsInner_41 : decode cX6_acceptsInner 41 = .ok (.invokevirtual 78, 3) := by decide +kernel
theorem dX6_acceptsInner_44 : decode cX6_acceptsInner 44 = .ok (.ifCond .ne 5, 3) := by decide +kernel
theorem dX6_acceptsInner_47 : decode cX6_acceptsInner 47 = .ok (.iconst 0, 1) := by decide +kernel
theorem dX6_acceptsInner_48 : decode cX6_acceptsInner 48 = .ok (.ireturn, 1) := by decide +kernel
theorem dX6_acceptsInner_49 : decode cX6_acceptsInner 49 = .ok (.aload_n 0, 1) := by decide +kernel
theorem dX6_acceptsInner_50 : decode cX6_acceptsInner 50 = .ok (.getfield 12, 3) := by decide +kernel
theorem dX6_acceptsInner_53 : decode cX6_acceptsInner 53 = .ok (.getfield 81, 3) := by decide +kernel
theorem dX6_acceptsInner_56 : decode cX6_acceptsInner 56 = .ok (.aload_n 0, 1) := by decide +kernel
theorem dX6_acceptsInner_57 : decode cX6_acceptsInner 57 = .ok (.getfield 42, 3) := by decide +kernel
theorem dX6_acceptsInner_60 : decode cX6_acceptsInner 60 = .ok (.iload_n 2, 1) := by decide +kernel
theorem dX6_acceptsInner_61 : decode cX6_acceptsInner 61 = .ok (.iastore, 1) := by decide +kernel
theorem dX6_acceptsInner_62 : decode cX6_acceptsInner 62 = .ok (.aload_n 0, 1) := by decide +kernel
theorem dX6_acceptsInner_63 : decode cX6_acceptsInner 63 = .ok (.dup, 1) := by decide +kernel
theorem dX6_acceptsInner_64 : decode cX6_acceptsInner 64 = .ok (.getfield 42, 3) := by decide +kernel
theorem dX6_acceptsInner_67 : decode cX6_acceptsInner 67 = .ok (.iconst 1, 1) := by decide +kernel
theorem dX6_acceptsInner_68 : decode cX6_acceptsInner 68 = .ok (.iadd, 1) := by decide +kernel
theorem dX6_acceptsInner_69 : decode cX6_acceptsInner 69 = .ok (.putfield 42, 3) := by decide +kernel
theorem dX6_acceptsInner_72 : decode cX6_acceptsInner 72 = .ok (.iconst 1, 1) := by decide +kernel
theorem dX6_acceptsInner_73 : decode cX6_acceptsInner 73 = .ok (.ireturn, 1) := by decide +kernel
theorem dX6_acceptsContent_0 : decode cX6_acceptsContent 0 = .ok (.iload_n 1, 1) := by decide +kernel
theorem dX6_acceptsContent_1 : decode cX6_acceptsContent 1 = .ok (.bipush 48, 2) := by decide +kernel
theorem dX6_acceptsContent_3 : decode cX6_acceptsContent 3 = .ok (.isub, 1) := by decide +kernel
theorem dX6_acceptsContent_4 : decode cX6_acceptsContent 4 = .ok (.istore_n 2, 1) := by decide +kernel
theorem dX6_acceptsContent_5 : decode cX6_acceptsContent 5 = .ok (.aload_n 0, 1) := by decide +kernel
theorem dX6_acceptsContent_6 : decode cX6_acceptsContent 6 = .ok (.getfield 42, 3) := by decide +kernel
theorem dX6_acceptsContent_9 : decode cX6_acceptsContent 9 = .ok (.iconst 4, 1) := by decide +kernel
theorem dX6_acceptsContent_10 : decode cX6_acceptsContent 10 = .ok (.if_icmp .ge 13, 3) := by decide +kernel
theorem dX6_acceptsContent_13 : decode cX6_acceptsContent 13 = .ok (.iload_n 2, 1) := by decide +kernel
theorem dX6_acceptsContent_14 : decode cX6_acceptsContent 14 = .ok (.ifCond .lt 9, 3) := by decide +kernel
theorem dX6_acceptsContent_17 : decode cX6_acceptsContent 17 = .ok (.iload_n 2, 1) := by decide +kernel
theorem dX6_acceptsContent_18 : decode cX6_acceptsContent 18 = .ok (.bipush 9, 2) := by decide +kernel
theorem dX6_acceptsContent_20 : decode cX6_acceptsContent 20 = .ok (.if_icmp .le 5, 3) := by decide +kernel
theorem dX6_acceptsContent_23 : decode cX6_acceptsContent 23 = .ok (.iconst 0, 1) := by decide +kernel
theorem dX6_acceptsContent_24 : decode cX6_acceptsContent 24 = .ok (.ireturn, 1) := by decide +kernel
theorem dX6_acceptsContent_25 : decode cX6_acceptsContent 25 = .ok (.aload_n 0, 1) := by decide +kernel
theorem dX6_acceptsContent_26 : decode cX6_acceptsContent 26 = .ok (.getfield 12, 3) := by decide +kernel
theorem dX6_acceptsContent_29 : decode cX6_acceptsContent 29 = .ok (.getfield 84, 3) := by decide +kernel
theorem dX6_acceptsContent_32 : decode cX6_acceptsContent 32 = .ok (.aload_n 0, 1) := by decide +kernel
theorem dX6_acceptsContent_33 : decode cX6_acceptsContent 33 = .ok (.getfield 42, 3) := by decide +kernel
theorem dX6_acceptsContent_36 : decode cX6_acceptsContent 36 = .ok (.iload_n 2, 1) := by decide +kernel
theorem dX6_acceptsContent_37 : decode cX6_acceptsContent 37 = .ok (.iastore, 1) := by decide +kernel
theorem dX6_acceptsContent_38 : decode cX6_acceptsContent 38 = .ok (.aload_n 0, 1) := by decide +kernel
theorem dX6_acceptsContent_39 : decode cX6_acceptsContent 39 = .ok (.dup, 1) := by decide +kernel
theorem dX6_acceptsContent_40 : decode cX6_acceptsContent 40 = .ok (.getfield 42, 3) := by decide +kernel
theorem dX6_acceptsContent_43 : decode cX6_acceptsContent 43 = .ok (.iconst 1, 1) := by decide +kernel
theorem dX6_acceptsContent_44 : decode cX6_acceptsContent 44 = .ok (.iadd, 1) := by decide +kernel
theorem dX6_acceptsContent_45 : decode cX6_acceptsContent 45 = .ok (.putfield 42, 3) := by decide +kernel
theorem dX6_acceptsContent_48 : decode cX6_acceptsContent 48 = .ok (.iconst 1, 1) := by decide +kernel
theorem dX6_acceptsContent_49 : decode cX6_acceptsContent 49 = .ok (.ireturn, 1) := by decide +kernel
