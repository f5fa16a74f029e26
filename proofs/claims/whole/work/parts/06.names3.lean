theorem dX8_init_0 : decode cX8_init 0 = .ok (.aload_n 0, 1) := by decide +kernel
theorem dX8_init_1 : decode cX8_init 1 = .ok (.invokespecial 1, 3) := by decide +kernel
theorem dX8_init_4 : decode cX8_init 4 = .ok (.aload_n 0, 1) := by decide +kernel
theorem dX8_init_5 : decode cX8_init 5 = .ok (.iconst 4, 1) := by decide +kernel
theorem dX8_init_6 : decode cX8_init 6 = .ok (.newarray .int, 2) := by decide +kernel
theorem dX8_init_8 : decode cX8_init 8 = .ok (.putfield 7, 3) := by decide +kernel
theorem dX8_init_11 : decode cX8_init 11 = .ok (.aload_n 0, 1) := by decide +kernel
theorem dX8_init_12 : decode cX8_init 12 = .ok (.iconst 4, 1) := by decide +kernel
theorem dX8_init_13 : decode cX8_init 13 = .ok (.newarray .int, 2) := by decide +kernel
theorem dX8_init_15 : decode cX8_init 15 = .ok (.putfield 13, 3) := by decide +kernel
theorem dX8_init_18 : decode cX8_init 18 = .ok (.aload_n 0, 1) := by decide +kernel
theorem dX8_init_19 : decode cX8_init 19 = .ok (.iconst 4, 1) := by decide +kernel
theorem dX8_init_20 : decode cX8_init 20 = .ok (.newarray .int, 2) := by decide +kernel
theorem dX8_init_22 : decode cX8_init 22 = .ok (.putfield 16, 3) := by decide +kernel
theorem dX8_init_25 : decode cX8_init 25 = .ok (.aload_n 0, 1) := by decide +kernel
theorem dX8_init_26 : decode cX8_init 26 = .ok (.bipush 9, 2) := by decide +kernel
theorem dX8_init_28 : decode cX8_init 28 = .ok (.newarray .int, 2) := by decide +kernel
theorem dX8_init_30 : decode cX8_init 30 = .ok (.putfield 19, 3) := by decide +kernel
theorem dX8_init_33 : decode cX8_init 33 = .ok (.aload_n 0, 1) := by decide +kernel
theorem dX8_init_34 : decode cX8_init 34 = .ok (.bipush 9, 2) := by decide +kernel
theorem dX8_init_36 : decode cX8_init 36 = .ok (.newarray .int, 2) := by decide +kernel
theorem dX8_init_38 : decode cX8_init 38 = .ok (.putfield 22, 3) := by decide +kernel
theorem dX8_init_41 : decode cX8_init 41 = .ok (.aload_n 0, 1) := by decide +kernel
theorem dX8_init_42 : decode cX8_init 42 = .ok (.bipush 6, 2) := by decide +kernel
theorem dX8_init_44 : decode cX8_init 44 = .ok (.newarray .int, 2) := by decide +kernel
theorem dX8_init_46 : decode cX8_init 46 = .ok (.putfield 25, 3) := by decide +kernel
theorem dX8_init_49 : decode cX8_init 49 = .ok (.aload_n 0, 1) := by decide +kernel
theorem dX8_init_50 : decode cX8_init 50 = .ok (.bipush 6, 2) := by decide +kernel
theorem dX8_init_52 : decode cX8_init 52 = .ok (.newarray .int, 2) := by decide +kernel
theorem dX8_init_54 : decode cX8_init 54 = .ok (.putfield 28, 3) := by decide +kernel
theorem dX8_init_57 : decode cX8_init 57 = .ok (.aload_n 0, 1) := by decide +kernel
theorem dX8_init_58 : decode cX8_init 58 = .ok (.bipush 20, 2) := by decide +kernel
theorem dX8_init_60 : decode cX8_init 60 = .ok (.newarray .byte, 2) := by decide +kernel
theorem dX8_init_62 : decode cX8_init 62 = .ok (.putfield 31, 3) := by decide +kernel
theorem dX8_init_65 : decode cX8_init 65 = .ok (.aload_n 0, 1) := by decide +kernel
theorem dX8_init_66 : decode cX8_init 66 = .ok (.iconst 4, 1) := by decide +kernel
theorem dX8_init_67 : decode cX8_init 67 = .ok (.newarray .int, 2) := by decide +kernel
theorem dX8_init_69 : decode cX8_init 69 = .ok (.putfield 35, 3) := by decide +kernel
theorem dX8_init_72 : decode cX8_init 72 = .ok (.aload_n 0, 1) := by decide +kernel
theorem dX8_init_73 : decode cX8_init 73 = .ok (.iconst 4, 1) := by decide +kernel
theorem dX8_init_74 : decode cX8_init 74 = .ok (.newarray .int, 2) := by decide +kernel
theorem dX8_init_76 : decode cX8_init 76 = .ok (.putfield 38, 3) := by decide +kernel
theorem dX8_init_79 : decode cX8_init 79 = .ok (.aload_n 0, 1) := by decide +kernel
theorem dX8_init_80 : decode cX8_init 80 = .ok (.iconst 4, 1) := by decide +kernel
theorem dX8_init_81 : decode cX8_init 81 = .ok (.newarray .int, 2) := by decide +kernel
theorem dX8_init_83 : decode cX8_init 83 = .ok (.putfield 41, 3) := by decide +kernel
theorem dX8_init_86 : decode cX8_init 86 = .ok (.aload_n 0, 1) := by decide +kernel
theorem dX8_init_87 : decode cX8_init 87 = .ok (.bipush 9, 2) := by decide +kernel
theorem dX8_init_89 : decode cX8_init 89 = .ok (.newarray .int, 2) := by decide +kernel
theorem dX8_init_91 : decode cX8_init 91 = .ok (.putfield 44, 3) := by decide +kernel
theorem dX8_init_94 : decode cX8_init 94 = .ok (.aload_n 0, 1) := by decide +kernel
theorem dX8_init_95 : decode cX8_init 95 = .ok (.iconst 4, 1) := by decide +kernel
theorem dX8_init_96 : decode cX8_init 96 = .ok (.newarray .int, 2) := by decide +kernel
theorem dX8_init_98 : decode cX8_init 98 = .ok (.putfield 47, 3) := by decide +kernel
theorem dX8_init_101 : decode cX8_init 101 = .ok (.aload_n 0, 1) := by decide +kernel
theorem dX8_init_102 : decode cX8_init 102 = .ok (.bipush 9, 2) := by decide +kernel
theorem dX8_init_104 : decode cX8_init 104 = .ok (.newarray .int, 2) := by decide +kernel
theorem dX8_init_106 : decode cX8_init 106 = .ok (.putfield 50, 3) := by decide +kernel
theorem dX8_init_109 : decode cX8_init 109 = .ok (.aload_n 0, 1) := by decide +kernel
theorem dX8_init_110 : decode cX8_init 110 = .ok (.sipush 1500, 3) := by decide +kernel
theorem dX8_init_113 : decode cX8_init 113 = .ok (.newarray .int, 2) := by decide +kernel
theorem dX8_init_115 : decode cX8_init 115 = .ok (.putfield 53, 3) := by decide +kernel
theorem dX8_init_118 : decode cX8_init 118 = .ok (.aload_n 0, 1) := by decide +kernel
theorem dX8_init_119 : decode cX8_init 119 = .ok (.iconst 4, 1) := by decide +kernel
theorem dX8_init_120 : decode cX8_init 120 = .ok (.newarray .int, 2) := by decide +kernel
theorem dX8_init_122 : decode cX8_init 122 = .ok (.putfield 56, 3) := by decide +kernel
theorem dX8_init_125 : decode cX8_init 125 = .ok (.aload_n 0, 1) := by decide +kernel
theorem dX8_init_126 : decode cX8_init 126 = .ok (.bipush 9, 2) := by decide +kernel
theorem dX8_init_128 : decode cX8_init 128 = .ok (.newarray .int, 2) := by decide +kernel
theorem dX8_init_130 : decode cX8_init 130 = .ok (.putfield 59, 3) := by decide +kernel
theorem dX8_init_133 : decode cX8_init 133 = .ok (.aload_n 0, 1) := by decide +kernel
theorem dX8_init_134 : decode cX8_init 134 = .ok (.bipush 9, 2) := by decide +kernel
theorem dX8_init_136 : decode cX8_init 136 = .ok (.newarray .int, 2) := by decide +kernel
theorem dX8_init_138 : decode cX8_init 138 = .ok (.putfield 62, 3) := by decide +kernel
theorem dX8_init_141 : decode cX8_init 141 = .ok (.aload_n 0, 1) := by decide +kernel
theorem dX8_init_142 : decode cX8_init 142 = .ok (.bipush 60, 2) := by decide +kernel
theorem dX8_init_144 : decode cX8_init 144 = .ok (.newarray .int, 2) := by decide +kernel
theorem dX8_init_146 : decode cX8_init 146 = .ok (.putfield 65, 3) := by decide +kernel
theorem dX8_init_149 : decode cX8_init 149 = .ok (.aload_n 0, 1) := by decide +kernel
theorem dX8_init_150 : decode cX8_init 150 = .ok (.iconst 5, 1) := by decide +kernel
theorem dX8_init_151 : decode cX8_init 151 = .ok (.newarray .int, 2) := by decide +kernel
theorem dX8_init_153 : decode cX8_init 153 = .ok (.putfield 68, 3) := by decide +kernel
theorem dX8_init_156 : decode cX8_init 156 = .ok (.aload_n 0, 1) := by decide +kernel
theorem dX8_init_157 : decode cX8_init 157 = .ok (.iconst 4, 1) := by decide +kernel
theorem dX8_init_158 : decode cX8_init 158 = .ok (.newarray .int, 2) := by decide +kernel
theorem dX8_init_160 : decode cX8_init 160 = .ok (.putfield 71, 3) := by decide +kernel
theorem dX8_init_163 : decode cX8_init 163 = .ok (.aload_n 0, 1) := by decide +kernel
theorem dX8_init_164 : decode cX8_init 164 = .ok (.iconst 4, 1) := by decide +kernel
theorem dX8_init_165 : decode cX8_init 165 = .ok (.newarray .int, 2) := by decide +kernel
theorem dX8_init_167 : decode cX8_init 167 = .ok (.putfield 74, 3) := by decide +kernel
theorem dX8_init_170 : decode cX8_init 170 = .ok (.aload_n 0, 1) := by decide +kernel
theorem dX8_init_171 : decode cX8_init 171 = .ok (.iconst 4, 1) := by decide +kernel
theorem dX8_init_172 : decode cX8_init 172 = .ok (.newarray .int, 2) := by decide +kernel
theorem dX8_init_174 : decode cX8_init 174 = .ok (.putfield 77, 3) := by decide +kernel
theorem dX8_init_177 : decode cX8_init 177 = .ok (.aload_n 0, 1) := by decide +kernel
theorem dX8_init_178 : decode cX8_init 178 = .ok (.bipush 6, 2) := by decide +kernel
theorem dX8_init_180 : decode cX8_init 180 = .ok (.newarray .int, 2) := by decide +kernel
theorem dX8_init_182 : decode cX8_init 182 = .ok (.putfield 80, 3) := by decide +kernel
theorem dX8_init_185 : decode cX8_init 185 = .ok (.aload_n 0, 1) := by decide +kernel
theorem dX8_init_186 : decode cX8_init 186 = .ok (.bipush 6, 2) := by decide +kernel
theorem dX8_init_188 : decode cX8_init 188 = .ok (.newarray .int, 2) := by decide +kernel
theorem dX8_init_190 : decode cX8_init 190 = .ok (.putfield 83, 3) := by decide +kernel
theorem dX8_init_193 : decode cX8_init 193 = .ok (.return_, 1) := by decide +kernel
theorem dX8_within_0 : decode cX8_within 0 = .ok (.iload_n 0, 1) := by decide +kernel
theorem dX8_within_1 : decode cX8_within 1 = .ok (.iload_n 1, 1) := by decide +kernel
theorem dX8_within_2 : decode cX8_within 2 = .ok (.if_icmp .lt 12, 3) := by decide +kernel
theorem dX8_within_5 : decode cX8_within 5 = .ok (.iload_n 0, 1) := by decide +kernel
theorem dX8_within_6 : decode cX8_within 6 = .ok (.iload_n 2, 1) := by decide +kernel
theorem dX8_within_7 : decode cX8_within 7 = .ok (.if_icmp .gt 7, 3) := by decide +kernel
theorem dX8_within_10 : decode cX8_within 10 = .ok (.iconst 1, 1) := by decide +kernel
theorem dX8_within_11 : decode cX8_within 11 = .ok (.goto 4, 3) := by decide +kernel
theorem dX8_within_14 : decode cX8_within 14 = .ok (.iconst 0, 1) := by decide +kernel
theorem dX8_within_15 : decode cX8_within 15 = .ok (.ireturn, 1) := by decide +kernel
theorem dX8_isIn_0 : decode cX8_isIn 0 = .ok (.iload_n 0, 1) := by decide +kernel
theorem dX8_isIn_1 : decode cX8_isIn 1 = .ok (.iload_n 1, 1) := by decide +kernel
theorem dX8_isIn_2 : decode cX8_isIn 2 = .ok (.ishr, 1) := by decide +kernel
theorem dX8_isIn_3 : decode cX8_isIn 3 = .ok (.iconst 1, 1) := by decide +kernel
theorem dX8_isIn_4 : decode cX8_isIn 4 = .ok (.iand, 1) := by decide +kernel
theorem dX8_isIn_5 : decode cX8_isIn 5 = .ok (.iconst 1, 1) := by decide +kernel
theorem dX8_isIn_6 : decode cX8_isIn 6 = .ok (.if_icmp .ne 7, 3) := by decide +kernel
theorem dX8_isIn_9 : decode cX8_isIn 9 = .ok (.iconst 1, 1) := by decide +kernel
theorem dX8_isIn_10 : decode cX8_isIn 10 = .ok (.goto 4, 3) := by decide +kernel
theorem dX8_isIn_13 : decode cX8_isIn 13 = .ok (.iconst 0, 1) := by decide +kernel
theorem dX8_isIn_14 : decode cX8_isIn 14 = .ok (.ireturn, 1) := by decide +kernel
theorem dX8_size_0 : decode cX8_size 0 = .ok (.iconst 0, 1) := by decide +kernel
theorem dX8_size_1 : decode cX8_size 1 = .ok (.istore_n 1, 1) := by decide +kernel
theorem dX8_size_2 : decode cX8_size 2 = .ok (.iconst 0, 1) := by decide +kernel
theorem dX8_size_3 : decode cX8_size 3 = .ok (.istore_n 2, 1) := by decide +kernel
theorem dX8_size_4 : decode cX8_size 4 = .ok (.iload_n 2, 1) := by decide +kernel
theorem dX8_size_5 : decode cX8_size 5 = .ok (.bipush 16, 2) := by decide +kernel
theorem dX8_size_7 : decode cX8_size 7 = .ok (.if_icmp .ge 17, 3) := by decide +kernel
theorem dX8_size_10 : decode cX8_size 10 = .ok (.iload_n 1, 1) := by decide +kernel
theorem dX8_size_11 : decode cX8_size 11 = .ok (.iload_n 0, 1) := by decide +kernel
theorem dX8_size_12 : decode cX8_size 12 = .ok (.iload_n 2, 1) := by decide +kernel
theorem dX8_size_13 : decode cX8_size 13 = .ok (.ishr, 1) := by decide +kernel
theorem dX8_size_14 : decode cX8_size 14 = .ok (.iconst 1, 1) := by decide +kernel
theorem dX8_size_15 : decode cX8_size 15 = .ok (.iand, 1) := by decide +kernel
theorem dX8_size_16 : decode cX8_size 16 = .ok (.iadd, 1) := by decide +kernel
theorem dX8_size_17 : decode cX8_size 17 = .ok (.istore_n 1, 1) := by decide +kernel
theorem dX8_size_18 : decode cX8_size 18 = .ok (.iinc 2 1, 3) := by decide +kernel
theorem dX8_size_21 : decode cX8_size 21 = .ok (.goto (-17), 3) := by decide +kernel
theorem dX8_size_24 : decode cX8_size 24 = .ok (.iload_n 1, 1) := by decide +kernel
theorem dX8_size_25 : decode cX8_size 25 = .ok (.ireturn, 1) := by decide +kernel
set_option maxRecDepth 20000 in
theorem ggX8_letter_X8_within : GoodIn wsX8_letter wsX8_within := goodIn_r _ [6] rfl (by decide +kernel)
set_option maxRecDepth 20000 in
theorem gX8_letter_X8_within : GoodIn wsX8_letter (va_wsS RX8 86 yX8_within wsX8_within) := goodIn_app (goodIn_r _ [3, 4, 5] rfl (by decide +kernel)) ggX8_letter_X8_within
theorem dX8_letter_0 : decode cX8_letter 0 = .ok (.iload_n 1, 1) := by decide +kernel
theorem dX8_letter_1 : decode cX8_letter 1 = .ok (.bipush 32, 2) := by decide +kernel
theorem dX8_letter_3 : decode cX8_letter 3 = .ok (.bipush 126, 2) := by decide +kernel
theorem dX8_letter_5 : decode cX8_letter 5 = .ok (.invokestatic 86, 3) := by decide +kernel
theorem dX8_letter_8 : decode cX8_letter 8 = .ok (.ifCond .ne 6, 3) := by decide +kernel
theorem dX8_letter_11 : decode cX8_letter 11 = .ok (.bipush (-102), 2) := by decide +kernel
theorem dX8_letter_13 : decode cX8_letter 13 = .ok (.ireturn, 1) := by decide +kernel
theorem dX8_letter_14 : decode cX8_letter 14 = .ok (.aload_n 0, 1) := by decide +kernel
theorem dX8_letter_15 : decode cX8_letter 15 = .ok (.getfield 90, 3) := by decide +kernel
theorem dX8_letter_18 : decode cX8_letter 18 = .ok (.bipush 20, 2) := by decide +kernel
theorem dX8_letter_20 : decode cX8_letter 20 = .ok (.if_icmp .ne 6, 3) := by decide +kernel
theorem dX8_letter_23 : decode cX8_letter 23 = .ok (.bipush (-104), 2) := by decide +kernel
theorem dX8_letter_25 : decode cX8_letter 25 = .ok (.ireturn, 1) := by decide +kernel
theorem dX8_letter_26 : decode cX8_letter 26 = .ok (.aload_n 0, 1) := by decide +kernel
theorem dX8_letter_27 : decode cX8_letter 27 = .ok (.getfield 31, 3) := by decide +kernel
theorem dX8_letter_30 : decode cX8_letter 30 = .ok (.aload_n 0, 1) := by decide +kernel
theorem dX8_letter_31 : decode cX8_letter 31 = .ok (.getfield 90, 3) := by decide +kernel
theorem dX8_letter_34 : decode cX8_letter 34 = .ok (.iload_n 1, 1) := by decide +kernel
theorem dX8_letter_35 : decode cX8_letter 35 = .ok (.i2b, 1) := by decide +kernel
theorem dX8_letter_36 : decode cX8_letter 36 = .ok (.bastore, 1) := by decide +kernel
theorem dX8_letter_37 : decode cX8_letter 37 = .ok (.aload_n 0, 1) := by decide +kernel
theorem dX8_letter_38 : decode cX8_letter 38 = .ok (.dup, 1) := by decide +kernel
theorem dX8_letter_39 : decode cX8_letter 39 = .ok (.getfield 90, 3) := by decide +kernel
theorem dX8_letter_42 : decode cX8_letter 42 = .ok (.iconst 1, 1) := by decide +kernel
theorem dX8_letter_43 : decode cX8_letter 43 = .ok (.iadd, 1) := by decide +kernel
theorem dX8_letter_44 : decode cX8_letter 44 = .ok (.putfield 90, 3) := by decide +kernel
theorem dX8_letter_47 : decode cX8_letter 47 = .ok (.aload_n 0, 1) := by decide +kernel
theorem dX8_letter_48 : decode cX8_letter 48 = .ok (.getfield 90, 3) := by decide +kernel
theorem dX8_letter_51 : decode cX8_letter 51 = .ok (.ireturn, 1) := by decide +kernel
theorem dX8_blank_0 : decode cX8_blank 0 = .ok (.aload_n 0, 1) := by decide +kernel
theorem dX8_blank_1 : decode cX8_blank 1 = .ok (.getfield 90, 3) := by decide +kernel
theorem dX8_blank_4 : decode cX8_blank 4 = .ok (.istore_n 1, 1) := by decide +kernel
theorem dX8_blank_5 : decode cX8_blank 5 = .ok (.aload_n 0, 1) := by decide +kernel
theorem dX8_blank_6 : decode cX8_blank 6 = .ok (.iconst 0, 1) := by decide +kernel
theorem dX8_blank_7 : decode cX8_blank 7 = .ok (.putfield 90, 3) := by decide +kernel
theorem dX8_blank_10 : decode cX8_blank 10 = .ok (.iload_n 1, 1) := by decide +kernel
theorem dX8_blank_11 : decode cX8_blank 11 = .ok (.ireturn, 1) := by decide +kernel
theorem dX8_kindBy_0 : decode cX8_kindBy 0 = .ok (.iload_n 0, 1) := by decide +kernel
theorem dX8_kindBy_1 : decode cX8_kindBy 1 = .ok (.lookupswitch 61 #[(99, 53), (102, 51), (108, 55), (115, 57), (116, 59)], 51) := by decide +kernel
theorem dX8_kindBy_52 : decode cX8_kindBy 52 = .ok (.iconst 0, 1) := by decide +kernel
theorem dX8_kindBy_53 : decode cX8_kindBy 53 = .ok (.ireturn, 1) := by decide +kernel
theorem dX8_kindBy_54 : decode cX8_kindBy 54 = .ok (.iconst 1, 1) := by decide +kernel
theorem dX8_kindBy_55 : decode cX8_kindBy 55 = .ok (.ireturn, 1) := by decide +kernel
theorem dX8_kindBy_56 : decode cX8_kindBy 56 = .ok (.iconst 2, 1) := by decide +kernel
theorem dX8_kindBy_57 : decode cX8_kindBy 57 = .ok (.ireturn, 1) := by decide +kernel
theorem dX8_kindBy_58 : decode cX8_kindBy 58 = .ok (.iconst 3, 1) := by decide +kernel
theorem dX8_kindBy_59 : decode cX8_kindBy 59 = .ok (.ireturn, 1) := by decide +kernel
theorem dX8_kindBy_60 : decode cX8_kindBy 60 = .ok (.iconst 4, 1) := by decide +kernel
theorem dX8_kindBy_61 : decode cX8_kindBy 61 = .ok (.ireturn, 1) := by decide +kernel
theorem dX8_kindBy_62 : decode cX8_kindBy 62 = .ok (.iconst (-1), 1) := by decide +kernel
theorem dX8_kindBy_63 : decode cX8_kindBy 63 = .ok (.ireturn, 1) := by decide +kernel
theorem dX8_letterOf_0 : decode cX8_letterOf 0 = .ok (.iload_n 0, 1) := by decide +kernel
theorem dX8_letterOf_1 : decode cX8_letterOf 1 = .ok (.tableswitch 43 1 4 #[31, 34, 37, 40], 31) := by decide +kernel
theorem dX8_letterOf_32 : decode cX8_letterOf 32 = .ok (.bipush 99, 2) := by decide +kernel
theorem dX8_letterOf_34 : decode cX8_letterOf 34 = .ok (.ireturn, 1) := by decide +kernel
theorem dX8_letterOf_35 : decode cX8_letterOf 35 = .ok (.bipush 108, 2) := by decide +kernel
theorem dX8_letterOf_37 : decode cX8_letterOf 37 = .ok (.ireturn, 1) := by decide +kernel
theorem dX8_letterOf_38 : decode cX8_letterOf 38 = .ok (.bipush 115, 2) := by decide +kernel
theorem dX8_letterOf_40 : decode cX8_letterOf 40 = .ok (.ireturn, 1) := by decide +kernel
theorem dX8_letterOf_41 : decode cX8_letterOf 41 = .ok (.bipush 116, 2) := by decide +kernel
theorem dX8_letterOf_43 : decode cX8_letterOf 43 = .ok (.ireturn, 1) := by decide +kernel
theorem dX8_letterOf_44 : decode cX8_letterOf 44 = .ok (.bipush 102, 2) := by decide +kernel
theorem dX8_letterOf_46 : decode cX8_letterOf 46 = .ok (.ireturn, 1) := by decide +kernel
theorem dX8_at_0 : decode cX8_at 0 = .ok (.iload_n 1, 1) := by decide +kernel
theorem dX8_at_1 : decode cX8_at 1 = .ok (.aload_n 0, 1) := by decide +kernel
theorem dX8_at_2 : decode cX8_at 2 = .ok (.getfield 90, 3) := by decide +kernel
theorem dX8_at_5 : decode cX8_at 5 = .ok (.if_icmp .ge 12, 3) := by decide +kernel
theorem dX8_at_8 : decode cX8_at 8 = .ok (.aload_n 0, 1) := by decide +kernel
theorem dX8_at_9 : decode cX8_at 9 = .ok (.getfield 31, 3) := by decide +kernel
theorem dX8_at_12 : decode cX8_at 12 = .ok (.iload_n 1, 1) := by decide +kernel
theorem dX8_at_13 : decode cX8_at 13 = .ok (.baload, 1) := by decide +kernel
theorem dX8_at_14 : decode cX8_at 14 = .ok (.goto 4, 3) := by decide +kernel
theorem dX8_at_17 : decode cX8_at 17 = .ok (.iconst 0, 1) := by decide +kernel
theorem dX8_at_18 : decode cX8_at 18 = .ok (.ireturn, 1) := by decide +kernel
set_option maxRecDepth 20000 in
theorem ggX8_figure_X8_at : GoodIn wsX8_figure wsX8_at := goodIn_r _ [5, 6, 7, 8, 9, 10, 11, 12, 13, 14, 15, 16, 17, 18, 19, 20, 21, 22, 23, 24, 25, 26, 27, 28, 29, 30, 31, 32, 33, 34, 35, 36, 37, 38, 39, 40, 41, 42, 43, 44, 45, 46, 47, 48, 49, 50, 51, 52, 53, 54] rfl (by decide +kernel)
set_option maxRecDepth 20000 in
theorem gX8_figure_X8_at : GoodIn wsX8_figure (wsV RX8 94 RX8 yX8_at wsX8_at) := goodIn_app (goodIn_r _ [1, 2, 3, 4] rfl (by decide +kernel)) ggX8_figure_X8_at
theorem dX8_figure_0 : decode cX8_figure 0 = .ok (.aload_n 0, 1) := by decide +kernel
theorem dX8_figure_1 : decode cX8_figure 1 = .ok (.iload_n 1, 1) := by decide +kernel
theorem dX8_figure_2 : decode cX8_figure 2 = .ok (.invokevirtual 94, 3) := by decide +kernel
theorem dX8_figure_5 : decode cX8_figure 5 = .ok (.bipush 48, 2) := by decide +kernel
theorem dX8_figure_7 : decode cX8_figure 7 = .ok (.isub, 1) := by decide +kernel
theorem dX8_figure_8 : decode cX8_figure 8 = .ok (.ireturn, 1) := by decide +kernel
set_option maxRecDepth 20000 in
theorem ggX8_readOuter_X8_figure : GoodIn wsX8_readOuter wsX8_figure := goodIn_r _ [7, 8, 9, 10, 6, 11, 12, 13, 17, 18, 19, 20, 21, 22, 23, 24, 25, 26, 27, 28, 29, 30, 31, 32, 33, 34, 35, 36, 37, 38, 39, 40, 41, 42, 43, 44, 45, 46, 47, 48, 49, 50, 51, 52, 53, 54, 55, 56, 57, 58, 59, 60, 61, 62, 63] rfl (by decide +kernel)
set_option maxRecDepth 20000 in
theorem gX8_readOuter_X8_figure : GoodIn wsX8_readOuter (wsV RX8 101 RX8 yX8_figure wsX8_figure) := goodIn_app (goodIn_r _ [3, 4, 5, 6] rfl (by decide +kernel)) ggX8_readOuter_X8_figure
set_option maxRecDepth 20000 in
theorem ggX8_readOuter_X8_within : GoodIn wsX8_readOuter wsX8_within := goodIn_r _ [16] rfl (by decide +kernel)
set_option maxRecDepth 20000 in
theorem gX8_readOuter_X8_within : GoodIn wsX8_readOuter (va_wsS RX8 86 yX8_within wsX8_within) := goodIn_app (goodIn_r _ [14, 15, 6] rfl (by decide +kernel)) ggX8_readOuter_X8_within
theorem dX8_readOuter_0 : decode cX8_readOuter 0 = .ok (.iload_n 1, 1) := by decide +kernel
theorem dX8_readOuter_1 : decode cX8_readOuter 1 = .ok (.istore_n 2, 1) := by decide +kernel
theorem dX8_readOuter_2 : decode cX8_readOuter 2 = .ok (.aload_n 0, 1) := by decide +kernel
theorem dX8_readOuter_3 : decode cX8_readOuter 3 = .ok (.iconst 0, 1) := by decide +kernel
theorem dX8_readOuter_4 : decode cX8_readOuter 4 = .ok (.putfield 98, 3) := by decide +kernel
theorem dX8_readOuter_7 : decode cX8_readOuter 7 = .ok (.aload_n 0, 1) := by decide +kernel
theorem dX8_readOuter_8 : decode cX8_readOuter 8 = .ok (.getfield 98, 3) := by decide +kernel
theorem dX8_readOuter_11 : decode cX8_readOuter 11 = .ok (.iconst 4, 1) := by decide +kernel
theorem dX8_readOuter_12 : decode cX8_readOuter 12 = .ok (.if_icmp .ge 67, 3) := by decide +kernel
theorem dX8_readOuter_15 : decode cX8_readOuter 15 = .ok (.aload_n 0, 1) := by decide +kernel
theorem dX8_readOuter_16 : decode cX8_readOuter 16 = .ok (.iload_n 2, 1) := by decide +kernel
theorem dX8_readOuter_17 : decode cX8_readOuter 17 = .ok (.invokevirtual 101, 3) := by decide +kernel
theorem dX8_readOuter_20 : decode cX8_readOuter 20 = .ok (.iconst 1, 1) := by decide +kernel
theorem dX8_readOuter_21 : decode cX8_readOuter 21 = .ok (.aload_n 0, 1) := by decide +kernel
theorem dX8_readOuter_22 : decode cX8_readOuter 22 = .ok (.getfield 98, 3) := by decide +kernel
theorem dX8_readOuter_25 : decode cX8_readOuter 25 = .ok (.ifCond .ne 7, 3) := by decide +kernel
theorem dX8_readOuter_28 : decode cX8_readOuter 28 = .ok (.iconst 5, 1) := by decide +kernel
theorem dX8_readOuter_29 : decode cX8_readOuter 29 = .ok (.goto 14, 3) := by decide +kernel
theorem dX8_readOuter_32 : decode cX8_readOuter 32 = .ok (.aload_n 0, 1) := by decide +kernel
theorem dX8_readOuter_33 : decode cX8_readOuter 33 = .ok (.getfield 35, 3) := by decide +kernel
theorem dX8_readOuter_36 : decode cX8_readOuter 36 = .ok (.aload_n 0, 1) := by decide +kernel
theorem dX8_readOuter_37 : decode cX8_readOuter 37 = .ok (.getfield 98, 3) := by decide +kernel
theorem dX8_readOuter_40 : decode cX8_readOuter 40 = .ok (.iconst 1, 1) := by decide +kernel
theorem dX8_readOuter_41 : decode cX8_readOuter 41 = .ok (.isub, 1) := by decide +kernel
theorem dX8_readOuter_42 : decode cX8_readOuter 42 = .ok (.iaload, 1) := by decide +kernel
theorem dX8_readOuter_43 : decode cX8_readOuter 43 = .ok (.invokestatic 86, 3) := by decide +kernel
theorem dX8_readOuter_46 : decode cX8_readOuter 46 = .ok (.ifCond .eq 33, 3) := by decide +kernel
theorem dX8_readOuter_49 : decode cX8_readOuter 49 = .ok (.aload_n 0, 1) := by decide +kernel
theorem dX8_readOuter_50 : decode cX8_readOuter 50 = .ok (.getfield 35, 3) := by decide +kernel
theorem dX8_readOuter_53 : decode cX8_readOuter 53 = .ok (.aload_n 0, 1) := by decide +kernel
theorem dX8_readOuter_54 : decode cX8_readOuter 54 = .ok (.getfield 98, 3) := by decide +kernel
theorem dX8_readOuter_57 : decode cX8_readOuter 57 = .ok (.aload_n 0, 1) := by decide +kernel
theorem dX8_readOuter_58 : decode cX8_readOuter 58 = .ok (.iload_n 2, 1) := by decide +kernel
theorem dX8_readOuter_59 : decode cX8_readOuter 59 = .ok (.invokevirtual 101, 3) := by decide +kernel
theorem dX8_readOuter_62 : decode cX8_readOuter 62 = .ok (.iastore, 1) := by decide +kernel
theorem dX8_readOuter_63 : decode cX8_readOuter 63 = .ok (.aload_n 0, 1) := by decide +kernel
theorem dX8_readOuter_64 : decode cX8_readOuter 64 = .ok (.dup, 1) := by decide +kernel
theorem dX8_readOuter_65 : decode cX8_readOuter 65 = .ok (.getfield 98, 3) := by decide +kernel
theorem dX8_readOuter_68 : decode cX8_readOuter 68 = .ok (.iconst 1, 1) := by decide +kernel
theorem dX8_readOuter_69 : decode cX8_readOuter 69 = .ok (.iadd, 1) := by decide +kernel
theorem dX8_readOuter_70 : decode cX8_readOuter 70 = .ok (.putfield 98, 3) := by decide +kernel
theorem dX8_readOuter_73 : decode cX8_readOuter 73 = .ok (.iinc 2 1, 3) := by decide +kernel
theorem dX8_readOuter_76 : decode cX8_readOuter 76 = .ok (.goto (-69), 3) := by decide +kernel
theorem dX8_readOuter_79 : decode cX8_readOuter 79 = .ok (.iload_n 2, 1) := by decide +kernel
theorem dX8_readOuter_80 : decode cX8_readOuter 80 = .ok (.ireturn, 1) := by decide +kernel
set_option maxRecDepth 20000 in
theorem ggX8_readInner_X8_figure : GoodIn wsX8_readInner wsX8_figure := goodIn_r _ [8, 9, 10, 11, 7, 12, 13, 14, 18, 19, 20, 21, 22, 23, 24, 25, 26, 27, 28, 29, 30, 31, 32, 33, 34, 35, 36, 37, 38, 39, 40, 41, 42, 43, 44, 45, 46, 47, 48, 49, 50, 51, 52, 53, 54, 55, 56, 57, 58, 59, 60, 61, 62, 63, 64] rfl (by decide +kernel)
set_option maxRecDepth 20000 in
theorem gX8_readInner_X8_figure : GoodIn wsX8_readInner (wsV RX8 101 RX8 yX8_figure wsX8_figure) := goodIn_app (goodIn_r _ [4, 5, 6, 7] rfl (by decide +kernel)) ggX8_readInner_X8_figure
set_option maxRecDepth 20000 in
theorem ggX8_readInner_X8_within : GoodIn wsX8_readInner wsX8_within := goodIn_r _ [17] rfl (by decide +kernel)
set_option maxRecDepth 20000 in
theorem gX8_readInner_X8_within : GoodIn wsX8_readInner (va_wsS RX8 86 yX8_within wsX8_within) := goodIn_app (goodIn_r _ [15, 16, 7] rfl (by decide +kernel)) ggX8_readInner_X8_within
theorem dX8_readInner_0 : decode cX8_readInner 0 = .ok (.iload_n 1, 1) := by decide +kernel
theorem dX8_readInner_1 : decode cX8_readInner 1 = .ok (.istore_n 2, 1) := by decide +kernel
theorem dX8_readInner_2 : decode cX8_readInner 2 = .ok (.iconst 0, 1) := by decide +kernel
theorem dX8_readInner_3 : decode cX8_readInner 3 = .ok (.istore_n 3, 1) := by decide +kernel
theorem dX8_readInner_4 : decode cX8_readInner 4 = .ok (.iconst 1, 1) := by decide +kernel
theorem dX8_readInner_5 : decode cX8_readInner 5 = .ok (.istore 4, 2) := by decide +kernel
theorem dX8_readInner_7 : decode cX8_readInner 7 = .ok (.iload_n 3, 1) := by decide +kernel
theorem dX8_readInner_8 : decode cX8_readInner 8 = .ok (.aload_n 0, 1) := by decide +kernel
theorem dX8_readInner_9 : decode cX8_readInner 9 = .ok (.getfield 98, 3) := by decide +kernel
theorem dX8_readInner_12 : decode cX8_readInner 12 = .ok (.if_icmp .ge 86, 3) := by decide +kernel
theorem dX8_readInner_15 : decode cX8_readInner 15 = .ok (.iload 4, 2) := by decide +kernel
theorem dX8_readInner_17 : decode cX8_readInner 17 = .ok (.ifCond .eq 81, 3) := by decide +kernel
theorem dX8_readInner_20 : decode cX8_readInner 20 = .ok (.iload_n 3, 1) := by decide +kernel
theorem dX8_readInner_21 : decode cX8_readInner 21 = .ok (.ifCond .le 31, 3) := by decide +kernel
theorem dX8_readInner_24 : decode cX8_readInner 24 = .ok (.aload_n 0, 1) := by decide +kernel
theorem dX8_readInner_25 : decode cX8_readInner 25 = .ok (.getfield 38, 3) := by decide +kernel
theorem dX8_readInner_28 : decode cX8_readInner 28 = .ok (.iload_n 3, 1) := by decide +kernel
theorem dX8_readInner_29 : decode cX8_readInner 29 = .ok (.iconst 1, 1) := by decide +kernel
theorem dX8_readInner_30 : decode cX8_readInner 30 = .ok (.isub, 1) := by decide +kernel
theorem dX8_readInner_31 : decode cX8_readInner 31 = .ok (.iaload, 1) := by decide +kernel
theorem dX8_readInner_32 : decode cX8_readInner 32 = .ok (.aload_n 0, 1) := by decide +kernel
theorem dX8_readInner_33 : decode cX8_readInner 33 = .ok (.getfield 35, 3) := by decide +kernel
theorem dX8_readInner_36 : decode cX8_readInner 36 = .ok (.iload_n 3, 1) := by decide +kernel
theorem dX8_readInner_37 : decode cX8_readInner 37 = .ok (.iaload, 1) := by decide +kernel
theorem dX8_readInner_38 : decode cX8_readInner 38 = .ok (.if_icmp .ge 14, 3) := by decide +kernel
theorem dX8_readInner_41 : decode cX8_readInner 41 = .ok (.aload_n 0, 1) := by decide +kernel
theorem dX8_readInner_42 : decode cX8_readInner 42 = .ok (.getfield 38, 3) := by decide +kernel
theorem dX8_readInner_45 : decode cX8_readInner 45 = .ok (.iload_n 3, 1) := by decide +kernel
theorem dX8_readInner_46 : decode cX8_readInner 46 = .ok (.iconst 1, 1) := by decide +kernel
theorem dX8_readInner_47 : decode cX8_readInner 47 = .ok (.isub, 1) := by decide +kernel
theorem dX8_readInner_48 : decode cX8_readInner 48 = .ok (.iaload, 1) := by decide +kernel
theorem dX8_readInner_49 : decode cX8_readInner 49 = .ok (.goto 9, 3) := by decide +kernel
theorem dX8_readInner_52 : decode cX8_readInner 52 = .ok (.aload_n 0, 1) := by decide +kernel
theorem dX8_readInner_53 : decode cX8_readInner 53 = .ok (.getfield 35, 3) := by decide +kernel
theorem dX8_readInner_56 : decode cX8_readInner 56 = .ok (.iload_n 3, 1) := by decide +kernel
theorem dX8_readInner_57 : decode cX8_readInner 57 = .ok (.iaload, 1) := by decide +kernel
theorem dX8_readInner_58 : decode cX8_readInner 58 = .ok (.istore 5, 2) := by decide +kernel
theorem dX8_readInner_60 : decode cX8_readInner 60 = .ok (.aload_n 0, 1) := by decide +kernel
theorem dX8_readInner_61 : decode cX8_readInner 61 = .ok (.iload_n 2, 1) := by decide +kernel
theorem dX8_readInner_62 : decode cX8_readInner 62 = .ok (.invokevirtual 101, 3) := by decide +kernel
theorem dX8_readInner_65 : decode cX8_readInner 65 = .ok (.iconst 0, 1) := by decide +kernel
theorem dX8_readInner_66 : decode cX8_readInner 66 = .ok (.iload 5, 2) := by decide +kernel
theorem dX8_readInner_68 : decode cX8_readInner 68 = .ok (.invokestatic 86, 3) := by decide +kernel
theorem dX8_readInner_71 : decode cX8_readInner 71 = .ok (.istore 4, 2) := by decide +kernel
theorem dX8_readInner_73 : decode cX8_readInner 73 = .ok (.iload 4, 2) := by decide +kernel
theorem dX8_readInner_75 : decode cX8_readInner 75 = .ok (.ifCond .eq 20, 3) := by decide +kernel
theorem dX8_readInner_78 : decode cX8_readInner 78 = .ok (.aload_n 0, 1) := by decide +kernel
theorem dX8_readInner_79 : decode cX8_readInner 79 = .ok (.getfield 38, 3) := by decide +kernel
theorem dX8_readInner_82 : decode cX8_readInner 82 = .ok (.iload_n 3, 1) := by decide +kernel
theorem dX8_readInner_83 : decode cX8_readInner 83 = .ok (.aload_n 0, 1) := by decide +kernel
theorem dX8_readInner_84 : decode cX8_readInner 84 = .ok (.iload_n 2, 1) := by decide +kernel
theorem dX8_readInner_85 : decode cX8_readInner 85 = .ok (.invokevirtual 101, 3) := by decide +kernel
theorem dX8_readInner_88 : decode cX8_readInner 88 = .ok (.iastore, 1) := by decide +kernel
theorem dX8_readInner_89 : decode cX8_readInner 89 = .ok (.iinc 3 1, 3) := by decide +kernel
theorem dX8_readInner_92 : decode cX8_readInner 92 = .ok (.iinc 2 1, 3) := by decide +kernel
theorem dX8_readInner_95 : decode cX8_readInner 95 = .ok (.goto (-88), 3) := by decide +kernel
theorem dX8_readInner_98 : decode cX8_readInner 98 = .ok (.iload_n 3, 1) := by decide +kernel
theorem dX8_readInner_99 : decode cX8_readInner 99 = .ok (.istore 5, 2) := by decide +kernel
theorem dX8_readInner_101 : decode cX8_readInner 101 = .ok (.iload 5, 2) := by decide +kernel
theorem dX8_readInner_103 : decode cX8_readInner 103 = .ok (.iconst 4, 1) := by decide +kernel
theorem dX8_readInner_104 : decode cX8_readInner 104 = .ok (.if_icmp .ge 17, 3) := by decide +kernel
theorem dX8_readInner_107 : decode cX8_readInner 107 = .ok (.aload_n 0, 1) := by decide +kernel
theorem dX8_readInner_108 : decode cX8_readInner 108 = .ok (.getfield 38, 3) := by decide +kernel
theorem dX8_readInner_111 : decode cX8_readInner 111 = .ok (.iload 5, 2) := by decide +kernel
theorem dX8_readInner_113 : decode cX8_readInner 113 = .ok (.iconst 0, 1) := by decide +kernel
theorem dX8_readInner_114 : decode cX8_readInner 114 = .ok (.iastore, 1) := by decide +kernel
theorem dX8_readInner_115 : decode cX8_readInner 115 = .ok (.iinc 5 1, 3) := by decide +kernel
theorem dX8_readInner_118 : decode cX8_readInner 118 = .ok (.goto (-17), 3) := by decide +kernel
theorem dX8_readInner_121 : decode cX8_readInner 121 = .ok (.iload_n 2, 1) := by decide +kernel
theorem dX8_readInner_122 : decode cX8_readInner 122 = .ok (.ireturn, 1) := by decide +kernel
set_option maxRecDepth 20000 in
theorem ggX8_read_X8_at : GoodIn wsX8_read wsX8_at := goodIn_r _ [10, 5, 11, 32, 33, 34, 35, 36, 37, 38, 39, 40, 41, 42, 43, 44, 45, 46, 47, 48, 49, 50, 51, 52, 53, 54, 55, 56, 57, 58, 59, 60, 61, 62, 63, 64, 65, 66, 67, 68, 69, 70, 71, 72, 73, 74, 75, 76, 77, 78] rfl (by decide +kernel)
set_option maxRecDepth 20000 in
theorem gX8_read_X8_at : GoodIn wsX8_read (wsV RX8 94 RX8 yX8_at wsX8_at) := goodIn_app (goodIn_r _ [6, 7, 8, 9] rfl (by decide +kernel)) ggX8_read_X8_at
set_option maxRecDepth 20000 in
theorem ggX8_read_X8_kindBy : GoodIn wsX8_read wsX8_kindBy := goodIn_r _ [14] rfl (by decide +kernel)
set_option maxRecDepth 20000 in
theorem gX8_read_X8_kindBy : GoodIn wsX8_read (va_wsS RX8 108 yX8_kindBy wsX8_kindBy) := goodIn_app (goodIn_r _ [12, 13, 9] rfl (by decide +kernel)) ggX8_read_X8_kindBy
set_option maxRecDepth 20000 in
theorem ggX8_read_X8_readOuter : GoodIn wsX8_read wsX8_readOuter := goodIn_r _ [18, 3, 19, 20, 21, 22, 9, 23, 6, 7, 8, 10, 5, 11, 24, 25, 26, 32, 33, 34, 35, 36, 37, 38, 39, 40, 41, 42, 43, 44, 45, 46, 47, 48, 49, 50, 51, 52, 53, 54, 55, 56, 57, 58, 59, 60, 61, 62, 63, 64, 65, 66, 67, 68, 69, 70, 71, 72, 73, 74, 75, 76, 77, 78] rfl (by decide +kernel)
set_option maxRecDepth 20000 in
theorem gX8_read_X8_readOuter : GoodIn wsX8_read (wsV RX8 114 RX8 yX8_readOuter wsX8_readOuter) := goodIn_app (goodIn_r _ [15, 16, 17, 9] rfl (by decide +kernel)) ggX8_read_X8_readOuter
set_option maxRecDepth 20000 in
theorem ggX8_read_X8_readInner : GoodIn wsX8_read wsX8_readInner := goodIn_r _ [30, 3, 31, 19, 20, 21, 22, 9, 23, 6, 7, 8, 10, 5, 11, 24, 25, 26, 32, 33, 34, 35, 36, 37, 38, 39, 40, 41, 42, 43, 44, 45, 46, 47, 48, 49, 50, 51, 52, 53, 54, 55, 56, 57, 58, 59, 60, 61, 62, 63, 64, 65, 66, 67, 68, 69, 70, 71, 72, 73, 74, 75, 76, 77, 78] rfl (by decide +kernel)
set_option maxRecDepth 20000 in
theorem gX8_read_X8_readInner : GoodIn wsX8_read (wsV RX8 117 RX8 yX8_readInner wsX8_readInner) := goodIn_app (goodIn_r _ [27, 28, 29, 9] rfl (by decide +kernel)) ggX8_read_X8_readInner
set_option maxRecDepth 20000 in
theorem ggX8_read_X8_figure : GoodIn wsX8_read wsX8_figure := goodIn_r _ [23, 6, 7, 8, 9, 10, 5, 11, 32, 33, 34, 35, 36, 37, 38, 39, 40, 41, 42, 43, 44, 45, 46, 47, 48, 49, 50, 51, 52, 53, 54, 55, 56, 57, 58, 59, 60, 61, 62, 63, 64, 65, 66, 67, 68, 69, 70, 71, 72, 73, 74, 75, 76, 77, 78] rfl (by decide +kernel)
set_option maxRecDepth 20000 in
theorem gX8_read_X8_figure : GoodIn wsX8_read (wsV RX8 101 RX8 yX8_figure wsX8_figure) := goodIn_app (goodIn_r _ [20, 21, 22, 9] rfl (by decide +kernel)) ggX8_read_X8_figure
set_option maxRecDepth 20000 in
theorem ggX8_read_X8_within : GoodIn wsX8_read wsX8_within := goodIn_r _ [26] rfl (by decide +kernel)
set_option maxRecDepth 20000 in
theorem gX8_read_X8_within : GoodIn wsX8_read (va_wsS RX8 86 yX8_within wsX8_within) := goodIn_app (goodIn_r _ [24, 25, 9] rfl (by decide +kernel)) ggX8_read_X8_within
theorem dX8_read_0 : decode cX8_read 0 = .ok (.aload_n 0, 1) := by decide +kernel
theorem dX8_read_1 : decode cX8_read 1 = .ok (.iconst 0, 1) := by decide +kernel
theorem dX8_read_2 : decode cX8_read 2 = .ok (.putfield 104, 3) := by decide +kernel
theorem dX8_read_5 : decode cX8_read 5 = .ok (.aload_n 0, 1) := by decide +kernel
theorem dX8_read_6 : decode cX8_read 6 = .ok (.aload_n 0, 1) := by decide +kernel
theorem dX8_read_7 : decode cX8_read 7 = .ok (.iconst 0, 1) := by decide +kernel
theorem dX8_read_8 : decode cX8_read 8 = .ok (.invokevirtual 94, 3) := by decide +kernel
theorem dX8_read_11 : decode cX8_read 11 = .ok (.invokestatic 108, 3) := by decide +kernel
theorem dX8_read_14 : decode cX8_read 14 = .ok (.putfield 111, 3) := by decide +kernel
theorem dX8_read_17 : decode cX8_read 17 = .ok (.aload_n 0, 1) := by decide +kernel
theorem dX8_read_18 : decode cX8_read 18 = .ok (.getfield 111, 3) := by decide +kernel
theorem dX8_read_21 : decode cX8_read 21 = .ok (.iconst (-1), 1) := by decide +kernel
theorem dX8_read_22 : decode cX8_read 22 = .ok (.if_icmp .ne 5, 3) := by decide +kernel
theorem dX8_read_25 : decode cX8_read 25 = .ok (.iconst 0, 1) := by decide +kernel
theorem dX8_read_26 : decode cX8_read 26 = .ok (.ireturn, 1) := by decide +kernel
theorem dX8_read_27 : decode cX8_read 27 = .ok (.aload_n 0, 1) := by decide +kernel
theorem dX8_read_28 : decode cX8_read 28 = .ok (.iconst 1, 1) := by decide +kernel
theorem dX8_read_29 : decode cX8_read 29 = .ok (.invokevirtual 114, 3) := by decide +kernel
theorem dX8_read_32 : decode cX8_read 32 = .ok (.istore_n 1, 1) := by decide +kernel
theorem dX8_read_33 : decode cX8_read 33 = .ok (.aload_n 0, 1) := by decide +kernel
theorem dX8_read_34 : decode cX8_read 34 = .ok (.getfield 98, 3) := by decide +kernel
theorem dX8_read_37 : decode cX8_read 37 = .ok (.ifCond .eq 13, 3) := by decide +kernel
theorem dX8_read_40 : decode cX8_read 40 = .ok (.aload_n 0, 1) := by decide +kernel
theorem dX8_read_41 : decode cX8_read 41 = .ok (.iload_n 1, 1) := by decide +kernel
theorem dX8_read_42 : decode cX8_read 42 = .ok (.invokevirtual 94, 3) := by decide +kernel
theorem dX8_read_45 : decode cX8_read 45 = .ok (.bipush 47, 2) := by decide +kernel
theorem dX8_read_47 : decode cX8_read 47 = .ok (.if_icmp .eq 5, 3) := by decide +kernel
theorem dX8_read_50 : decode cX8_read 50 = .ok (.iload_n 1, 1) := by decide +kernel
theorem dX8_read_51 : decode cX8_read 51 = .ok (.ireturn, 1) := by decide +kernel
theorem dX8_read_52 : decode cX8_read 52 = .ok (.aload_n 0, 1) := by decide +kernel
theorem dX8_read_53 : decode cX8_read 53 = .ok (.iload_n 1, 1) := by decide +kernel
theorem dX8_read_54 : decode cX8_read 54 = .ok (.iconst 1, 1) := by decide +kernel
theorem dX8_read_55 : decode cX8_read 55 = .ok (.iadd, 1) := by decide +kernel
theorem dX8_read_56 : decode cX8_read 56 = .ok (.invokevirtual 117, 3) := by decide +kernel
theorem dX8_read_59 : decode cX8_read 59 = .ok (.istore_n 1, 1) := by decide +kernel
theorem dX8_read_60 : decode cX8_read 60 = .ok (.aload_n 0, 1) := by decide +kernel
theorem dX8_read_61 : decode cX8_read 61 = .ok (.iload_n 1, 1) := by decide +kernel
theorem dX8_read_62 : decode cX8_read 62 = .ok (.invokevirtual 94, 3) := by decide +kernel
theorem dX8_read_65 : decode cX8_read 65 = .ok (.bipush 58, 2) := by decide +kernel
theorem dX8_read_67 : decode cX8_read 67 = .ok (.if_icmp .eq 5, 3) := by decide +kernel
theorem dX8_read_70 : decode cX8_read 70 = .ok (.iload_n 1, 1) := by decide +kernel
theorem dX8_read_71 : decode cX8_read 71 = .ok (.ireturn, 1) := by decide +kernel
theorem dX8_read_72 : decode cX8_read 72 = .ok (.iinc 1 1, 3) := by decide +kernel
theorem dX8_read_75 : decode cX8_read 75 = .ok (.iconst 0, 1) := by decide +kernel
theorem dX8_read_76 : decode cX8_read 76 = .ok (.istore_n 2, 1) := by decide +kernel
theorem dX8_read_77 : decode cX8_read 77 = .ok (.iconst 0, 1) := by decide +kernel
theorem dX8_read_78 : decode cX8_read 78 = .ok (.istore_n 3, 1) := by decide +kernel
theorem dX8_read_79 : decode cX8_read 79 = .ok (.iload_n 3, 1) := by decide +kernel
theorem dX8_read_80 : decode cX8_read 80 = .ok (.iconst 4, 1) := by decide +kernel
theorem dX8_read_81 : decode cX8_read 81 = .ok (.if_icmp .ge 16, 3) := by decide +kernel
theorem dX8_read_84 : decode cX8_read 84 = .ok (.aload_n 0, 1) := by decide +kernel
theorem dX8_read_85 : decode cX8_read 85 = .ok (.getfield 41, 3) := by decide +kernel
theorem dX8_read_88 : decode cX8_read 88 = .ok (.iload_n 3, 1) := by decide +kernel
theorem dX8_read_89 : decode cX8_read 89 = .ok (.iconst 0, 1) := by decide +kernel
theorem dX8_read_90 : decode cX8_read 90 = .ok (.iastore, 1) := by decide +kernel
theorem dX8_read_91 : decode cX8_read 91 = .ok (.iinc 3 1, 3) := by decide +kernel
theorem dX8_read_94 : decode cX8_read 94 = .ok (.goto (-15), 3) := by decide +kernel
theorem dX8_read_97 : decode cX8_read 97 = .ok (.iload_n 2, 1) := by decide +kernel
theorem dX8_read_98 : decode cX8_read 98 = .ok (.iconst 4, 1) := by decide +kernel
theorem dX8_read_99 : decode cX8_read 99 = .ok (.if_icmp .ge 37, 3) := by decide +kernel
theorem dX8_read_102 : decode cX8_read 102 = .ok (.aload_n 0, 1) := by decide +kernel
theorem dX8_read_103 : decode cX8_read 103 = .ok (.iload_n 1, 1) := by decide +kernel
theorem dX8_read_104 : decode cX8_read 104 = .ok (.invokevirtual 101, 3) := by decide +kernel
theorem dX8_read_107 : decode cX8_read 107 = .ok (.iconst 0, 1) := by decide +kernel
theorem dX8_read_108 : decode cX8_read 108 = .ok (.bipush 9, 2) := by decide +kernel
theorem dX8_read_110 : decode cX8_read 110 = .ok (.invokestatic 86, 3) := by decide +kernel
theorem dX8_read_113 : decode cX8_read 113 = .ok (.ifCond .eq 23, 3) := by decide +kernel
theorem dX8_read_116 : decode cX8_read 116 = .ok (.aload_n 0, 1) := by decide +kernel
theorem dX8_read_117 : decode cX8_read 117 = .ok (.getfield 41, 3) := by decide +kernel
theorem dX8_read_120 : decode cX8_read 120 = .ok (.iload_n 2, 1) := by decide +kernel
theorem dX8_read_121 : decode cX8_read 121 = .ok (.aload_n 0, 1) := by decide +kernel
theorem dX8_read_122 : decode cX8_read 122 = .ok (.iload_n 1, 1) := by decide +kernel
theorem dX8_read_123 : decode cX8_read 123 = .ok (.invokevirtual 101, 3) := by decide +kernel
theorem dX8_read_126 : decode cX8_read 126 = .ok (.iastore, 1) := by decide +kernel
theorem dX8_read_127 : decode cX8_read 127 = .ok (.iinc 2 1, 3) := by decide +kernel
theorem dX8_read_130 : decode cX8_read 130 = .ok (.iinc 1 1, 3) := by decide +kernel
theorem dX8_read_133 : decode cX8_read 133 = .ok (.goto (-36), 3) := by decide +kernel
theorem dX8_read_136 : decode cX8_read 136 = .ok (.aload_n 0, 1) := by decide +kernel
theorem dX8_read_137 : decode cX8_read 137 = .ok (.iload_n 2, 1) := by decide +kernel
theorem dX8_read_138 : decode cX8_read 138 = .ok (.ifCond .le 15, 3) := by decide +kernel
theorem dX8_read_141 : decode cX8_read 141 = .ok (.iload_n 1, 1) := by decide +kernel
theorem dX8_read_142 : decode cX8_read 142 = .ok (.aload_n 0, 1) := by decide +kernel
theorem dX8_read_143 : decode cX8_read 143 = .ok (.getfield 90, 3) := by decide +kernel
theorem dX8_read_146 : decode cX8_read 146 = .ok (.if_icmp .ne 7, 3) := by decide +kernel
theorem dX8_read_149 : decode cX8_read 149 = .ok (.iconst 1, 1) := by decide +kernel
theorem dX8_read_150 : decode cX8_read 150 = .ok (.goto 4, 3) := by decide +kernel
theorem dX8_read_153 : decode cX8_read 153 = .ok (.iconst 0, 1) := by decide +kernel
theorem dX8_read_154 : decode cX8_read 154 = .ok (.putfield 104, 3) := by decide +kernel
theorem dX8_read_157 : decode cX8_read 157 = .ok (.iload_n 1, 1) := by decide +kernel
theorem dX8_read_158 : decode cX8_read 158 = .ok (.ireturn, 1) := by decide +kernel
set_option maxRecDepth 20000 in
theorem ggX8_fault_X8_read : GoodIn wsX8_fault wsX8_read := goodIn_r _ [5, 6, 7, 8, 9, 10, 11, 12, 13, 4, 14, 15, 16, 17, 18, 19, 20, 21, 22, 23, 24, 25, 26, 27, 28, 29, 30, 31, 32, 33, 34, 35, 36, 37, 38, 39, 40, 41, 42, 43, 44, 45, 46, 47, 48, 49, 50, 51, 52, 53, 54, 55, 56, 57, 58, 59, 60, 61, 62, 63, 64, 65, 66, 67, 68, 69, 70, 71, 72, 73, 74, 75, 76, 77, 78, 79, 80, 81, 82] rfl (by decide +kernel)
set_option maxRecDepth 20000 in
theorem gX8_fault_X8_read : GoodIn wsX8_fault (wsV RX8 120 RX8 yX8_read wsX8_read) := goodIn_app (goodIn_r _ [1, 2, 3, 4] rfl (by decide +kernel)) ggX8_fault_X8_read
theorem dX8_fault_0 : decode cX8_fault 0 = .ok (.aload_n 0, 1) := by decide +kernel
theorem dX8_fault_1 : decode cX8_fault 1 = .ok (.invokevirtual 120, 3) := by decide +kernel
theorem dX8_fault_4 : decode cX8_fault 4 = .ok (.ireturn, 1) := by decide +kernel
theorem dX8_newBoxes_0 : decode cX8_newBoxes 0 = .ok (.iconst 0, 1) := by decide +kernel
theorem dX8_newBoxes_1 : decode cX8_newBoxes 1 = .ok (.istore_n 1, 1) := by decide +kernel
theorem dX8_newBoxes_2 : decode cX8_newBoxes 2 = .ok (.iconst 0, 1) := by decide +kernel
theorem dX8_newBoxes_3 : decode cX8_newBoxes 3 = .ok (.istore_n 2, 1) := by decide +kernel
theorem dX8_newBoxes_4 : decode cX8_newBoxes 4 = .ok (.iload_n 2, 1) := by decide +kernel
theorem dX8_newBoxes_5 : decode cX8_newBoxes 5 = .ok (.aload_n 0, 1) := by decide +kernel
theorem dX8_newBoxes_6 : decode cX8_newBoxes 6 = .ok (.getfield 98, 3) := by decide +kernel
theorem dX8_newBoxes_9 : decode cX8_newBoxes 9 = .ok (.if_icmp .ge 25, 3) := by decide +kernel
theorem dX8_newBoxes_12 : decode cX8_newBoxes 12 = .ok (.iload_n 1, 1) := by decide +kernel
theorem dX8_newBoxes_13 : decode cX8_newBoxes 13 = .ok (.aload_n 0, 1) := by decide +kernel
theorem dX8_newBoxes_14 : decode cX8_newBoxes 14 = .ok (.getfield 35, 3) := by decide +kernel
theorem dX8_newBoxes_17 : decode cX8_newBoxes 17 = .ok (.iload_n 2, 1) := by decide +kernel
theorem dX8_newBoxes_18 : decode cX8_newBoxes 18 = .ok (.iaload, 1) := by decide +kernel
theorem dX8_newBoxes_19 : decode cX8_newBoxes 19 = .ok (.aload_n 0, 1) := by decide +kernel
theorem dX8_newBoxes_20 : decode cX8_newBoxes 20 = .ok (.getfield 38, 3) := by decide +kernel
theorem dX8_newBoxes_23 : decode cX8_newBoxes 23 = .ok (.iload_n 2, 1) := by decide +kernel
theorem dX8_newBoxes_24 : decode cX8_newBoxes 24 = .ok (.iaload, 1) := by decide +kernel
theorem dX8_newBoxes_25 : decode cX8_newBoxes 25 = .ok (.isub, 1) := by decide +kernel
theorem dX8_newBoxes_26 : decode cX8_newBoxes 26 = .ok (.iadd, 1) := by decide +kernel
theorem dX8_newBoxes_27 : decode cX8_newBoxes 27 = .ok (.istore_n 1, 1) := by decide +kernel
theorem dX8_newBoxes_28 : decode cX8_newBoxes 28 = .ok (.iinc 2 1, 3) := by decide +kernel
theorem dX8_newBoxes_31 : decode cX8_newBoxes 31 = .ok (.goto (-27), 3) := by decide +kernel
theorem dX8_newBoxes_34 : decode cX8_newBoxes 34 = .ok (.iload_n 1, 1) := by decide +kernel
theorem dX8_newBoxes_35 : decode cX8_newBoxes 35 = .ok (.ireturn, 1) := by decide +kernel
theorem dX8_lay_0 : decode cX8_lay 0 = .ok (.aload_n 0, 1) := by decide +kernel
theorem dX8_lay_1 : decode cX8_lay 1 = .ok (.iconst 0, 1) := by decide +kernel
theorem dX8_lay_2 : decode cX8_lay 2 = .ok (.putfield 124, 3) := by decide +kernel
theorem dX8_lay_5 : decode cX8_lay 5 = .ok (.iconst 0, 1) := by decide +kernel
theorem dX8_lay_6 : decode cX8_lay 6 = .ok (.istore_n 1, 1) := by decide +kernel
theorem dX8_lay_7 : decode cX8_lay 7 = .ok (.iload_n 1, 1) := by decide +kernel
theorem dX8_lay_8 : decode cX8_lay 8 = .ok (.aload_n 0, 1) := by decide +kernel
theorem dX8_lay_9 : decode cX8_lay 9 = .ok (.getfield 127, 3) := by decide +kernel
theorem dX8_lay_12 : decode cX8_lay 12 = .ok (.if_icmp .ge 62, 3) := by decide +kernel
theorem dX8_lay_15 : decode cX8_lay 15 = .ok (.aload_n 0, 1) := by decide +kernel
theorem dX8_lay_16 : decode cX8_lay 16 = .ok (.getfield 13, 3) := by decide +kernel
theorem dX8_lay_19 : decode cX8_lay 19 = .ok (.iload_n 1, 1) := by decide +kernel
theorem dX8_lay_20 : decode cX8_lay 20 = .ok (.iaload, 1) := by decide +kernel
theorem dX8_lay_21 : decode cX8_lay 21 = .ok (.istore_n 2, 1) := by decide +kernel
theorem dX8_lay_22 : decode cX8_lay 22 = .ok (.iload_n 2, 1) := by decide +kernel
theorem dX8_lay_23 : decode cX8_lay 23 = .ok (.aload_n 0, 1) := by decide +kernel
theorem dX8_lay_24 : decode cX8_lay 24 = .ok (.getfield 7, 3) := by decide +kernel
theorem dX8_lay_27 : decode cX8_lay 27 = .ok (.iload_n 1, 1) := by decide +kernel
theorem dX8_lay_28 : decode cX8_lay 28 = .ok (.iaload, 1) := by decide +kernel
theorem dX8_lay_29 : decode cX8_lay 29 = .ok (.if_icmp .ge 39, 3) := by decide +kernel
theorem dX8_lay_32 : decode cX8_lay 32 = .ok (.aload_n 0, 1) := by decide +kernel
theorem dX8_lay_33 : decode cX8_lay 33 = .ok (.getfield 19, 3) := by decide +kernel
theorem dX8_lay_36 : decode cX8_lay 36 = .ok (.aload_n 0, 1) := by decide +kernel
theorem dX8_lay_37 : decode cX8_lay 37 = .ok (.getfield 124, 3) := by decide +kernel
theorem dX8_lay_40 : decode cX8_lay 40 = .ok (.iload_n 1, 1) := by decide +kernel
theorem dX8_lay_41 : decode cX8_lay 41 = .ok (.iastore, 1) := by decide +kernel
theorem dX8_lay_42 : decode cX8_lay 42 = .ok (.aload_n 0, 1) := by decide +kernel
theorem dX8_lay_43 : decode cX8_lay 43 = .ok (.getfield 22, 3) := by decide +kernel
theorem dX8_lay_46 : decode cX8_lay 46 = .ok (.aload_n 0, 1) := by decide +kernel
theorem dX8_lay_47 : decode cX8_lay 47 = .ok (.getfield 124, 3) := by decide +kernel
theorem dX8_lay_50 : decode cX8_lay 50 = .ok (.iload_n 2, 1) := by decide +kernel
theorem dX8_lay_51 : decode cX8_lay 51 = .ok (.iastore, 1) := by decide +kernel
theorem dX8_lay_52 : decode cX8_lay 52 = .ok (.aload_n 0, 1) := by decide +kernel
theorem dX8_lay_53 : decode cX8_lay 53 = .ok (.dup, 1) := by decide +kernel
theorem dX8_lay_54 : decode cX8_lay 54 = .ok (.getfield 124, 3) := by decide +kernel
theorem dX8_lay_57 : decode cX8_lay 57 = .ok (.iconst 1, 1) := by decide +kernel
theorem dX8_lay_58 : decode cX8_lay 58 = .ok (.iadd, 1) := by decide +kernel
theorem dX8_lay_59 : decode cX8_lay 59 = .ok (.putfield 124, 3) := by decide +kernel
theorem dX8_lay_62 : decode cX8_lay 62 = .ok (.iinc 2 1, 3) := by decide +kernel
theorem dX8_lay_65 : decode cX8_lay 65 = .ok (.goto (-43), 3) := by decide +kernel
theorem dX8_lay_68 : decode cX8_lay 68 = .ok (.iinc 1 1, 3) := by decide +kernel
theorem dX8_lay_71 : decode cX8_lay 71 = .ok (.goto (-64), 3) := by decide +kernel
theorem dX8_lay_74 : decode cX8_lay 74 = .ok (.aload_n 0, 1) := by decide +kernel
theorem dX8_lay_75 : decode cX8_lay 75 = .ok (.iconst 0, 1) := by decide +kernel
theorem dX8_lay_76 : decode cX8_lay 76 = .ok (.putfield 130, 3) := by decide +kernel
theorem dX8_lay_79 : decode cX8_lay 79 = .ok (.aload_n 0, 1) := by decide +kernel
theorem dX8_lay_80 : decode cX8_lay 80 = .ok (.iconst 0, 1) := by decide +kernel
theorem dX8_lay_81 : decode cX8_lay 81 = .ok (.putfield 133, 3) := by decide +kernel
theorem dX8_lay_84 : decode cX8_lay 84 = .ok (.return_, 1) := by decide +kernel
set_option maxRecDepth 20000 in
theorem ggX8_board_X8_read : GoodIn wsX8_board wsX8_read := goodIn_r _ [20, 1, 2, 4, 11, 14, 21, 22, 23, 19, 24, 25, 26, 27, 28, 29, 30, 31, 32, 7, 33, 34, 35, 36, 37, 38, 39, 40, 41, 42, 43, 9, 56, 57, 58, 59, 60, 61, 62, 63, 64, 65, 66, 67, 68, 69, 70, 71, 72, 73, 74, 75, 76, 77, 78, 79, 80, 81, 82, 83, 84, 85, 86, 87, 88, 89, 90, 91, 92, 93, 94, 95, 96, 97, 98, 99, 100, 101, 102] rfl (by decide +kernel)
set_option maxRecDepth 20000 in
theorem gX8_board_X8_read : GoodIn wsX8_board (wsV RX8 120 RX8 yX8_read wsX8_read) := goodIn_app (goodIn_r _ [16, 17, 18, 19] rfl (by decide +kernel)) ggX8_board_X8_read
set_option maxRecDepth 20000 in
theorem ggX8_board_X8_newBoxes : GoodIn wsX8_board wsX8_newBoxes := goodIn_r _ [47, 4, 7, 9, 56, 57, 58, 59, 60, 61, 62, 63, 64, 65, 66, 67, 68, 69, 70, 71, 72, 73, 74, 75, 76, 77, 78, 79, 80, 81, 82, 83, 84, 85, 86, 87, 88, 89, 90, 91, 92, 93, 94, 95, 96, 97, 98, 99, 100, 101, 102] rfl (by decide +kernel)
set_option maxRecDepth 20000 in
theorem gX8_board_X8_newBoxes : GoodIn wsX8_board (wsV RX8 136 RX8 yX8_newBoxes wsX8_newBoxes) := goodIn_app (goodIn_r _ [44, 45, 46, 19] rfl (by decide +kernel)) ggX8_board_X8_newBoxes
set_option maxRecDepth 20000 in
theorem ggX8_board_X8_lay : GoodIn wsX8_board wsX8_lay := goodIn_r _ [51, 15, 5, 8, 6, 52, 53, 54, 55, 56, 57, 58, 59, 60, 61, 62, 63, 64, 65, 66, 67, 68, 69, 70, 71, 72, 73, 74, 75, 76, 77, 78, 79, 80, 81, 82, 83, 84, 85, 86, 87, 88, 89, 90, 91, 92, 93, 94, 95, 96, 97, 98, 99, 100, 101, 102] rfl (by decide +kernel)
set_option maxRecDepth 20000 in
theorem gX8_board_X8_lay : GoodIn wsX8_board (wsV RX8 142 RX8 yX8_lay wsX8_lay) := goodIn_app (goodIn_r _ [48, 49, 50, 19] rfl (by decide +kernel)) ggX8_board_X8_lay
theorem dX8_board_0 : decode cX8_board 0 = .ok (.aload_n 0, 1) := by decide +kernel
theorem dX8_board_1 : decode cX8_board 1 = .ok (.invokevirtual 120, 3) := by decide +kernel
theorem dX8_board_4 : decode cX8_board 4 = .ok (.pop, 1) := by decide +kernel
theorem dX8_board_5 : decode cX8_board 5 = .ok (.aload_n 0, 1) := by decide +kernel
theorem dX8_board_6 : decode cX8_board 6 = .ok (.getfield 104, 3) := by decide +kernel
theorem dX8_board_9 : decode cX8_board 9 = .ok (.ifCond .eq 12, 3) := by decide +kernel
theorem dX8_board_12 : decode cX8_board 12 = .ok (.aload_n 0, 1) := by decide +kernel
theorem dX8_board_13 : decode cX8_board 13 = .ok (.invokevirtual 136, 3) := by decide +kernel
theorem dX8_board_16 : decode cX8_board 16 = .ok (.bipush 9, 2) := by decide +kernel
theorem dX8_board_18 : decode cX8_board 18 = .ok (.if_icmp .le 6, 3) := by decide +kernel
theorem dX8_board_21 : decode cX8_board 21 = .ok (.bipush (-103), 2) := by decide +kernel
theorem dX8_board_23 : decode cX8_board 23 = .ok (.ireturn, 1) := by decide +kernel
theorem dX8_board_24 : decode cX8_board 24 = .ok (.aload_n 0, 1) := by decide +kernel
theorem dX8_board_25 : decode cX8_board 25 = .ok (.aload_n 0, 1) := by decide +kernel
theorem dX8_board_26 : decode cX8_board 26 = .ok (.getfield 111, 3) := by decide +kernel
theorem dX8_board_29 : decode cX8_board 29 = .ok (.putfield 139, 3) := by decide +kernel
theorem dX8_board_32 : decode cX8_board 32 = .ok (.aload_n 0, 1) := by decide +kernel
theorem dX8_board_33 : decode cX8_board 33 = .ok (.aload_n 0, 1) := by decide +kernel
theorem dX8_board_34 : decode cX8_board 34 = .ok (.getfield 98, 3) := by decide +kernel
theorem dX8_board_37 : decode cX8_board 37 = .ok (.putfield 127, 3) := by decide +kernel
theorem dX8_board_40 : decode cX8_board 40 = .ok (.iconst 0, 1) := by decide +kernel
theorem dX8_board_41 : decode cX8_board 41 = .ok (.istore_n 1, 1) := by decide +kernel
theorem dX8_board_42 : decode cX8_board 42 = .ok (.iload_n 1, 1) := by decide +kernel
theorem dX8_board_43 : decode cX8_board 43 = .ok (.iconst 4, 1) := by decide +kernel
theorem dX8_board_44 : decode cX8_board 44 = .ok (.if_icmp .ge 57, 3) := by decide +kernel
theorem dX8_board_47 : decode cX8_board 47 = .ok (.aload_n 0, 1) := by decide +kernel
theorem dX8_board_48 : decode cX8_board 48 = .ok (.getfield 7, 3) := by decide +kernel
theorem dX8_board_51 : decode cX8_board 51 = .ok (.iload_n 1, 1) := by decide +kernel
theorem dX8_board_52 : decode cX8_board 52 = .ok (.iload_n 1, 1) := by decide +kernel
theorem dX8_board_53 : decode cX8_board 53 = .ok (.aload_n 0, 1) := by decide +kernel
theorem dX8_board_54 : decode cX8_board 54 = .ok (.getfield 127, 3) := by decide +kernel
theorem dX8_board_57 : decode cX8_board 57 = .ok (.if_icmp .ge 12, 3) := by decide +kernel
theorem dX8_board_60 : decode cX8_board 60 = .ok (.aload_n 0, 1) := by decide +kernel
theorem dX8_board_61 : decode cX8_board 61 = .ok (.getfield 35, 3) := by decide +kernel
theorem dX8_board_64 : decode cX8_board 64 = .ok (.iload_n 1, 1) := by decide +kernel
theorem dX8_board_65 : decode cX8_board 65 = .ok (.iaload, 1) := by decide +kernel
theorem dX8_board_66 : decode cX8_board 66 = .ok (.goto 4, 3) := by decide +kernel
theorem dX8_board_69 : decode cX8_board 69 = .ok (.iconst 0, 1) := by decide +kernel
theorem dX8_board_70 : decode cX8_board 70 = .ok (.iastore, 1) := by decide +kernel
theorem dX8_board_71 : decode cX8_board 71 = .ok (.aload_n 0, 1) := by decide +kernel
theorem dX8_board_72 : decode cX8_board 72 = .ok (.getfield 13, 3) := by decide +kernel
theorem dX8_board_75 : decode cX8_board 75 = .ok (.iload_n 1, 1) := by decide +kernel
theorem dX8_board_76 : decode cX8_board 76 = .ok (.aload_n 0, 1) := by decide +kernel
theorem dX8_board_77 : decode cX8_board 77 = .ok (.getfield 38, 3) := by decide +kernel
theorem dX8_board_80 : decode cX8_board 80 = .ok (.iload_n 1, 1) := by decide +kernel
theorem dX8_board_81 : decode cX8_board 81 = .ok (.iaload, 1) := by decide +kernel
theorem dX8_board_82 : decode cX8_board 82 = .ok (.iastore, 1) := by decide +kernel
theorem dX8_board_83 : decode cX8_board 83 = .ok (.aload_n 0, 1) := by decide +kernel
theorem dX8_board_84 : decode cX8_board 84 = .ok (.getfield 16, 3) := by decide +kernel
theorem dX8_board_87 : decode cX8_board 87 = .ok (.iload_n 1, 1) := by decide +kernel
theorem dX8_board_88 : decode cX8_board 88 = .ok (.aload_n 0, 1) := by decide +kernel
theorem dX8_board_89 : decode cX8_board 89 = .ok (.getfield 41, 3) := by decide +kernel
theorem dX8_board_92 : decode cX8_board 92 = .ok (.iload_n 1, 1) := by decide +kernel
theorem dX8_board_93 : decode cX8_board 93 = .ok (.iaload, 1) := by decide +kernel
theorem dX8_board_94 : decode cX8_board 94 = .ok (.iastore, 1) := by decide +kernel
theorem dX8_board_95 : decode cX8_board 95 = .ok (.iinc 1 1, 3) := by decide +kernel
theorem dX8_board_98 : decode cX8_board 98 = .ok (.goto (-56), 3) := by decide +kernel
theorem dX8_board_101 : decode cX8_board 101 = .ok (.aload_n 0, 1) := by decide +kernel
theorem dX8_board_102 : decode cX8_board 102 = .ok (.invokevirtual 142, 3) := by decide +kernel
theorem dX8_board_105 : decode cX8_board 105 = .ok (.aload_n 0, 1) := by decide +kernel
theorem dX8_board_106 : decode cX8_board 106 = .ok (.dup, 1) := by decide +kernel
theorem dX8_board_107 : decode cX8_board 107 = .ok (.getfield 145, 3) := by decide +kernel
theorem dX8_board_110 : decode cX8_board 110 = .ok (.iconst 1, 1) := by decide +kernel
theorem dX8_board_111 : decode cX8_board 111 = .ok (.iadd, 1) := by decide +kernel
theorem dX8_board_112 : decode cX8_board 112 = .ok (.putfield 145, 3) := by decide +kernel
theorem dX8_board_115 : decode cX8_board 115 = .ok (.aload_n 0, 1) := by decide +kernel
theorem dX8_board_116 : decode cX8_board 116 = .ok (.iconst 0, 1) := by decide +kernel
theorem dX8_board_117 : decode cX8_board 117 = .ok (.putfield 148, 3) := by decide +kernel
theorem dX8_board_120 : decode cX8_board 120 = .ok (.aload_n 0, 1) := by decide +kernel
theorem dX8_board_121 : decode cX8_board 121 = .ok (.iconst 0, 1) := by decide +kernel
theorem dX8_board_122 : decode cX8_board 122 = .ok (.putfield 90, 3) := by decide +kernel
theorem dX8_board_125 : decode cX8_board 125 = .ok (.aload_n 0, 1) := by decide +kernel
theorem dX8_board_126 : decode cX8_board 126 = .ok (.getfield 124, 3) := by decide +kernel
theorem dX8_board_129 : decode cX8_board 129 = .ok (.ireturn, 1) := by decide +kernel
theorem dX8_isBoard_0 : decode cX8_isBoard 0 = .ok (.aload_n 0, 1) := by decide +kernel
theorem dX8_isBoard_1 : decode cX8_isBoard 1 = .ok (.getfield 127, 3) := by decide +kernel
theorem dX8_isBoard_4 : decode cX8_isBoard 4 = .ok (.ifCond .le 7, 3) := by decide +kernel
theorem dX8_isBoard_7 : decode cX8_isBoard 7 = .ok (.iconst 1, 1) := by decide +kernel
theorem dX8_isBoard_8 : decode cX8_isBoard 8 = .ok (.goto 4, 3) := by decide +kernel
theorem dX8_isBoard_11 : decode cX8_isBoard 11 = .ok (.iconst 0, 1) := by decide +kernel
theorem dX8_isBoard_12 : decode cX8_isBoard 12 = .ok (.ireturn, 1) := by decide +kernel
set_option maxRecDepth 20000 in
theorem ggX8_letters_X8_isBoard : GoodIn wsX8_letters wsX8_isBoard := goodIn_r _ [6, 1, 7, 8, 9, 10, 11, 12, 13, 14, 15, 16, 17, 18, 19, 20, 21, 22, 23, 24, 25, 26, 27, 28, 29, 30, 31, 32, 33, 34, 35, 36, 37, 38, 39, 40, 41, 42, 43, 44, 45, 46, 47, 48, 49, 50, 51, 52, 53] rfl (by decide +kernel)
set_option maxRecDepth 20000 in
theorem gX8_letters_X8_isBoard : GoodIn wsX8_letters (wsV RX8 151 RX8 yX8_isBoard wsX8_isBoard) := goodIn_app (goodIn_r _ [2, 3, 4, 5] rfl (by decide +kernel)) ggX8_letters_X8_isBoard
theorem dX8_letters_0 : decode cX8_letters 0 = .ok (.aload_n 0, 1) := by decide +kernel
theorem dX8_letters_1 : decode cX8_letters 1 = .ok (.invokevirtual 151, 3) := by decide +kernel
theorem dX8_letters_4 : decode cX8_letters 4 = .ok (.ifCond .eq 15, 3) := by decide +kernel
theorem dX8_letters_7 : decode cX8_letters 7 = .ok (.iconst 2, 1) := by decide +kernel
theorem dX8_letters_8 : decode cX8_letters 8 = .ok (.aload_n 0, 1) := by decide +kernel
theorem dX8_letters_9 : decode cX8_letters 9 = .ok (.getfield 127, 3) := by decide +kernel
theorem dX8_letters_12 : decode cX8_letters 12 = .ok (.imul, 1) := by decide +kernel
theorem dX8_letters_13 : decode cX8_letters 13 = .ok (.bipush 7, 2) := by decide +kernel
theorem dX8_letters_15 : decode cX8_letters 15 = .ok (.iadd, 1) := by decide +kernel
theorem dX8_letters_16 : decode cX8_letters 16 = .ok (.goto 4, 3) := by decide +kernel
theorem dX8_letters_19 : decode cX8_letters 19 = .ok (.iconst 0, 1) := by decide +kernel
theorem dX8_letters_20 : decode cX8_letters 20 = .ok (.ireturn, 1) := by decide +kernel
set_option maxRecDepth 20000 in
theorem ggX8_letterAt_X8_letterOf : GoodIn wsX8_letterAt wsX8_letterOf := goodIn_r _ [9] rfl (by decide +kernel)
set_option maxRecDepth 20000 in
theorem gX8_letterAt_X8_letterOf : GoodIn wsX8_letterAt (va_wsS RX8 155 yX8_letterOf wsX8_letterOf) := goodIn_app (goodIn_r _ [6, 7, 8] rfl (by decide +kernel)) ggX8_letterAt_X8_letterOf
theorem dX8_letterAt_0 : decode cX8_letterAt 0 = .ok (.iload_n 1, 1) := by decide +kernel
theorem dX8_letterAt_1 : decode cX8_letterAt 1 = .ok (.ifCond .ne 11, 3) := by decide +kernel
theorem dX8_letterAt_4 : decode cX8_letterAt 4 = .ok (.aload_n 0, 1) := by decide +kernel
theorem dX8_letterAt_5 : decode cX8_letterAt 5 = .ok (.getfield 139, 3) := by decide +kernel
theorem dX8_letterAt_8 : decode cX8_letterAt 8 = .ok (.invokestatic 155, 3) := by decide +kernel
theorem dX8_letterAt_11 : decode cX8_letterAt 11 = .ok (.ireturn, 1) := by decide +kernel
theorem dX8_letterAt_12 : decode cX8_letterAt 12 = .ok (.iload_n 1, 1) := by decide +kernel
theorem dX8_letterAt_13 : decode cX8_letterAt 13 = .ok (.aload_n 0, 1) := by decide +kernel
theorem dX8_letterAt_14 : decode cX8_letterAt 14 = .ok (.getfield 127, 3) := by decide +kernel
theorem dX8_letterAt_17 : decode cX8_letterAt 17 = .ok (.if_icmp .gt 15, 3) := by decide +kernel
theorem dX8_letterAt_20 : decode cX8_letterAt 20 = .ok (.bipush 48, 2) := by decide +kernel
theorem dX8_letterAt_22 : decode cX8_letterAt 22 = .ok (.aload_n 0, 1) := by decide +kernel
theorem dX8_letterAt_23 : decode cX8_letterAt 23 = .ok (.getfield 7, 3) := by decide +kernel
theorem dX8_letterAt_26 : decode cX8_letterAt 26 = .ok (.iload_n 1, 1) := by decide +kernel
theorem dX8_letterAt_27 : decode cX8_letterAt 27 = .ok (.iconst 1, 1) := by decide +kernel
theorem dX8_letterAt_28 : decode cX8_letterAt 28 = .ok (.isub, 1) := by decide +kernel
theorem dX8_letterAt_29 : decode cX8_letterAt 29 = .ok (.iaload, 1) := by decide +kernel
theorem dX8_letterAt_30 : decode cX8_letterAt 30 = .ok (.iadd, 1) := by decide +kernel
theorem dX8_letterAt_31 : decode cX8_letterAt 31 = .ok (.ireturn, 1) := by decide +kernel
theorem dX8_letterAt_32 : decode cX8_letterAt 32 = .ok (.iload_n 1, 1) := by decide +kernel
theorem dX8_letterAt_33 : decode cX8_letterAt 33 = .ok (.aload_n 0, 1) := by decide +kernel
theorem dX8_letterAt_34 : decode cX8_letterAt 34 = .ok (.getfield 127, 3) := by decide +kernel
theorem dX8_letterAt_37 : decode cX8_letterAt 37 = .ok (.iconst 1, 1) := by decide +kernel
theorem dX8_letterAt_38 : decode cX8_letterAt 38 = .ok (.iadd, 1) := by decide +kernel
theorem dX8_letterAt_39 : decode cX8_letterAt 39 = .ok (.if_icmp .ne 6, 3) := by decide +kernel
theorem dX8_letterAt_42 : decode cX8_letterAt 42 = .ok (.bipush 47, 2) := by decide +kernel
theorem dX8_letterAt_44 : decode cX8_letterAt 44 = .ok (.ireturn, 1) := by decide +kernel
theorem dX8_letterAt_45 : decode cX8_letterAt 45 = .ok (.iload_n 1, 1) := by decide +kernel
theorem dX8_letterAt_46 : decode cX8_letterAt 46 = .ok (.iconst 2, 1) := by decide +kernel
theorem dX8_letterAt_47 : decode cX8_letterAt 47 = .ok (.aload_n 0, 1) := by decide +kernel
theorem dX8_letterAt_48 : decode cX8_letterAt 48 = .ok (.getfield 127, 3) := by decide +kernel
theorem dX8_letterAt_51 : decode cX8_letterAt 51 = .ok (.imul, 1) := by decide +kernel
theorem dX8_letterAt_52 : decode cX8_letterAt 52 = .ok (.iconst 2, 1) := by decide +kernel
theorem dX8_letterAt_53 : decode cX8_letterAt 53 = .ok (.iadd, 1) := by decide +kernel
theorem dX8_letterAt_54 : decode cX8_letterAt 54 = .ok (.if_icmp .ge 20, 3) := by decide +kernel
theorem dX8_letterAt_57 : decode cX8_letterAt 57 = .ok (.bipush 48, 2) := by decide +kernel
theorem dX8_letterAt_59 : decode cX8_letterAt 59 = .ok (.aload_n 0, 1) := by decide +kernel
theorem dX8_letterAt_60 : decode cX8_letterAt 60 = .ok (.getfield 13, 3) := by decide +kernel
theorem dX8_letterAt_63 : decode cX8_letterAt 63 = .ok (.iload_n 1, 1) := by decide +kernel
theorem dX8_letterAt_64 : decode cX8_letterAt 64 = .ok (.aload_n 0, 1) := by decide +kernel
theorem dX8_letterAt_65 : decode cX8_letterAt 65 = .ok (.getfield 127, 3) := by decide +kernel
theorem dX8_letterAt_68 : decode cX8_letterAt 68 = .ok (.isub, 1) := by decide +kernel
theorem dX8_letterAt_69 : decode cX8_letterAt 69 = .ok (.iconst 2, 1) := by decide +kernel
theorem dX8_letterAt_70 : decode cX8_letterAt 70 = .ok (.isub, 1) := by decide +kernel
theorem dX8_letterAt_71 : decode cX8_letterAt 71 = .ok (.iaload, 1) := by decide +kernel
theorem dX8_letterAt_72 : decode cX8_letterAt 72 = .ok (.iadd, 1) := by decide +kernel
theorem dX8_letterAt_73 : decode cX8_letterAt 73 = .ok (.ireturn, 1) := by decide +kernel
theorem dX8_letterAt_74 : decode cX8_letterAt 74 = .ok (.iload_n 1, 1) := by decide +kernel
theorem dX8_letterAt_75 : decode cX8_letterAt 75 = .ok (.iconst 2, 1) := by decide +kernel
theorem dX8_letterAt_76 : decode cX8_letterAt 76 = .ok (.aload_n 0, 1) := by decide +kernel
theorem dX8_letterAt_77 : decode cX8_letterAt 77 = .ok (.getfield 127, 3) := by decide +kernel
theorem dX8_letterAt_80 : decode cX8_letterAt 80 = .ok (.imul, 1) := by decide +kernel
theorem dX8_letterAt_81 : decode cX8_letterAt 81 = .ok (.iconst 2, 1) := by decide +kernel
theorem dX8_letterAt_82 : decode cX8_letterAt 82 = .ok (.iadd, 1) := by decide +kernel
theorem dX8_letterAt_83 : decode cX8_letterAt 83 = .ok (.if_icmp .ne 8, 3) := by decide +kernel
theorem dX8_letterAt_86 : decode cX8_letterAt 86 = .ok (.bipush 58, 2) := by decide +kernel
theorem dX8_letterAt_88 : decode cX8_letterAt 88 = .ok (.goto 21, 3) := by decide +kernel
theorem dX8_letterAt_91 : decode cX8_letterAt 91 = .ok (.bipush 48, 2) := by decide +kernel
theorem dX8_letterAt_93 : decode cX8_letterAt 93 = .ok (.aload_n 0, 1) := by decide +kernel
theorem dX8_letterAt_94 : decode cX8_letterAt 94 = .ok (.getfield 16, 3) := by decide +kernel
theorem dX8_letterAt_97 : decode cX8_letterAt 97 = .ok (.iload_n 1, 1) := by decide +kernel
theorem dX8_letterAt_98 : decode cX8_letterAt 98 = .ok (.iconst 2, 1) := by decide +kernel
theorem dX8_letterAt_99 : decode cX8_letterAt 99 = .ok (.aload_n 0, 1) := by decide +kernel
theorem dX8_letterAt_100 : decode cX8_letterAt 100 = .ok (.getfield 127, 3) := by decide +kernel
theorem dX8_letterAt_103 : decode cX8_letterAt 103 = .ok (.imul, 1) := by decide +kernel
theorem dX8_letterAt_104 : decode cX8_letterAt 104 = .ok (.isub, 1) := by decide +kernel
theorem dX8_letterAt_105 : decode cX8_letterAt 105 = .ok (.iconst 3, 1) := by decide +kernel
theorem dX8_letterAt_106 : decode cX8_letterAt 106 = .ok (.isub, 1) := by decide +kernel
theorem dX8_letterAt_107 : decode cX8_letterAt 107 = .ok (.iaload, 1) := by decide +kernel
theorem dX8_letterAt_108 : decode cX8_letterAt 108 = .ok (.iadd, 1) := by decide +kernel
theorem dX8_letterAt_109 : decode cX8_letterAt 109 = .ok (.ireturn, 1) := by decide +kernel
set_option maxRecDepth 20000 in
theorem ggX8_text_X8_letters : GoodIn wsX8_text wsX8_letters := goodIn_r _ [5, 6, 7, 8, 9, 4, 10, 25, 26, 27, 28, 29, 30, 31, 32, 33, 34, 35, 36, 37, 38, 39, 40, 41, 42, 43, 44, 45, 46, 47, 48, 49, 50, 51, 52, 53, 54, 55, 56, 57, 58, 59, 60, 61, 62, 63, 64, 65, 66, 67, 68, 69, 70, 71] rfl (by decide +kernel)
set_option maxRecDepth 20000 in
theorem gX8_text_X8_letters : GoodIn wsX8_text (wsV RX8 158 RX8 yX8_letters wsX8_letters) := goodIn_app (goodIn_r _ [1, 2, 3, 4] rfl (by decide +kernel)) ggX8_text_X8_letters
set_option maxRecDepth 20000 in
theorem ggX8_text_X8_within : GoodIn wsX8_text wsX8_within := goodIn_r _ [13] rfl (by decide +kernel)
set_option maxRecDepth 20000 in
theorem gX8_text_X8_within : GoodIn wsX8_text (va_wsS RX8 86 yX8_within wsX8_within) := goodIn_app (goodIn_r _ [11, 12, 4] rfl (by decide +kernel)) ggX8_text_X8_within
set_option maxRecDepth 20000 in
theorem ggX8_text_X8_letterAt : GoodIn wsX8_text wsX8_letterAt := goodIn_r _ [17, 18, 6, 19, 20, 21, 22, 23, 4, 24, 25, 26, 27, 28, 29, 30, 31, 32, 33, 34, 35, 36, 37, 38, 39, 40, 41, 42, 43, 44, 45, 46, 47, 48, 49, 50, 51, 52, 53, 54, 55, 56, 57, 58, 59, 60, 61, 62, 63, 64, 65, 66, 67, 68, 69, 70, 71] rfl (by decide +kernel)
set_option maxRecDepth 20000 in
theorem gX8_text_X8_letterAt : GoodIn wsX8_text (wsV RX8 161 RX8 yX8_letterAt wsX8_letterAt) := goodIn_app (goodIn_r _ [14, 15, 16, 4] rfl (by decide +kernel)) ggX8_text_X8_letterAt
theorem dX8_text_0 : decode cX8_text 0 = .ok (.iload_n 1, 1) := by decide +kernel
theorem dX8_text_1 : decode cX8_text 1 = .ok (.iconst 0, 1) := by decide +kernel
theorem dX8_text_2 : decode cX8_text 2 = .ok (.aload_n 0, 1) := by decide +kernel
theorem dX8_text_3 : decode cX8_text 3 = .ok (.invokevirtual 158, 3) := by decide +kernel
theorem dX8_text_6 : decode cX8_text 6 = .ok (.iconst 1, 1) := by decide +kernel
theorem dX8_text_7 : decode cX8_text 7 = .ok (.isub, 1) := by decide +kernel
theorem dX8_text_8 : decode cX8_text 8 = .ok (.invokestatic 86, 3) := by decide +kernel
theorem dX8_text_11 : decode cX8_text 11 = .ok (.ifCond .eq 11, 3) := by decide +kernel
theorem dX8_text_14 : decode cX8_text 14 = .ok (.aload_n 0, 1) := by decide +kernel
theorem dX8_text_15 : decode cX8_text 15 = .ok (.iload_n 1, 1) := by decide +kernel
theorem dX8_text_16 : decode cX8_text 16 = .ok (.invokevirtual 161, 3) := by decide +kernel
theorem dX8_text_19 : decode cX8_text 19 = .ok (.goto 5, 3) := by decide +kernel
theorem dX8_text_22 : decode cX8_text 22 = .ok (.bipush (-101), 2) := by decide +kernel
theorem dX8_text_24 : decode cX8_text 24 = .ok (.ireturn, 1) := by decide +kernel
theorem dX8_aboveOf_0 : decode cX8_aboveOf 0 = .ok (.iconst 0, 1) := by decide +kernel
theorem dX8_aboveOf_1 : decode cX8_aboveOf 1 = .ok (.istore_n 2, 1) := by decide +kernel
theorem dX8_aboveOf_2 : decode cX8_aboveOf 2 = .ok (.iload_n 2, 1) := by decide +kernel
theorem dX8_aboveOf_3 : decode cX8_aboveOf 3 = .ok (.iload_n 1, 1) := by decide +kernel
theorem dX8_aboveOf_4 : decode cX8_aboveOf 4 = .ok (.if_icmp .ge 43, 3) := by decide +kernel
theorem dX8_aboveOf_7 : decode cX8_aboveOf 7 = .ok (.aload_n 0, 1) := by decide +kernel
theorem dX8_aboveOf_8 : decode cX8_aboveOf 8 = .ok (.getfield 19, 3) := by decide +kernel
theorem dX8_aboveOf_11 : decode cX8_aboveOf 11 = .ok (.iload_n 2, 1) := by decide +kernel
theorem dX8_aboveOf_12 : decode cX8_aboveOf 12 = .ok (.iaload, 1) := by decide +kernel
theorem dX8_aboveOf_13 : decode cX8_aboveOf 13 = .ok (.aload_n 0, 1) := by decide +kernel
theorem dX8_aboveOf_14 : decode cX8_aboveOf 14 = .ok (.getfield 19, 3) := by decide +kernel
theorem dX8_aboveOf_17 : decode cX8_aboveOf 17 = .ok (.iload_n 1, 1) := by decide +kernel
theorem dX8_aboveOf_18 : decode cX8_aboveOf 18 = .ok (.iaload, 1) := by decide +kernel
theorem dX8_aboveOf_19 : decode cX8_aboveOf 19 = .ok (.iconst 1, 1) := by decide +kernel
theorem dX8_aboveOf_20 : decode cX8_aboveOf 20 = .ok (.isub, 1) := by decide +kernel
theorem dX8_aboveOf_21 : decode cX8_aboveOf 21 = .ok (.if_icmp .ne 20, 3) := by decide +kernel
theorem dX8_aboveOf_24 : decode cX8_aboveOf 24 = .ok (.aload_n 0, 1) := by decide +kernel
theorem dX8_aboveOf_25 : decode cX8_aboveOf 25 = .ok (.getfield 22, 3) := by decide +kernel
theorem dX8_aboveOf_28 : decode cX8_aboveOf 28 = .ok (.iload_n 2, 1) := by decide +kernel
theorem dX8_aboveOf_29 : decode cX8_aboveOf 29 = .ok (.iaload, 1) := by decide +kernel
theorem dX8_aboveOf_30 : decode cX8_aboveOf 30 = .ok (.aload_n 0, 1) := by decide +kernel
theorem dX8_aboveOf_31 : decode cX8_aboveOf 31 = .ok (.getfield 22, 3) := by decide +kernel
theorem dX8_aboveOf_34 : decode cX8_aboveOf 34 = .ok (.iload_n 1, 1) := by decide +kernel
theorem dX8_aboveOf_35 : decode cX8_aboveOf 35 = .ok (.iaload, 1) := by decide +kernel
theorem dX8_aboveOf_36 : decode cX8_aboveOf 36 = .ok (.if_icmp .ne 5, 3) := by decide +kernel
theorem dX8_aboveOf_39 : decode cX8_aboveOf 39 = .ok (.iload_n 2, 1) := by decide +kernel
theorem dX8_aboveOf_40 : decode cX8_aboveOf 40 = .ok (.ireturn, 1) := by decide +kernel
theorem dX8_aboveOf_41 : decode cX8_aboveOf 41 = .ok (.iinc 2 1, 3) := by decide +kernel
theorem dX8_aboveOf_44 : decode cX8_aboveOf 44 = .ok (.goto (-42), 3) := by decide +kernel
theorem dX8_aboveOf_47 : decode cX8_aboveOf 47 = .ok (.iconst (-1), 1) := by decide +kernel
theorem dX8_aboveOf_48 : decode cX8_aboveOf 48 = .ok (.ireturn, 1) := by decide +kernel
theorem dX8_rowFits_0 : decode cX8_rowFits 0 = .ok (.aload_n 0, 1) := by decide +kernel
theorem dX8_rowFits_1 : decode cX8_rowFits 1 = .ok (.getfield 139, 3) := by decide +kernel
theorem dX8_rowFits_4 : decode cX8_rowFits 4 = .ok (.lookupswitch 50 #[(3, 28), (4, 39)], 28) := by decide +kernel
theorem dX8_rowFits_32 : decode cX8_rowFits 32 = .ok (.iload_n 1, 1) := by decide +kernel
theorem dX8_rowFits_33 : decode cX8_rowFits 33 = .ok (.iload_n 2, 1) := by decide +kernel
theorem dX8_rowFits_34 : decode cX8_rowFits 34 = .ok (.if_icmp .ge 7, 3) := by decide +kernel
theorem dX8_rowFits_37 : decode cX8_rowFits 37 = .ok (.iconst 1, 1) := by decide +kernel
theorem dX8_rowFits_38 : decode cX8_rowFits 38 = .ok (.goto 4, 3) := by decide +kernel
theorem dX8_rowFits_41 : decode cX8_rowFits 41 = .ok (.iconst 0, 1) := by decide +kernel
theorem dX8_rowFits_42 : decode cX8_rowFits 42 = .ok (.ireturn, 1) := by decide +kernel
theorem dX8_rowFits_43 : decode cX8_rowFits 43 = .ok (.iload_n 1, 1) := by decide +kernel
theorem dX8_rowFits_44 : decode cX8_rowFits 44 = .ok (.iload_n 2, 1) := by decide +kernel
theorem dX8_rowFits_45 : decode cX8_rowFits 45 = .ok (.if_icmp .lt 7, 3) := by decide +kernel
theorem dX8_rowFits_48 : decode cX8_rowFits 48 = .ok (.iconst 1, 1) := by decide +kernel
theorem dX8_rowFits_49 : decode cX8_rowFits 49 = .ok (.goto 4, 3) := by decide +kernel
theorem dX8_rowFits_52 : decode cX8_rowFits 52 = .ok (.iconst 0, 1) := by decide +kernel
theorem dX8_rowFits_53 : decode cX8_rowFits 53 = .ok (.ireturn, 1) := by decide +kernel
theorem dX8_rowFits_54 : decode cX8_rowFits 54 = .ok (.iload_n 1, 1) := by decide +kernel
theorem dX8_rowFits_55 : decode cX8_rowFits 55 = .ok (.iload_n 2, 1) := by decide +kernel
theorem dX8_rowFits_56 : decode cX8_rowFits 56 = .ok (.if_icmp .gt 7, 3) := by decide +kernel
theorem dX8_rowFits_59 : decode cX8_rowFits 59 = .ok (.iconst 1, 1) := by decide +kernel
theorem dX8_rowFits_60 : decode cX8_rowFits 60 = .ok (.goto 4, 3) := by decide +kernel
theorem dX8_rowFits_63 : decode cX8_rowFits 63 = .ok (.iconst 0, 1) := by decide +kernel
theorem dX8_rowFits_64 : decode cX8_rowFits 64 = .ok (.ireturn, 1) := by decide +kernel
theorem dX8_columnFits_0 : decode cX8_columnFits 0 = .ok (.aload_n 0, 1) := by decide +kernel
theorem dX8_columnFits_1 : decode cX8_columnFits 1 = .ok (.getfield 139, 3) := by decide +kernel
theorem dX8_columnFits_4 : decode cX8_columnFits 4 = .ok (.tableswitch 65 1 4 #[32, 32, 43, 54], 32) := by decide +kernel
theorem dX8_columnFits_36 : decode cX8_columnFits 36 = .ok (.iload_n 1, 1) := by decide +kernel
theorem dX8_columnFits_37 : decode cX8_columnFits 37 = .ok (.iload_n 2, 1) := by decide +kernel
theorem dX8_columnFits_38 : decode cX8_columnFits 38 = .ok (.if_icmp .ge 7, 3) := by decide +kernel
theorem dX8_columnFits_41 : decode cX8_columnFits 41 = .ok (.iconst 1, 1) := by decide +kernel
theorem dX8_columnFits_42 : decode cX8_columnFits 42 = .ok (.goto 4, 3) := by decide +kernel
theorem dX8_columnFits_45 : decode cX8_columnFits 45 = .ok (.iconst 0, 1) := by decide +kernel
theorem dX8_columnFits_46 : decode cX8_columnFits 46 = .ok (.ireturn, 1) := by decide +kernel
theorem dX8_columnFits_47 : decode cX8_columnFits 47 = .ok (.iload_n 1, 1) := by decide +kernel
theorem dX8_columnFits_48 : decode cX8_columnFits 48 = .ok (.iload_n 2, 1) := by decide +kernel
theorem dX8_columnFits_49 : decode cX8_columnFits 49 = .ok (.if_icmp .gt 7, 3) := by decide +kernel
theorem dX8_columnFits_52 : decode cX8_columnFits 52 = .ok (.iconst 1, 1) := by decide +kernel
theorem dX8_columnFits_53 : decode cX8_columnFits 53 = .ok (.goto 4, 3) := by decide +kernel
theorem dX8_columnFits_56 : decode cX8_columnFits 56 = .ok (.iconst 0, 1) := by decide +kernel
theorem dX8_columnFits_57 : decode cX8_columnFits 57 = .ok (.ireturn, 1) := by decide +kernel
theorem dX8_columnFits_58 : decode cX8_columnFits 58 = .ok (.iload_n 1, 1) := by decide +kernel
theorem dX8_columnFits_59 : decode cX8_columnFits 59 = .ok (.iload_n 2, 1) := by decide +kernel
theorem dX8_columnFits_60 : decode cX8_columnFits 60 = .ok (.if_icmp .le 7, 3) := by decide +kernel
theorem dX8_columnFits_63 : decode cX8_columnFits 63 = .ok (.iconst 1, 1) := by decide +kernel
theorem dX8_columnFits_64 : decode cX8_columnFits 64 = .ok (.goto 4, 3) := by decide +kernel
theorem dX8_columnFits_67 : decode cX8_columnFits 67 = .ok (.iconst 0, 1) := by decide +kernel
theorem dX8_columnFits_68 : decode cX8_columnFits 68 = .ok (.ireturn, 1) := by decide +kernel
theorem dX8_columnFits_69 : decode cX8_columnFits 69 = .ok (.iconst 1, 1) := by decide +kernel
theorem dX8_columnFits_70 : decode cX8_columnFits 70 = .ok (.ireturn, 1) := by decide +kernel
set_option maxRecDepth 20000 in
theorem ggX8_fits_X8_rowFits : GoodIn wsX8_fits wsX8_rowFits := goodIn_r _ [7, 8, 18, 19, 20, 21, 22, 23, 24, 25, 26, 27, 28, 29, 30, 31, 32, 33, 34, 35, 36, 37, 38, 39, 40, 41, 42, 43, 44, 45, 46, 47, 48, 49, 50, 51, 52, 53, 54, 55, 56, 57, 58, 59, 60, 61, 62, 63, 64] rfl (by decide +kernel)
set_option maxRecDepth 20000 in
theorem gX8_fits_X8_rowFits : GoodIn wsX8_fits (wsV RX8 164 RX8 yX8_rowFits wsX8_rowFits) := goodIn_app (goodIn_r _ [3, 4, 5, 6] rfl (by decide +kernel)) ggX8_fits_X8_rowFits
set_option maxRecDepth 20000 in
theorem ggX8_fits_X8_aboveOf : GoodIn wsX8_fits wsX8_aboveOf := goodIn_r _ [12, 1, 13, 18, 19, 20, 21, 22, 23, 24, 25, 26, 27, 28, 29, 30, 31, 32, 33, 34, 35, 36, 37, 38, 39, 40, 41, 42, 43, 44, 45, 46, 47, 48, 49, 50, 51, 52, 53, 54, 55, 56, 57, 58, 59, 60, 61, 62, 63, 64] rfl (by decide +kernel)
set_option maxRecDepth 20000 in
theorem gX8_fits_X8_aboveOf : GoodIn wsX8_fits (wsV RX8 168 RX8 yX8_aboveOf wsX8_aboveOf) := goodIn_app (goodIn_r _ [9, 10, 11, 6] rfl (by decide +kernel)) ggX8_fits_X8_aboveOf
set_option maxRecDepth 20000 in
theorem ggX8_fits_X8_columnFits : GoodIn wsX8_fits wsX8_columnFits := goodIn_r _ [17, 8, 18, 19, 20, 21, 22, 23, 24, 25, 26, 27, 28, 29, 30, 31, 32, 33, 34, 35, 36, 37, 38, 39, 40, 41, 42, 43, 44, 45, 46, 47, 48, 49, 50, 51, 52, 53, 54, 55, 56, 57, 58, 59, 60, 61, 62, 63, 64] rfl (by decide +kernel)
set_option maxRecDepth 20000 in
theorem gX8_fits_X8_columnFits : GoodIn wsX8_fits (wsV RX8 171 RX8 yX8_columnFits wsX8_columnFits) := goodIn_app (goodIn_r _ [14, 15, 16, 6] rfl (by decide +kernel)) ggX8_fits_X8_columnFits
theorem dX8_fits_0 : decode cX8_fits 0 = .ok (.iload_n 1, 1) := by decide +kernel
theorem dX8_fits_1 : decode cX8_fits 1 = .ok (.ifCond .eq 41, 3) := by decide +kernel
theorem dX8_fits_4 : decode cX8_fits 4 = .ok (.aload_n 0, 1) := by decide +kernel
theorem dX8_fits_5 : decode cX8_fits 5 = .ok (.getfield 19, 3) := by decide +kernel
theorem dX8_fits_8 : decode cX8_fits 8 = .ok (.iload_n 1, 1) := by decide +kernel
theorem dX8_fits_9 : decode cX8_fits 9 = .ok (.iconst 1, 1) := by decide +kernel
theorem dX8_fits_10 : decode cX8_fits 10 = .ok (.isub, 1) := by decide +kernel
theorem dX8_fits_11 : decode cX8_fits 11 = .ok (.iaload, 1) := by decide +kernel
theorem dX8_fits_12 : decode cX8_fits 12 = .ok (.aload_n 0, 1) := by decide +kernel
theorem dX8_fits_13 : decode cX8_fits 13 = .ok (.getfield 19, 3) := by decide +kernel
theorem dX8_fits_16 : decode cX8_fits 16 = .ok (.iload_n 1, 1) := by decide +kernel
theorem dX8_fits_17 : decode cX8_fits 17 = .ok (.iaload, 1) := by decide +kernel
theorem dX8_fits_18 : decode cX8_fits 18 = .ok (.if_icmp .ne 24, 3) := by decide +kernel
theorem dX8_fits_21 : decode cX8_fits 21 = .ok (.aload_n 0, 1) := by decide +kernel
theorem dX8_fits_22 : decode cX8_fits 22 = .ok (.aload_n 0, 1) := by decide +kernel
theorem dX8_fits_23 : decode cX8_fits 23 = .ok (.getfield 44, 3) := by decide +kernel
theorem dX8_fits_26 : decode cX8_fits 26 = .ok (.iload_n 1, 1) := by decide +kernel
theorem dX8_fits_27 : decode cX8_fits 27 = .ok (.iconst 1, 1) := by decide +kernel
theorem dX8_fits_28 : decode cX8_fits 28 = .ok (.isub, 1) := by decide +kernel
theorem dX8_fits_29 : decode cX8_fits 29 = .ok (.iaload, 1) := by decide +kernel
theorem dX8_fits_30 : decode cX8_fits 30 = .ok (.aload_n 0, 1) := by decide +kernel
theorem dX8_fits_31 : decode cX8_fits 31 = .ok (.getfield 44, 3) := by decide +kernel
theorem dX8_fits_34 : decode cX8_fits 34 = .ok (.iload_n 1, 1) := by decide +kernel
theorem dX8_fits_35 : decode cX8_fits 35 = .ok (.iaload, 1) := by decide +kernel
theorem dX8_fits_36 : decode cX8_fits 36 = .ok (.invokevirtual 164, 3) := by decide +kernel
theorem dX8_fits_39 : decode cX8_fits 39 = .ok (.ifCond .eq 7, 3) := by decide +kernel
theorem dX8_fits_42 : decode cX8_fits 42 = .ok (.iconst 1, 1) := by decide +kernel
theorem dX8_fits_43 : decode cX8_fits 43 = .ok (.goto 4, 3) := by decide +kernel
theorem dX8_fits_46 : decode cX8_fits 46 = .ok (.iconst 0, 1) := by decide +kernel
theorem dX8_fits_47 : decode cX8_fits 47 = .ok (.istore_n 2, 1) := by decide +kernel
theorem dX8_fits_48 : decode cX8_fits 48 = .ok (.aload_n 0, 1) := by decide +kernel
theorem dX8_fits_49 : decode cX8_fits 49 = .ok (.iload_n 1, 1) := by decide +kernel
theorem dX8_fits_50 : decode cX8_fits 50 = .ok (.invokevirtual 168, 3) := by decide +kernel
theorem dX8_fits_53 : decode cX8_fits 53 = .ok (.istore_n 3, 1) := by decide +kernel
theorem dX8_fits_54 : decode cX8_fits 54 = .ok (.iload_n 2, 1) := by decide +kernel
theorem dX8_fits_55 : decode cX8_fits 55 = .ok (.ifCond .eq 31, 3) := by decide +kernel
theorem dX8_fits_58 : decode cX8_fits 58 = .ok (.iload_n 3, 1) := by decide +kernel
theorem dX8_fits_59 : decode cX8_fits 59 = .ok (.iconst (-1), 1) := by decide +kernel
theorem dX8_fits_60 : decode cX8_fits 60 = .ok (.if_icmp .eq 22, 3) := by decide +kernel
theorem dX8_fits_63 : decode cX8_fits 63 = .ok (.aload_n 0, 1) := by decide +kernel
theorem dX8_fits_64 : decode cX8_fits 64 = .ok (.aload_n 0, 1) := by decide +kernel
theorem dX8_fits_65 : decode cX8_fits 65 = .ok (.getfield 44, 3) := by decide +kernel
theorem dX8_fits_68 : decode cX8_fits 68 = .ok (.iload_n 3, 1) := by decide +kernel
theorem dX8_fits_69 : decode cX8_fits 69 = .ok (.iaload, 1) := by decide +kernel
theorem dX8_fits_70 : decode cX8_fits 70 = .ok (.aload_n 0, 1) := by decide +kernel
theorem dX8_fits_71 : decode cX8_fits 71 = .ok (.getfield 44, 3) := by decide +kernel
theorem dX8_fits_74 : decode cX8_fits 74 = .ok (.iload_n 1, 1) := by decide +kernel
theorem dX8_fits_75 : decode cX8_fits 75 = .ok (.iaload, 1) := by decide +kernel
theorem dX8_fits_76 : decode cX8_fits 76 = .ok (.invokevirtual 171, 3) := by decide +kernel
theorem dX8_fits_79 : decode cX8_fits 79 = .ok (.ifCond .eq 7, 3) := by decide +kernel
theorem dX8_fits_82 : decode cX8_fits 82 = .ok (.iconst 1, 1) := by decide +kernel
theorem dX8_fits_83 : decode cX8_fits 83 = .ok (.goto 4, 3) := by decide +kernel
theorem dX8_fits_86 : decode cX8_fits 86 = .ok (.iconst 0, 1) := by decide +kernel
theorem dX8_fits_87 : decode cX8_fits 87 = .ok (.ireturn, 1) := by decide +kernel
theorem dX8_isLattice_0 : decode cX8_isLattice 0 = .ok (.iconst 0, 1) := by decide +kernel
theorem dX8_isLattice_1 : decode cX8_isLattice 1 = .ok (.istore_n 1, 1) := by decide +kernel
theorem dX8_isLattice_2 : decode cX8_isLattice 2 = .ok (.iconst 0, 1) := by decide +kernel
theorem dX8_isLattice_3 : decode cX8_isLattice 3 = .ok (.istore_n 2, 1) := by decide +kernel
theorem dX8_isLattice_4 : decode cX8_isLattice 4 = .ok (.iconst 0, 1) := by decide +kernel
theorem dX8_isLattice_5 : decode cX8_isLattice 5 = .ok (.istore_n 3, 1) := by decide +kernel
theorem dX8_isLattice_6 : decode cX8_isLattice 6 = .ok (.iconst 0, 1) := by decide +kernel
theorem dX8_isLattice_7 : decode cX8_isLattice 7 = .ok (.istore 4, 2) := by decide +kernel
theorem dX8_isLattice_9 : decode cX8_isLattice 9 = .ok (.iconst 1, 1) := by decide +kernel
theorem dX8_isLattice_10 : decode cX8_isLattice 10 = .ok (.istore 5, 2) := by decide +kernel
theorem dX8_isLattice_12 : decode cX8_isLattice 12 = .ok (.iconst 0, 1) := by decide +kernel
theorem dX8_isLattice_13 : decode cX8_isLattice 13 = .ok (.istore 6, 2) := by decide +kernel
theorem dX8_isLattice_15 : decode cX8_isLattice 15 = .ok (.iload 6, 2) := by decide +kernel
theorem dX8_isLattice_17 : decode cX8_isLattice 17 = .ok (.aload_n 0, 1) := by decide +kernel
theorem dX8_isLattice_18 : decode cX8_isLattice 18 = .ok (.getfield 127, 3) := by decide +kernel
theorem dX8_isLattice_21 : decode cX8_isLattice 21 = .ok (.if_icmp .ge 146, 3) := by decide +kernel
theorem dX8_isLattice_24 : decode cX8_isLattice 24 = .ok (.aload_n 0, 1) := by decide +kernel
theorem dX8_isLattice_25 : decode cX8_isLattice 25 = .ok (.getfield 124, 3) := by decide +kernel
theorem dX8_isLattice_28 : decode cX8_isLattice 28 = .ok (.iconst 1, 1) := by decide +kernel
theorem dX8_isLattice_29 : decode cX8_isLattice 29 = .ok (.isub, 1) := by decide +kernel
theorem dX8_isLattice_30 : decode cX8_isLattice 30 = .ok (.istore 7, 2) := by decide +kernel
theorem dX8_isLattice_32 : decode cX8_isLattice 32 = .ok (.iload 7, 2) := by decide +kernel
theorem dX8_isLattice_34 : decode cX8_isLattice 34 = .ok (.ifCond .lt 127, 3) := by decide +kernel
theorem dX8_isLattice_37 : decode cX8_isLattice 37 = .ok (.aload_n 0, 1) := by decide +kernel
theorem dX8_isLattice_38 : decode cX8_isLattice 38 = .ok (.getfield 19, 3) := by decide +kernel
theorem dX8_isLattice_41 : decode cX8_isLattice 41 = .ok (.iload 7, 2) := by decide +kernel
theorem dX8_isLattice_43 : decode cX8_isLattice 43 = .ok (.iaload, 1) := by decide +kernel
theorem dX8_isLattice_44 : decode cX8_isLattice 44 = .ok (.iload 6, 2) := by decide +kernel
theorem dX8_isLattice_46 : decode cX8_isLattice 46 = .ok (.if_icmp .ne 109, 3) := by decide +kernel
theorem dX8_isLattice_49 : decode cX8_isLattice 49 = .ok (.iload_n 1, 1) := by decide +kernel
theorem dX8_isLattice_50 : decode cX8_isLattice 50 = .ok (.aload_n 0, 1) := by decide +kernel
theorem dX8_isLattice_51 : decode cX8_isLattice 51 = .ok (.getfield 44, 3) := by decide +kernel
theorem dX8_isLattice_54 : decode cX8_isLattice 54 = .ok (.iload 7, 2) := by decide +kernel
theorem dX8_isLattice_56 : decode cX8_isLattice 56 = .ok (.iaload, 1) := by decide +kernel
theorem dX8_isLattice_57 : decode cX8_isLattice 57 = .ok (.iconst 1, 1) := by decide +kernel
theorem dX8_isLattice_58 : decode cX8_isLattice 58 = .ok (.if_icmp .ne 7, 3) := by decide +kernel
theorem dX8_isLattice_61 : decode cX8_isLattice 61 = .ok (.iconst 1, 1) := by decide +kernel
theorem dX8_isLattice_62 : decode cX8_isLattice 62 = .ok (.goto 4, 3) := by decide +kernel
theorem dX8_isLattice_65 : decode cX8_isLattice 65 = .ok (.iconst 0, 1) := by decide +kernel
theorem dX8_isLattice_66 : decode cX8_isLattice 66 = .ok (.iadd, 1) := by decide +kernel
theorem dX8_isLattice_67 : decode cX8_isLattice 67 = .ok (.istore_n 1, 1) := by decide +kernel
theorem dX8_isLattice_68 : decode cX8_isLattice 68 = .ok (.iload_n 2, 1) := by decide +kernel
theorem dX8_isLattice_69 : decode cX8_isLattice 69 = .ok (.aload_n 0, 1) := by decide +kernel
theorem dX8_isLattice_70 : decode cX8_isLattice 70 = .ok (.getfield 44, 3) := by decide +kernel
theorem dX8_isLattice_73 : decode cX8_isLattice 73 = .ok (.iload 7, 2) := by decide +kernel
theorem dX8_isLattice_75 : decode cX8_isLattice 75 = .ok (.iaload, 1) := by decide +kernel
theorem dX8_isLattice_76 : decode cX8_isLattice 76 = .ok (.iconst 2, 1) := by decide +kernel
theorem dX8_isLattice_77 : decode cX8_isLattice 77 = .ok (.if_icmp .ne 7, 3) := by decide +kernel
theorem dX8_isLattice_80 : decode cX8_isLattice 80 = .ok (.iconst 1, 1) := by decide +kernel
theorem dX8_isLattice_81 : decode cX8_isLattice 81 = .ok (.goto 4, 3) := by decide +kernel
theorem dX8_isLattice_84 : decode cX8_isLattice 84 = .ok (.iconst 0, 1) := by decide +kernel
theorem dX8_isLattice_85 : decode cX8_isLattice 85 = .ok (.iadd, 1) := by decide +kernel
theorem dX8_isLattice_86 : decode cX8_isLattice 86 = .ok (.istore_n 2, 1) := by decide +kernel
theorem dX8_isLattice_87 : decode cX8_isLattice 87 = .ok (.iload_n 3, 1) := by decide +kernel
theorem dX8_isLattice_88 : decode cX8_isLattice 88 = .ok (.aload_n 0, 1) := by decide +kernel
theorem dX8_isLattice_89 : decode cX8_isLattice 89 = .ok (.getfield 44, 3) := by decide +kernel
theorem dX8_isLattice_92 : decode cX8_isLattice 92 = .ok (.iload 7, 2) := by decide +kernel
theorem dX8_isLattice_94 : decode cX8_isLattice 94 = .ok (.iaload, 1) := by decide +kernel
theorem dX8_isLattice_95 : decode cX8_isLattice 95 = .ok (.iconst 3, 1) := by decide +kernel
theorem dX8_isLattice_96 : decode cX8_isLattice 96 = .ok (.if_icmp .ne 7, 3) := by decide +kernel
theorem dX8_isLattice_99 : decode cX8_isLattice 99 = .ok (.iconst 1, 1) := by decide +kernel
theorem dX8_isLattice_100 : decode cX8_isLattice 100 = .ok (.goto 4, 3) := by decide +kernel
theorem dX8_isLattice_103 : decode cX8_isLattice 103 = .ok (.iconst 0, 1) := by decide +kernel
theorem dX8_isLattice_104 : decode cX8_isLattice 104 = .ok (.iadd, 1) := by decide +kernel
theorem dX8_isLattice_105 : decode cX8_isLattice 105 = .ok (.istore_n 3, 1) := by decide +kernel
theorem dX8_isLattice_106 : decode cX8_isLattice 106 = .ok (.iload 4, 2) := by decide +kernel
theorem dX8_isLattice_108 : decode cX8_isLattice 108 = .ok (.aload_n 0, 1) := by decide +kernel
theorem dX8_isLattice_109 : decode cX8_isLattice 109 = .ok (.getfield 44, 3) := by decide +kernel
theorem dX8_isLattice_112 : decode cX8_isLattice 112 = .ok (.iload 7, 2) := by decide +kernel
theorem dX8_isLattice_114 : decode cX8_isLattice 114 = .ok (.iaload, 1) := by decide +kernel
theorem dX8_isLattice_115 : decode cX8_isLattice 115 = .ok (.iconst 4, 1) := by decide +kernel
theorem dX8_isLattice_116 : decode cX8_isLattice 116 = .ok (.if_icmp .ne 7, 3) := by decide +kernel
theorem dX8_isLattice_119 : decode cX8_isLattice 119 = .ok (.iconst 1, 1) := by decide +kernel
theorem dX8_isLattice_120 : decode cX8_isLattice 120 = .ok (.goto 4, 3) := by decide +kernel
theorem dX8_isLattice_123 : decode cX8_isLattice 123 = .ok (.iconst 0, 1) := by decide +kernel
theorem dX8_isLattice_124 : decode cX8_isLattice 124 = .ok (.iadd, 1) := by decide +kernel
theorem dX8_isLattice_125 : decode cX8_isLattice 125 = .ok (.istore 4, 2) := by decide +kernel
theorem dX8_isLattice_127 : decode cX8_isLattice 127 = .ok (.iload 5, 2) := by decide +kernel
theorem dX8_isLattice_129 : decode cX8_isLattice 129 = .ok (.ifCond .eq 23, 3) := by decide +kernel
theorem dX8_isLattice_132 : decode cX8_isLattice 132 = .ok (.iload_n 2, 1) := by decide +kernel
theorem dX8_isLattice_133 : decode cX8_isLattice 133 = .ok (.iload_n 1, 1) := by decide +kernel
theorem dX8_isLattice_134 : decode cX8_isLattice 134 = .ok (.if_icmp .gt 18, 3) := by decide +kernel
theorem dX8_isLattice_137 : decode cX8_isLattice 137 = .ok (.iload_n 3, 1) := by decide +kernel
theorem dX8_isLattice_138 : decode cX8_isLattice 138 = .ok (.iload_n 2, 1) := by decide +kernel
theorem dX8_isLattice_139 : decode cX8_isLattice 139 = .ok (.if_icmp .gt 13, 3) := by decide +kernel
theorem dX8_isLattice_142 : decode cX8_isLattice 142 = .ok (.iload 4, 2) := by decide +kernel
theorem dX8_isLattice_144 : decode cX8_isLattice 144 = .ok (.iload_n 3, 1) := by decide +kernel
theorem dX8_isLattice_145 : decode cX8_isLattice 145 = .ok (.if_icmp .gt 7, 3) := by decide +kernel
theorem dX8_isLattice_148 : decode cX8_isLattice 148 = .ok (.iconst 1, 1) := by decide +kernel
theorem dX8_isLattice_149 : decode cX8_isLattice 149 = .ok (.goto 4, 3) := by decide +kernel
theorem dX8_isLattice_152 : decode cX8_isLattice 152 = .ok (.iconst 0, 1) := by decide +kernel
theorem dX8_isLattice_153 : decode cX8_isLattice 153 = .ok (.istore 5, 2) := by decide +kernel
theorem dX8_isLattice_155 : decode cX8_isLattice 155 = .ok (.iinc 7 (-1), 3) := by decide +kernel
theorem dX8_isLattice_158 : decode cX8_isLattice 158 = .ok (.goto (-126), 3) := by decide +kernel
theorem dX8_isLattice_161 : decode cX8_isLattice 161 = .ok (.iinc 6 1, 3) := by decide +kernel
theorem dX8_isLattice_164 : decode cX8_isLattice 164 = .ok (.goto (-149), 3) := by decide +kernel
theorem dX8_isLattice_167 : decode cX8_isLattice 167 = .ok (.iload 5, 2) := by decide +kernel
theorem dX8_isLattice_169 : decode cX8_isLattice 169 = .ok (.ireturn, 1) := by decide +kernel
set_option maxRecDepth 20000 in
theorem ggX8_keeps_X8_isLattice : GoodIn wsX8_keeps wsX8_isLattice := goodIn_r _ [7, 8, 2, 9, 10, 28, 29, 30, 31, 32, 33, 34, 35, 36, 37, 38, 39, 40, 41, 42, 43, 44, 45, 46, 47, 48, 49, 50, 51, 52, 53, 54, 55, 56, 57, 58, 59, 60, 61, 62, 63, 64, 65, 66, 67, 68, 69, 70, 71, 72, 73, 74] rfl (by decide +kernel)
set_option maxRecDepth 20000 in
theorem gX8_keeps_X8_isLattice : GoodIn wsX8_keeps (wsV RX8 174 RX8 yX8_isLattice wsX8_isLattice) := goodIn_app (goodIn_r _ [3, 4, 5, 6] rfl (by decide +kernel)) ggX8_keeps_X8_isLattice
set_option maxRecDepth 20000 in
theorem ggX8_keeps_X8_fits : GoodIn wsX8_keeps wsX8_fits := goodIn_r _ [14, 9, 10, 15, 16, 17, 6, 18, 1, 19, 20, 21, 22, 23, 24, 25, 26, 27, 28, 29, 30, 31, 32, 33, 34, 35, 36, 37, 38, 39, 40, 41, 42, 43, 44, 45, 46, 47, 48, 49, 50, 51, 52, 53, 54, 55, 56, 57, 58, 59, 60, 61, 62, 63, 64, 65, 66, 67, 68, 69, 70, 71, 72, 73, 74] rfl (by decide +kernel)
set_option maxRecDepth 20000 in
theorem gX8_keeps_X8_fits : GoodIn wsX8_keeps (wsV RX8 177 RX8 yX8_fits wsX8_fits) := goodIn_app (goodIn_r _ [11, 12, 13, 6] rfl (by decide +kernel)) ggX8_keeps_X8_fits
theorem dX8_keeps_0 : decode cX8_keeps 0 = .ok (.aload_n 0, 1) := by decide +kernel
theorem dX8_keeps_1 : decode cX8_keeps 1 = .ok (.getfield 139, 3) := by decide +kernel
theorem dX8_keeps_4 : decode cX8_keeps 4 = .ok (.iconst 2, 1) := by decide +kernel
theorem dX8_keeps_5 : decode cX8_keeps 5 = .ok (.if_icmp .ne 10, 3) := by decide +kernel
theorem dX8_keeps_8 : decode cX8_keeps 8 = .ok (.aload_n 0, 1) := by decide +kernel
theorem dX8_keeps_9 : decode cX8_keeps 9 = .ok (.invokevirtual 174, 3) := by decide +kernel
theorem dX8_keeps_12 : decode cX8_keeps 12 = .ok (.ifCond .eq 7, 3) := by decide +kernel
theorem dX8_keeps_15 : decode cX8_keeps 15 = .ok (.iconst 1, 1) := by decide +kernel
theorem dX8_keeps_16 : decode cX8_keeps 16 = .ok (.goto 4, 3) := by decide +kernel
theorem dX8_keeps_19 : decode cX8_keeps 19 = .ok (.iconst 0, 1) := by decide +kernel
theorem dX8_keeps_20 : decode cX8_keeps 20 = .ok (.istore_n 1, 1) := by decide +kernel
theorem dX8_keeps_21 : decode cX8_keeps 21 = .ok (.iconst 0, 1) := by decide +kernel
theorem dX8_keeps_22 : decode cX8_keeps 22 = .ok (.istore_n 2, 1) := by decide +kernel
theorem dX8_keeps_23 : decode cX8_keeps 23 = .ok (.iload_n 2, 1) := by decide +kernel
theorem dX8_keeps_24 : decode cX8_keeps 24 = .ok (.aload_n 0, 1) := by decide +kernel
theorem dX8_keeps_25 : decode cX8_keeps 25 = .ok (.getfield 124, 3) := by decide +kernel
theorem dX8_keeps_28 : decode cX8_keeps 28 = .ok (.if_icmp .ge 27, 3) := by decide +kernel
theorem dX8_keeps_31 : decode cX8_keeps 31 = .ok (.iload_n 1, 1) := by decide +kernel
theorem dX8_keeps_32 : decode cX8_keeps 32 = .ok (.ifCond .eq 15, 3) := by decide +kernel
theorem dX8_keeps_35 : decode cX8_keeps 35 = .ok (.aload_n 0, 1) := by decide +kernel
theorem dX8_keeps_36 : decode cX8_keeps 36 = .ok (.iload_n 2, 1) := by decide +kernel
theorem dX8_keeps_37 : decode cX8_keeps 37 = .ok (.invokevirtual 177, 3) := by decide +kernel
theorem dX8_keeps_40 : decode cX8_keeps 40 = .ok (.ifCond .eq 7, 3) := by decide +kernel
theorem dX8_keeps_43 : decode cX8_keeps 43 = .ok (.iconst 1, 1) := by decide +kernel
theorem dX8_keeps_44 : decode cX8_keeps 44 = .ok (.goto 4, 3) := by decide +kernel
theorem dX8_keeps_47 : decode cX8_keeps 47 = .ok (.iconst 0, 1) := by decide +kernel
theorem dX8_keeps_48 : decode cX8_keeps 48 = .ok (.istore_n 1, 1) := by decide +kernel
theorem dX8_keeps_49 : decode cX8_keeps 49 = .ok (.iinc 2 1, 3) := by decide +kernel
theorem dX8_keeps_52 : decode cX8_keeps 52 = .ok (.goto (-29), 3) := by decide +kernel
theorem dX8_keeps_55 : decode cX8_keeps 55 = .ok (.iload_n 1, 1) := by decide +kernel
theorem dX8_keeps_56 : decode cX8_keeps 56 = .ok (.ireturn, 1) := by decide +kernel
theorem dX8_told_0 : decode cX8_told 0 = .ok (.aload_n 0, 1) := by decide +kernel
theorem dX8_told_1 : decode cX8_told 1 = .ok (.getfield 16, 3) := by decide +kernel
theorem dX8_told_4 : decode cX8_told 4 = .ok (.iconst 0, 1) := by decide +kernel
theorem dX8_told_5 : decode cX8_told 5 = .ok (.iaload, 1) := by decide +kernel
theorem dX8_told_6 : decode cX8_told 6 = .ok (.aload_n 0, 1) := by decide +kernel
theorem dX8_told_7 : decode cX8_told 7 = .ok (.getfield 16, 3) := by decide +kernel
theorem dX8_told_10 : decode cX8_told 10 = .ok (.iconst 1, 1) := by decide +kernel
theorem dX8_told_11 : decode cX8_told 11 = .ok (.iaload, 1) := by decide +kernel
theorem dX8_told_12 : decode cX8_told 12 = .ok (.iadd, 1) := by decide +kernel
theorem dX8_told_13 : decode cX8_told 13 = .ok (.aload_n 0, 1) := by decide +kernel
theorem dX8_told_14 : decode cX8_told 14 = .ok (.getfield 16, 3) := by decide +kernel
theorem dX8_told_17 : decode cX8_told 17 = .ok (.iconst 2, 1) := by decide +kernel
theorem dX8_told_18 : decode cX8_told 18 = .ok (.iaload, 1) := by decide +kernel
theorem dX8_told_19 : decode cX8_told 19 = .ok (.iadd, 1) := by decide +kernel
theorem dX8_told_20 : decode cX8_told 20 = .ok (.aload_n 0, 1) := by decide +kernel
theorem dX8_told_21 : decode cX8_told 21 = .ok (.getfield 16, 3) := by decide +kernel
theorem dX8_told_24 : decode cX8_told 24 = .ok (.iconst 3, 1) := by decide +kernel
theorem dX8_told_25 : decode cX8_told 25 = .ok (.iaload, 1) := by decide +kernel
theorem dX8_told_26 : decode cX8_told 26 = .ok (.iadd, 1) := by decide +kernel
theorem dX8_told_27 : decode cX8_told 27 = .ok (.ireturn, 1) := by decide +kernel
theorem dX8_begin_0 : decode cX8_begin 0 = .ok (.iconst 0, 1) := by decide +kernel
theorem dX8_begin_1 : decode cX8_begin 1 = .ok (.istore_n 1, 1) := by decide +kernel
theorem dX8_begin_2 : decode cX8_begin 2 = .ok (.iload_n 1, 1) := by decide +kernel
theorem dX8_begin_3 : decode cX8_begin 3 = .ok (.iconst 4, 1) := by decide +kernel
theorem dX8_begin_4 : decode cX8_begin 4 = .ok (.if_icmp .ge 21, 3) := by decide +kernel
theorem dX8_begin_7 : decode cX8_begin 7 = .ok (.aload_n 0, 1) := by decide +kernel
theorem dX8_begin_8 : decode cX8_begin 8 = .ok (.getfield 47, 3) := by decide +kernel
theorem dX8_begin_11 : decode cX8_begin 11 = .ok (.iload_n 1, 1) := by decide +kernel
theorem dX8_begin_12 : decode cX8_begin 12 = .ok (.aload_n 0, 1) := by decide +kernel
theorem dX8_begin_13 : decode cX8_begin 13 = .ok (.getfield 16, 3) := by decide +kernel
theorem dX8_begin_16 : decode cX8_begin 16 = .ok (.iload_n 1, 1) := by decide +kernel
theorem dX8_begin_17 : decode cX8_begin 17 = .ok (.iaload, 1) := by decide +kernel
theorem dX8_begin_18 : decode cX8_begin 18 = .ok (.iastore, 1) := by decide +kernel
theorem dX8_begin_19 : decode cX8_begin 19 = .ok (.iinc 1 1, 3) := by decide +kernel
theorem dX8_begin_22 : decode cX8_begin 22 = .ok (.goto (-20), 3) := by decide +kernel
theorem dX8_begin_25 : decode cX8_begin 25 = .ok (.iconst 0, 1) := by decide +kernel
theorem dX8_begin_26 : decode cX8_begin 26 = .ok (.istore_n 1, 1) := by decide +kernel
theorem dX8_begin_27 : decode cX8_begin 27 = .ok (.iload_n 1, 1) := by decide +kernel
theorem dX8_begin_28 : decode cX8_begin 28 = .ok (.bipush 9, 2) := by decide +kernel
theorem dX8_begin_30 : decode cX8_begin 30 = .ok (.if_icmp .ge 16, 3) := by decide +kernel
theorem dX8_begin_33 : decode cX8_begin 33 = .ok (.aload_n 0, 1) := by decide +kernel
theorem dX8_begin_34 : decode cX8_begin 34 = .ok (.getfield 44, 3) := by decide +kernel
theorem dX8_begin_37 : decode cX8_begin 37 = .ok (.iload_n 1, 1) := by decide +kernel
theorem dX8_begin_38 : decode cX8_begin 38 = .ok (.iconst 0, 1) := by decide +kernel
theorem dX8_begin_39 : decode cX8_begin 39 = .ok (.iastore, 1) := by decide +kernel
theorem dX8_begin_40 : decode cX8_begin 40 = .ok (.iinc 1 1, 3) := by decide +kernel
theorem dX8_begin_43 : decode cX8_begin 43 = .ok (.goto (-16), 3) := by decide +kernel
theorem dX8_begin_46 : decode cX8_begin 46 = .ok (.aload_n 0, 1) := by decide +kernel
theorem dX8_begin_47 : decode cX8_begin 47 = .ok (.iconst 0, 1) := by decide +kernel
theorem dX8_begin_48 : decode cX8_begin 48 = .ok (.putfield 181, 3) := by decide +kernel
theorem dX8_begin_51 : decode cX8_begin 51 = .ok (.return_, 1) := by decide +kernel
theorem dX8_giveBack_0 : decode cX8_giveBack 0 = .ok (.aload_n 0, 1) := by decide +kernel
theorem dX8_giveBack_1 : decode cX8_giveBack 1 = .ok (.getfield 44, 3) := by decide +kernel
theorem dX8_giveBack_4 : decode cX8_giveBack 4 = .ok (.aload_n 0, 1) := by decide +kernel
theorem dX8_giveBack_5 : decode cX8_giveBack 5 = .ok (.getfield 181, 3) := by decide +kernel
theorem dX8_giveBack_8 : decode cX8_giveBack 8 = .ok (.iaload, 1) := by decide +kernel
theorem dX8_giveBack_9 : decode cX8_giveBack 9 = .ok (.ifCond .le 23, 3) := by decide +kernel
theorem dX8_giveBack_12 : decode cX8_giveBack 12 = .ok (.aload_n 0, 1) := by decide +kernel
theorem dX8_giveBack_13 : decode cX8_giveBack 13 = .ok (.getfield 47, 3) := by decide +kernel
theorem dX8_giveBack_16 : decode cX8_giveBack 16 = .ok (.aload_n 0, 1) := by decide +kernel
theorem dX8_giveBack_17 : decode cX8_giveBack 17 = .ok (.getfield 44, 3) := by decide +kernel
theorem dX8_giveBack_20 : decode cX8_giveBack 20 = .ok (.aload_n 0, 1) := by decide +kernel
theorem dX8_giveBack_21 : decode cX8_giveBack 21 = .ok (.getfield 181, 3) := by decide +kernel
theorem dX8_giveBack_24 : decode cX8_giveBack 24 = .ok (.iaload, 1) := by decide +kernel
theorem dX8_giveBack_25 : decode cX8_giveBack 25 = .ok (.iconst 1, 1) := by decide +kernel
theorem dX8_giveBack_26 : decode cX8_giveBack 26 = .ok (.isub, 1) := by decide +kernel
theorem dX8_giveBack_27 : decode cX8_giveBack 27 = .ok (.dup2, 1) := by decide +kernel
theorem dX8_giveBack_28 : decode cX8_giveBack 28 = .ok (.iaload, 1) := by decide +kernel
theorem dX8_giveBack_29 : decode cX8_giveBack 29 = .ok (.iconst 1, 1) := by decide +kernel
theorem dX8_giveBack_30 : decode cX8_giveBack 30 = .ok (.iadd, 1) := by decide +kernel
theorem dX8_giveBack_31 : decode cX8_giveBack 31 = .ok (.iastore, 1) := by decide +kernel
theorem dX8_giveBack_32 : decode cX8_giveBack 32 = .ok (.return_, 1) := by decide +kernel
set_option maxRecDepth 20000 in
theorem ggX8_raise_X8_giveBack : GoodIn wsX8_raise wsX8_giveBack := goodIn_r _ [8, 1, 2, 3, 28, 29, 30, 31, 32, 33, 34, 35, 36, 37, 38, 39, 40, 41, 42, 43, 44, 45, 46, 47, 48, 49, 50, 51, 52, 53, 54, 55, 56, 57, 58, 59, 60, 61, 62, 63, 64, 65, 66, 67, 68, 69, 70, 71, 72, 73, 74] rfl (by decide +kernel)
set_option maxRecDepth 20000 in
theorem gX8_raise_X8_giveBack : GoodIn wsX8_raise (wsV RX8 184 RX8 yX8_giveBack wsX8_giveBack) := goodIn_app (goodIn_r _ [4, 5, 6, 7] rfl (by decide +kernel)) ggX8_raise_X8_giveBack
set_option maxRecDepth 20000 in
theorem ggX8_raise_X8_fits : GoodIn wsX8_raise wsX8_fits := goodIn_r _ [12, 13, 1, 14, 15, 16, 7, 17, 18, 19, 20, 21, 22, 23, 24, 25, 26, 27, 28, 29, 30, 31, 32, 33, 34, 35, 36, 37, 38, 39, 40, 41, 42, 43, 44, 45, 46, 47, 48, 49, 50, 51, 52, 53, 54, 55, 56, 57, 58, 59, 60, 61, 62, 63, 64, 65, 66, 67, 68, 69, 70, 71, 72, 73, 74] rfl (by decide +kernel)
set_option maxRecDepth 20000 in
theorem gX8_raise_X8_fits : GoodIn wsX8_raise (wsV RX8 177 RX8 yX8_fits wsX8_fits) := goodIn_app (goodIn_r _ [9, 10, 11, 7] rfl (by decide +kernel)) ggX8_raise_X8_fits
theorem dX8_raise_0 : decode cX8_raise 0 = .ok (.aload_n 0, 1) := by decide +kernel
theorem dX8_raise_1 : decode cX8_raise 1 = .ok (.invokevirtual 184, 3) := by decide +kernel
theorem dX8_raise_4 : decode cX8_raise 4 = .ok (.aload_n 0, 1) := by decide +kernel
theorem dX8_raise_5 : decode cX8_raise 5 = .ok (.getfield 44, 3) := by decide +kernel
theorem dX8_raise_8 : decode cX8_raise 8 = .ok (.aload_n 0, 1) := by decide +kernel
theorem dX8_raise_9 : decode cX8_raise 9 = .ok (.getfield 181, 3) := by decide +kernel
theorem dX8_raise_12 : decode cX8_raise 12 = .ok (.dup2, 1) := by decide +kernel
theorem dX8_raise_13 : decode cX8_raise 13 = .ok (.iaload, 1) := by decide +kernel
theorem dX8_raise_14 : decode cX8_raise 14 = .ok (.iconst 1, 1) := by decide +kernel
theorem dX8_raise_15 : decode cX8_raise 15 = .ok (.iadd, 1) := by decide +kernel
theorem dX8_raise_16 : decode cX8_raise 16 = .ok (.iastore, 1) := by decide +kernel
theorem dX8_raise_17 : decode cX8_raise 17 = .ok (.aload_n 0, 1) := by decide +kernel
theorem dX8_raise_18 : decode cX8_raise 18 = .ok (.getfield 44, 3) := by decide +kernel
theorem dX8_raise_21 : decode cX8_raise 21 = .ok (.aload_n 0, 1) := by decide +kernel
theorem dX8_raise_22 : decode cX8_raise 22 = .ok (.getfield 181, 3) := by decide +kernel
theorem dX8_raise_25 : decode cX8_raise 25 = .ok (.iaload, 1) := by decide +kernel
theorem dX8_raise_26 : decode cX8_raise 26 = .ok (.iconst 4, 1) := by decide +kernel
theorem dX8_raise_27 : decode cX8_raise 27 = .ok (.if_icmp .gt 49, 3) := by decide +kernel
theorem dX8_raise_30 : decode cX8_raise 30 = .ok (.aload_n 0, 1) := by decide +kernel
theorem dX8_raise_31 : decode cX8_raise 31 = .ok (.getfield 47, 3) := by decide +kernel
theorem dX8_raise_34 : decode cX8_raise 34 = .ok (.aload_n 0, 1) := by decide +kernel
theorem dX8_raise_35 : decode cX8_raise 35 = .ok (.getfield 44, 3) := by decide +kernel
theorem dX8_raise_38 : decode cX8_raise 38 = .ok (.aload_n 0, 1) := by decide +kernel
theorem dX8_raise_39 : decode cX8_raise 39 = .ok (.getfield 181, 3) := by decide +kernel
theorem dX8_raise_42 : decode cX8_raise 42 = .ok (.iaload, 1) := by decide +kernel
theorem dX8_raise_43 : decode cX8_raise 43 = .ok (.iconst 1, 1) := by decide +kernel
theorem dX8_raise_44 : decode cX8_raise 44 = .ok (.isub, 1) := by decide +kernel
theorem dX8_raise_45 : decode cX8_raise 45 = .ok (.iaload, 1) := by decide +kernel
theorem dX8_raise_46 : decode cX8_raise 46 = .ok (.ifCond .eq 14, 3) := by decide +kernel
theorem dX8_raise_49 : decode cX8_raise 49 = .ok (.aload_n 0, 1) := by decide +kernel
theorem dX8_raise_50 : decode cX8_raise 50 = .ok (.aload_n 0, 1) := by decide +kernel
theorem dX8_raise_51 : decode cX8_raise 51 = .ok (.getfield 181, 3) := by decide +kernel
theorem dX8_raise_54 : decode cX8_raise 54 = .ok (.invokevirtual 177, 3) := by decide +kernel
theorem dX8_raise_57 : decode cX8_raise 57 = .ok (.ifCond .ne 19, 3) := by decide +kernel
theorem dX8_raise_60 : decode cX8_raise 60 = .ok (.aload_n 0, 1) := by decide +kernel
theorem dX8_raise_61 : decode cX8_raise 61 = .ok (.getfield 44, 3) := by decide +kernel
theorem dX8_raise_64 : decode cX8_raise 64 = .ok (.aload_n 0, 1) := by decide +kernel
theorem dX8_raise_65 : decode cX8_raise 65 = .ok (.getfield 181, 3) := by decide +kernel
theorem dX8_raise_68 : decode cX8_raise 68 = .ok (.dup2, 1) := by decide +kernel
theorem dX8_raise_69 : decode cX8_raise 69 = .ok (.iaload, 1) := by decide +kernel
theorem dX8_raise_70 : decode cX8_raise 70 = .ok (.iconst 1, 1) := by decide +kernel
theorem dX8_raise_71 : decode cX8_raise 71 = .ok (.iadd, 1) := by decide +kernel
theorem dX8_raise_72 : decode cX8_raise 72 = .ok (.iastore, 1) := by decide +kernel
theorem dX8_raise_73 : decode cX8_raise 73 = .ok (.goto (-56), 3) := by decide +kernel
theorem dX8_raise_76 : decode cX8_raise 76 = .ok (.aload_n 0, 1) := by decide +kernel
theorem dX8_raise_77 : decode cX8_raise 77 = .ok (.getfield 44, 3) := by decide +kernel
theorem dX8_raise_80 : decode cX8_raise 80 = .ok (.aload_n 0, 1) := by decide +kernel
theorem dX8_raise_81 : decode cX8_raise 81 = .ok (.getfield 181, 3) := by decide +kernel
theorem dX8_raise_84 : decode cX8_raise 84 = .ok (.iaload, 1) := by decide +kernel
theorem dX8_raise_85 : decode cX8_raise 85 = .ok (.iconst 4, 1) := by decide +kernel
theorem dX8_raise_86 : decode cX8_raise 86 = .ok (.if_icmp .le 15, 3) := by decide +kernel
theorem dX8_raise_89 : decode cX8_raise 89 = .ok (.aload_n 0, 1) := by decide +kernel
theorem dX8_raise_90 : decode cX8_raise 90 = .ok (.getfield 44, 3) := by decide +kernel
theorem dX8_raise_93 : decode cX8_raise 93 = .ok (.aload_n 0, 1) := by decide +kernel
theorem dX8_raise_94 : decode cX8_raise 94 = .ok (.getfield 181, 3) := by decide +kernel
theorem dX8_raise_97 : decode cX8_raise 97 = .ok (.iconst 0, 1) := by decide +kernel
theorem dX8_raise_98 : decode cX8_raise 98 = .ok (.iastore, 1) := by decide +kernel
theorem dX8_raise_99 : decode cX8_raise 99 = .ok (.iconst 0, 1) := by decide +kernel
theorem dX8_raise_100 : decode cX8_raise 100 = .ok (.ireturn, 1) := by decide +kernel
theorem dX8_raise_101 : decode cX8_raise 101 = .ok (.aload_n 0, 1) := by decide +kernel
theorem dX8_raise_102 : decode cX8_raise 102 = .ok (.getfield 47, 3) := by decide +kernel
theorem dX8_raise_105 : decode cX8_raise 105 = .ok (.aload_n 0, 1) := by decide +kernel
theorem dX8_raise_106 : decode cX8_raise 106 = .ok (.getfield 44, 3) := by decide +kernel
theorem dX8_raise_109 : decode cX8_raise 109 = .ok (.aload_n 0, 1) := by decide +kernel
theorem dX8_raise_110 : decode cX8_raise 110 = .ok (.getfield 181, 3) := by decide +kernel
theorem dX8_raise_113 : decode cX8_raise 113 = .ok (.iaload, 1) := by decide +kernel
theorem dX8_raise_114 : decode cX8_raise 114 = .ok (.iconst 1, 1) := by decide +kernel
theorem dX8_raise_115 : decode cX8_raise 115 = .ok (.isub, 1) := by decide +kernel
theorem dX8_raise_116 : decode cX8_raise 116 = .ok (.dup2, 1) := by decide +kernel
theorem dX8_raise_117 : decode cX8_raise 117 = .ok (.iaload, 1) := by decide +kernel
theorem dX8_raise_118 : decode cX8_raise 118 = .ok (.iconst 1, 1) := by decide +kernel
theorem dX8_raise_119 : decode cX8_raise 119 = .ok (.isub, 1) := by decide +kernel
theorem dX8_raise_120 : decode cX8_raise 120 = .ok (.iastore, 1) := by decide +kernel
theorem dX8_raise_121 : decode cX8_raise 121 = .ok (.iconst 1, 1) := by decide +kernel
theorem dX8_raise_122 : decode cX8_raise 122 = .ok (.ireturn, 1) := by decide +kernel
set_option maxRecDepth 20000 in
theorem ggX8_next_X8_raise : GoodIn wsX8_next wsX8_raise := goodIn_r _ [8, 9, 1, 10, 11, 12, 13, 7, 14, 15, 16, 17, 18, 19, 20, 21, 22, 23, 3, 24, 25, 26, 27, 28, 29, 30, 31, 32, 38, 39, 40, 41, 42, 43, 44, 45, 46, 47, 48, 49, 50, 51, 52, 53, 54, 55, 56, 57, 58, 59, 60, 61, 62, 63, 64, 65, 66, 67, 68, 69, 70, 71, 72, 73, 74, 75, 76, 77, 78, 79, 80, 81, 82, 83, 84] rfl (by decide +kernel)
set_option maxRecDepth 20000 in
theorem gX8_next_X8_raise : GoodIn wsX8_next (wsV RX8 187 RX8 yX8_raise wsX8_raise) := goodIn_app (goodIn_r _ [4, 5, 6, 7] rfl (by decide +kernel)) ggX8_next_X8_raise
set_option maxRecDepth 20000 in
theorem ggX8_next_X8_isLattice : GoodIn wsX8_next wsX8_isLattice := goodIn_r _ [36, 37, 2, 19, 9, 38, 39, 40, 41, 42, 43, 44, 45, 46, 47, 48, 49, 50, 51, 52, 53, 54, 55, 56, 57, 58, 59, 60, 61, 62, 63, 64, 65, 66, 67, 68, 69, 70, 71, 72, 73, 74, 75, 76, 77, 78, 79, 80, 81, 82, 83, 84] rfl (by decide +kernel)
set_option maxRecDepth 20000 in
theorem gX8_next_X8_isLattice : GoodIn wsX8_next (wsV RX8 174 RX8 yX8_isLattice wsX8_isLattice) := goodIn_app (goodIn_r _ [33, 34, 35, 7] rfl (by decide +kernel)) ggX8_next_X8_isLattice
theorem dX8_next_0 : decode cX8_next 0 = .ok (.aload_n 0, 1) := by decide +kernel
theorem dX8_next_1 : decode cX8_next 1 = .ok (.getfield 181, 3) := by decide +kernel
theorem dX8_next_4 : decode cX8_next 4 = .ok (.ifCond .lt 66, 3) := by decide +kernel
theorem dX8_next_7 : decode cX8_next 7 = .ok (.aload_n 0, 1) := by decide +kernel
theorem dX8_next_8 : decode cX8_next 8 = .ok (.invokevirtual 187, 3) := by decide +kernel
theorem dX8_next_11 : decode cX8_next 11 = .ok (.ifCond .ne 16, 3) := by decide +kernel
theorem dX8_next_14 : decode cX8_next 14 = .ok (.aload_n 0, 1) := by decide +kernel
theorem dX8_next_15 : decode cX8_next 15 = .ok (.dup, 1) := by decide +kernel
theorem dX8_next_16 : decode cX8_next 16 = .ok (.getfield 181, 3) := by decide +kernel
theorem dX8_next_19 : decode cX8_next 19 = .ok (.iconst 1, 1) := by decide +kernel
theorem dX8_next_20 : decode cX8_next 20 = .ok (.isub, 1) := by decide +kernel
theorem dX8_next_21 : decode cX8_next 21 = .ok (.putfield 181, 3) := by decide +kernel
theorem dX8_next_24 : decode cX8_next 24 = .ok (.goto (-24), 3) := by decide +kernel
theorem dX8_next_27 : decode cX8_next 27 = .ok (.aload_n 0, 1) := by decide +kernel
theorem dX8_next_28 : decode cX8_next 28 = .ok (.getfield 181, 3) := by decide +kernel
theorem dX8_next_31 : decode cX8_next 31 = .ok (.aload_n 0, 1) := by decide +kernel
theorem dX8_next_32 : decode cX8_next 32 = .ok (.getfield 124, 3) := by decide +kernel
theorem dX8_next_35 : decode cX8_next 35 = .ok (.iconst 1, 1) := by decide +kernel
theorem dX8_next_36 : decode cX8_next 36 = .ok (.isub, 1) := by decide +kernel
theorem dX8_next_37 : decode cX8_next 37 = .ok (.if_icmp .ge 16, 3) := by decide +kernel
theorem dX8_next_40 : decode cX8_next 40 = .ok (.aload_n 0, 1) := by decide +kernel
theorem dX8_next_41 : decode cX8_next 41 = .ok (.dup, 1) := by decide +kernel
theorem dX8_next_42 : decode cX8_next 42 = .ok (.getfield 181, 3) := by decide +kernel
theorem dX8_next_45 : decode cX8_next 45 = .ok (.iconst 1, 1) := by decide +kernel
theorem dX8_next_46 : decode cX8_next 46 = .ok (.iadd, 1) := by decide +kernel
theorem dX8_next_47 : decode cX8_next 47 = .ok (.putfield 181, 3) := by decide +kernel
theorem dX8_next_50 : decode cX8_next 50 = .ok (.goto (-50), 3) := by decide +kernel
theorem dX8_next_53 : decode cX8_next 53 = .ok (.aload_n 0, 1) := by decide +kernel
theorem dX8_next_54 : decode cX8_next 54 = .ok (.getfield 139, 3) := by decide +kernel
theorem dX8_next_57 : decode cX8_next 57 = .ok (.iconst 2, 1) := by decide +kernel
theorem dX8_next_58 : decode cX8_next 58 = .ok (.if_icmp .ne 10, 3) := by decide +kernel
theorem dX8_next_61 : decode cX8_next 61 = .ok (.aload_n 0, 1) := by decide +kernel
theorem dX8_next_62 : decode cX8_next 62 = .ok (.invokevirtual 174, 3) := by decide +kernel
theorem dX8_next_65 : decode cX8_next 65 = .ok (.ifCond .eq (-65), 3) := by decide +kernel
theorem dX8_next_68 : decode cX8_next 68 = .ok (.iconst 1, 1) := by decide +kernel
theorem dX8_next_69 : decode cX8_next 69 = .ok (.ireturn, 1) := by decide +kernel
theorem dX8_next_70 : decode cX8_next 70 = .ok (.iconst 0, 1) := by decide +kernel
theorem dX8_next_71 : decode cX8_next 71 = .ok (.ireturn, 1) := by decide +kernel
set_option maxRecDepth 20000 in
theorem ggX8_ways_X8_told : GoodIn wsX8_ways wsX8_told := goodIn_r _ [8, 9, 53, 54, 55, 56, 57, 58, 59, 60, 61, 62, 63, 64, 65, 66, 67, 68, 69, 70, 71, 72, 73, 74, 75, 76, 77, 78, 79, 80, 81, 82, 83, 84, 85, 86, 87, 88, 89, 90, 91, 92, 93, 94, 95, 96, 97, 98, 99] rfl (by decide +kernel)
set_option maxRecDepth 20000 in
theorem gX8_ways_X8_told : GoodIn wsX8_ways (wsV RX8 190 RX8 yX8_told wsX8_told) := goodIn_app (goodIn_r _ [4, 5, 6, 7] rfl (by decide +kernel)) ggX8_ways_X8_told
set_option maxRecDepth 20000 in
theorem ggX8_ways_X8_begin : GoodIn wsX8_ways wsX8_begin := goodIn_r _ [13, 14, 9, 15, 16, 53, 54, 55, 56, 57, 58, 59, 60, 61, 62, 63, 64, 65, 66, 67, 68, 69, 70, 71, 72, 73, 74, 75, 76, 77, 78, 79, 80, 81, 82, 83, 84, 85, 86, 87, 88, 89, 90, 91, 92, 93, 94, 95, 96, 97, 98, 99] rfl (by decide +kernel)
set_option maxRecDepth 20000 in
theorem gX8_ways_X8_begin : GoodIn wsX8_ways (wsV RX8 196 RX8 yX8_begin wsX8_begin) := goodIn_app (goodIn_r _ [10, 11, 12, 7] rfl (by decide +kernel)) ggX8_ways_X8_begin
set_option maxRecDepth 20000 in
theorem ggX8_ways_X8_next : GoodIn wsX8_ways wsX8_next := goodIn_r _ [20, 16, 2, 21, 22, 23, 24, 7, 25, 15, 14, 26, 27, 28, 29, 30, 31, 32, 33, 34, 35, 36, 37, 38, 39, 40, 41, 42, 43, 44, 45, 46, 47, 48, 49, 50, 51, 52, 53, 54, 55, 56, 57, 58, 59, 60, 61, 62, 63, 64, 65, 66, 67, 68, 69, 70, 71, 72, 73, 74, 75, 76, 77, 78, 79, 80, 81, 82, 83, 84, 85, 86, 87, 88, 89, 90, 91, 92, 93, 94, 95, 96, 97, 98, 99] rfl (by decide +kernel)
set_option maxRecDepth 20000 in
theorem gX8_ways_X8_next : GoodIn wsX8_ways (wsV RX8 199 RX8 yX8_next wsX8_next) := goodIn_app (goodIn_r _ [17, 18, 19, 7] rfl (by decide +kernel)) ggX8_ways_X8_next
theorem dX8_ways_0 : decode cX8_ways 0 = .ok (.aload_n 0, 1) := by decide +kernel
theorem dX8_ways_1 : decode cX8_ways 1 = .ok (.getfield 130, 3) := by decide +kernel
theorem dX8_ways_4 : decode cX8_ways 4 = .ok (.ifCond .ne 73, 3) := by decide +kernel
theorem dX8_ways_7 : decode cX8_ways 7 = .ok (.aload_n 0, 1) := by decide +kernel
theorem dX8_ways_8 : decode cX8_ways 8 = .ok (.iconst 1, 1) := by decide +kernel
theorem dX8_ways_9 : decode cX8_ways 9 = .ok (.putfield 130, 3) := by decide +kernel
theorem dX8_ways_12 : decode cX8_ways 12 = .ok (.aload_n 0, 1) := by decide +kernel
theorem dX8_ways_13 : decode cX8_ways 13 = .ok (.aload_n 0, 1) := by decide +kernel
theorem dX8_ways_14 : decode cX8_ways 14 = .ok (.getfield 124, 3) := by decide +kernel
theorem dX8_ways_17 : decode cX8_ways 17 = .ok (.ifCond .ne 14, 3) := by decide +kernel
theorem dX8_ways_20 : decode cX8_ways 20 = .ok (.aload_n 0, 1) := by decide +kernel
theorem dX8_ways_21 : decode cX8_ways 21 = .ok (.invokevirtual 190, 3) := by decide +kernel
theorem dX8_ways_24 : decode cX8_ways 24 = .ok (.ifCond .ne 7, 3) := by decide +kernel
theorem dX8_ways_27 : decode cX8_ways 27 = .ok (.iconst 1, 1) := by decide +kernel
theorem dX8_ways_28 : decode cX8_ways 28 = .ok (.goto 4, 3) := by decide +kernel
theorem dX8_ways_31 : decode cX8_ways 31 = .ok (.iconst 0, 1) := by decide +kernel
theorem dX8_ways_32 : decode cX8_ways 32 = .ok (.putfield 193, 3) := by decide +kernel
theorem dX8_ways_35 : decode cX8_ways 35 = .ok (.aload_n 0, 1) := by decide +kernel
theorem dX8_ways_36 : decode cX8_ways 36 = .ok (.invokevirtual 196, 3) := by decide +kernel
theorem dX8_ways_39 : decode cX8_ways 39 = .ok (.aload_n 0, 1) := by decide +kernel
theorem dX8_ways_40 : decode cX8_ways 40 = .ok (.getfield 124, 3) := by decide +kernel
theorem dX8_ways_43 : decode cX8_ways 43 = .ok (.ifCond .le 34, 3) := by decide +kernel
theorem dX8_ways_46 : decode cX8_ways 46 = .ok (.aload_n 0, 1) := by decide +kernel
theorem dX8_ways_47 : decode cX8_ways 47 = .ok (.invokevirtual 190, 3) := by decide +kernel
theorem dX8_ways_50 : decode cX8_ways 50 = .ok (.aload_n 0, 1) := by decide +kernel
theorem dX8_ways_51 : decode cX8_ways 51 = .ok (.getfield 124, 3) := by decide +kernel
theorem dX8_ways_54 : decode cX8_ways 54 = .ok (.if_icmp .ne 23, 3) := by decide +kernel
theorem dX8_ways_57 : decode cX8_ways 57 = .ok (.aload_n 0, 1) := by decide +kernel
theorem dX8_ways_58 : decode cX8_ways 58 = .ok (.invokevirtual 199, 3) := by decide +kernel
theorem dX8_ways_61 : decode cX8_ways 61 = .ok (.ifCond .eq 16, 3) := by decide +kernel
theorem dX8_ways_64 : decode cX8_ways 64 = .ok (.aload_n 0, 1) := by decide +kernel
theorem dX8_ways_65 : decode cX8_ways 65 = .ok (.dup, 1) := by decide +kernel
theorem dX8_ways_66 : decode cX8_ways 66 = .ok (.getfield 193, 3) := by decide +kernel
theorem dX8_ways_69 : decode cX8_ways 69 = .ok (.iconst 1, 1) := by decide +kernel
theorem dX8_ways_70 : decode cX8_ways 70 = .ok (.iadd, 1) := by decide +kernel
theorem dX8_ways_71 : decode cX8_ways 71 = .ok (.putfield 193, 3) := by decide +kernel
theorem dX8_ways_74 : decode cX8_ways 74 = .ok (.goto (-35), 3) := by decide +kernel
theorem dX8_ways_77 : decode cX8_ways 77 = .ok (.aload_n 0, 1) := by decide +kernel
theorem dX8_ways_78 : decode cX8_ways 78 = .ok (.getfield 193, 3) := by decide +kernel
theorem dX8_ways_81 : decode cX8_ways 81 = .ok (.ireturn, 1) := by decide +kernel
set_option maxRecDepth 20000 in
theorem ggX8_find_X8_isBoard : GoodIn wsX8_find wsX8_isBoard := goodIn_r _ [6, 7, 64, 65, 66, 67, 68, 69, 70, 71, 72, 73, 74, 75, 76, 77, 78, 79, 80, 81, 82, 83, 84, 85, 86, 87, 88, 89, 90, 91, 92, 93, 94, 95, 96, 97, 98, 99, 100, 101, 102, 103, 104, 105, 106, 107, 108, 109, 110] rfl (by decide +kernel)
set_option maxRecDepth 20000 in
theorem gX8_find_X8_isBoard : GoodIn wsX8_find (wsV RX8 151 RX8 yX8_isBoard wsX8_isBoard) := goodIn_app (goodIn_r _ [2, 3, 4, 5] rfl (by decide +kernel)) ggX8_find_X8_isBoard
set_option maxRecDepth 20000 in
theorem ggX8_find_X8_ways : GoodIn wsX8_find wsX8_ways := goodIn_r _ [11, 12, 1, 13, 14, 15, 16, 5, 17, 18, 19, 20, 21, 22, 23, 24, 25, 26, 27, 28, 29, 30, 31, 32, 33, 34, 35, 36, 37, 38, 39, 40, 41, 42, 43, 44, 45, 46, 47, 48, 49, 50, 51, 52, 53, 54, 55, 56, 57, 58, 59, 60, 7, 64, 65, 66, 67, 68, 69, 70, 71, 72, 73, 74, 75, 76, 77, 78, 79, 80, 81, 82, 83, 84, 85, 86, 87, 88, 89, 90, 91, 92, 93, 94, 95, 96, 97, 98, 99, 100, 101, 102, 103, 104, 105, 106, 107, 108, 109, 110] rfl (by decide +kernel)
set_option maxRecDepth 20000 in
theorem gX8_find_X8_ways : GoodIn wsX8_find (wsV RX8 202 RX8 yX8_ways wsX8_ways) := goodIn_app (goodIn_r _ [8, 9, 10, 5] rfl (by decide +kernel)) ggX8_find_X8_ways
set_option maxRecDepth 20000 in
theorem ggX8_find_X8_within : GoodIn wsX8_find wsX8_within := goodIn_r _ [63] rfl (by decide +kernel)
set_option maxRecDepth 20000 in
theorem gX8_find_X8_within : GoodIn wsX8_find (va_wsS RX8 86 yX8_within wsX8_within) := goodIn_app (goodIn_r _ [61, 62, 5] rfl (by decide +kernel)) ggX8_find_X8_within
set_option maxRecDepth 20000 in
theorem ggX8_find_X8_begin : GoodIn wsX8_find wsX8_begin := goodIn_r _ [22, 23, 18, 24, 25, 64, 65, 66, 67, 68, 69, 70, 71, 72, 73, 74, 75, 76, 77, 78, 79, 80, 81, 82, 83, 84, 85, 86, 87, 88, 89, 90, 91, 92, 93, 94, 95, 96, 97, 98, 99, 100, 101, 102, 103, 104, 105, 106, 107, 108, 109, 110] rfl (by decide +kernel)
set_option maxRecDepth 20000 in
theorem gX8_find_X8_begin : GoodIn wsX8_find (wsV RX8 196 RX8 yX8_begin wsX8_begin) := goodIn_app (goodIn_r _ [19, 20, 21, 5] rfl (by decide +kernel)) ggX8_find_X8_begin
set_option maxRecDepth 20000 in
theorem ggX8_find_X8_next : GoodIn wsX8_find wsX8_next := goodIn_r _ [29, 25, 1, 30, 31, 32, 33, 5, 34, 24, 23, 35, 36, 37, 38, 39, 40, 41, 42, 43, 44, 45, 46, 47, 48, 49, 50, 51, 52, 53, 54, 55, 56, 57, 58, 59, 60, 7, 64, 65, 66, 67, 68, 69, 70, 71, 72, 73, 74, 75, 76, 77, 78, 79, 80, 81, 82, 83, 84, 85, 86, 87, 88, 89, 90, 91, 92, 93, 94, 95, 96, 97, 98, 99, 100, 101, 102, 103, 104, 105, 106, 107, 108, 109, 110] rfl (by decide +kernel)
set_option maxRecDepth 20000 in
theorem gX8_find_X8_next : GoodIn wsX8_find (wsV RX8 199 RX8 yX8_next wsX8_next) := goodIn_app (goodIn_r _ [26, 27, 28, 5] rfl (by decide +kernel)) ggX8_find_X8_next
theorem dX8_find_0 : decode cX8_find 0 = .ok (.aload_n 0, 1) := by decide +kernel
theorem dX8_find_1 : decode cX8_find 1 = .ok (.invokevirtual 151, 3) := by decide +kernel
theorem dX8_find_4 : decode cX8_find 4 = .ok (.ifCond .eq 17, 3) := by decide +kernel
theorem dX8_find_7 : decode cX8_find 7 = .ok (.iload_n 1, 1) := by decide +kernel
theorem dX8_find_8 : decode cX8_find 8 = .ok (.iconst 0, 1) := by decide +kernel
theorem dX8_find_9 : decode cX8_find 9 = .ok (.aload_n 0, 1) := by decide +kernel
theorem dX8_find_10 : decode cX8_find 10 = .ok (.invokevirtual 202, 3) := by decide +kernel
theorem dX8_find_13 : decode cX8_find 13 = .ok (.iconst 1, 1) := by decide +kernel
theorem dX8_find_14 : decode cX8_find 14 = .ok (.isub, 1) := by decide +kernel
theorem dX8_find_15 : decode cX8_find 15 = .ok (.invokestatic 86, 3) := by decide +kernel
theorem dX8_find_18 : decode cX8_find 18 = .ok (.ifCond .ne 5, 3) := by decide +kernel
theorem dX8_find_21 : decode cX8_find 21 = .ok (.iconst 0, 1) := by decide +kernel
theorem dX8_find_22 : decode cX8_find 22 = .ok (.ireturn, 1) := by decide +kernel
theorem dX8_find_23 : decode cX8_find 23 = .ok (.aload_n 0, 1) := by decide +kernel
theorem dX8_find_24 : decode cX8_find 24 = .ok (.invokevirtual 196, 3) := by decide +kernel
theorem dX8_find_27 : decode cX8_find 27 = .ok (.iconst 0, 1) := by decide +kernel
theorem dX8_find_28 : decode cX8_find 28 = .ok (.istore_n 2, 1) := by decide +kernel
theorem dX8_find_29 : decode cX8_find 29 = .ok (.iload_n 2, 1) := by decide +kernel
theorem dX8_find_30 : decode cX8_find 30 = .ok (.iload_n 1, 1) := by decide +kernel
theorem dX8_find_31 : decode cX8_find 31 = .ok (.if_icmp .gt 21, 3) := by decide +kernel
theorem dX8_find_34 : decode cX8_find 34 = .ok (.aload_n 0, 1) := by decide +kernel
theorem dX8_find_35 : decode cX8_find 35 = .ok (.getfield 124, 3) := by decide +kernel
theorem dX8_find_38 : decode cX8_find 38 = .ok (.ifCond .le 14, 3) := by decide +kernel
theorem dX8_find_41 : decode cX8_find 41 = .ok (.aload_n 0, 1) := by decide +kernel
theorem dX8_find_42 : decode cX8_find 42 = .ok (.invokevirtual 199, 3) := by decide +kernel
theorem dX8_find_45 : decode cX8_find 45 = .ok (.pop, 1) := by decide +kernel
theorem dX8_find_46 : decode cX8_find 46 = .ok (.iinc 2 1, 3) := by decide +kernel
theorem dX8_find_49 : decode cX8_find 49 = .ok (.goto (-20), 3) := by decide +kernel
theorem dX8_find_52 : decode cX8_find 52 = .ok (.iconst 1, 1) := by decide +kernel
theorem dX8_find_53 : decode cX8_find 53 = .ok (.ireturn, 1) := by decide +kernel
theorem dX8_isGiven_0 : decode cX8_isGiven 0 = .ok (.iconst 1, 1) := by decide +kernel
theorem dX8_isGiven_1 : decode cX8_isGiven 1 = .ok (.istore_n 1, 1) := by decide +kernel
theorem dX8_isGiven_2 : decode cX8_isGiven 2 = .ok (.iconst 0, 1) := by decide +kernel
theorem dX8_isGiven_3 : decode cX8_isGiven 3 = .ok (.istore_n 2, 1) := by decide +kernel
theorem dX8_isGiven_4 : decode cX8_isGiven 4 = .ok (.iload_n 2, 1) := by decide +kernel
theorem dX8_isGiven_5 : decode cX8_isGiven 5 = .ok (.aload_n 0, 1) := by decide +kernel
theorem dX8_isGiven_6 : decode cX8_isGiven 6 = .ok (.getfield 124, 3) := by decide +kernel
theorem dX8_isGiven_9 : decode cX8_isGiven 9 = .ok (.if_icmp .ge 34, 3) := by decide +kernel
theorem dX8_isGiven_12 : decode cX8_isGiven 12 = .ok (.iload_n 1, 1) := by decide +kernel
theorem dX8_isGiven_13 : decode cX8_isGiven 13 = .ok (.ifCond .eq 22, 3) := by decide +kernel
theorem dX8_isGiven_16 : decode cX8_isGiven 16 = .ok (.aload_n 0, 1) := by decide +kernel
theorem dX8_isGiven_17 : decode cX8_isGiven 17 = .ok (.getfield 44, 3) := by decide +kernel
theorem dX8_isGiven_20 : decode cX8_isGiven 20 = .ok (.iload_n 2, 1) := by decide +kernel
theorem dX8_isGiven_21 : decode cX8_isGiven 21 = .ok (.iaload, 1) := by decide +kernel
theorem dX8_isGiven_22 : decode cX8_isGiven 22 = .ok (.aload_n 0, 1) := by decide +kernel
theorem dX8_isGiven_23 : decode cX8_isGiven 23 = .ok (.getfield 50, 3) := by decide +kernel
theorem dX8_isGiven_26 : decode cX8_isGiven 26 = .ok (.iload_n 2, 1) := by decide +kernel
theorem dX8_isGiven_27 : decode cX8_isGiven 27 = .ok (.iaload, 1) := by decide +kernel
theorem dX8_isGiven_28 : decode cX8_isGiven 28 = .ok (.if_icmp .ne 7, 3) := by decide +kernel
theorem dX8_isGiven_31 : decode cX8_isGiven 31 = .ok (.iconst 1, 1) := by decide +kernel
theorem dX8_isGiven_32 : decode cX8_isGiven 32 = .ok (.goto 4, 3) := by decide +kernel
theorem dX8_isGiven_35 : decode cX8_isGiven 35 = .ok (.iconst 0, 1) := by decide +kernel
theorem dX8_isGiven_36 : decode cX8_isGiven 36 = .ok (.istore_n 1, 1) := by decide +kernel
theorem dX8_isGiven_37 : decode cX8_isGiven 37 = .ok (.iinc 2 1, 3) := by decide +kernel
theorem dX8_isGiven_40 : decode cX8_isGiven 40 = .ok (.goto (-36), 3) := by decide +kernel
theorem dX8_isGiven_43 : decode cX8_isGiven 43 = .ok (.iload_n 1, 1) := by decide +kernel
theorem dX8_isGiven_44 : decode cX8_isGiven 44 = .ok (.ireturn, 1) := by decide +kernel
set_option maxRecDepth 20000 in
theorem ggX8_numberOf_X8_ways : GoodIn wsX8_numberOf wsX8_ways := goodIn_r _ [6, 7, 1, 8, 9, 10, 11, 5, 12, 13, 14, 15, 16, 17, 18, 19, 20, 21, 22, 23, 24, 25, 26, 27, 28, 29, 30, 31, 32, 33, 34, 35, 36, 37, 38, 39, 40, 41, 42, 43, 44, 45, 46, 47, 48, 49, 50, 51, 52, 53, 54, 55, 56, 62, 63, 64, 65, 66, 67, 68, 69, 70, 71, 72, 73, 74, 75, 76, 77, 78, 79, 80, 81, 82, 83, 84, 85, 86, 87, 88, 89, 90, 91, 92, 93, 94, 95, 96, 97, 98, 99, 100, 101, 102, 103, 104, 105, 106, 107, 108] rfl (by decide +kernel)
set_option maxRecDepth 20000 in
theorem gX8_numberOf_X8_ways : GoodIn wsX8_numberOf (wsV RX8 202 RX8 yX8_ways wsX8_ways) := goodIn_app (goodIn_r _ [2, 3, 4, 5] rfl (by decide +kernel)) ggX8_numberOf_X8_ways
set_option maxRecDepth 20000 in
theorem ggX8_numberOf_X8_begin : GoodIn wsX8_numberOf wsX8_begin := goodIn_r _ [17, 18, 13, 19, 20, 62, 63, 64, 65, 66, 67, 68, 69, 70, 71, 72, 73, 74, 75, 76, 77, 78, 79, 80, 81, 82, 83, 84, 85, 86, 87, 88, 89, 90, 91, 92, 93, 94, 95, 96, 97, 98, 99, 100, 101, 102, 103, 104, 105, 106, 107, 108] rfl (by decide +kernel)
set_option maxRecDepth 20000 in
theorem gX8_numberOf_X8_begin : GoodIn wsX8_numberOf (wsV RX8 196 RX8 yX8_begin wsX8_begin) := goodIn_app (goodIn_r _ [14, 15, 16, 5] rfl (by decide +kernel)) ggX8_numberOf_X8_begin
set_option maxRecDepth 20000 in
theorem ggX8_numberOf_X8_next : GoodIn wsX8_numberOf wsX8_next := goodIn_r _ [24, 20, 1, 25, 26, 27, 28, 5, 29, 19, 18, 30, 31, 32, 33, 34, 35, 36, 37, 38, 39, 40, 41, 42, 43, 44, 45, 46, 47, 48, 49, 50, 51, 52, 53, 54, 55, 56, 62, 63, 64, 65, 66, 67, 68, 69, 70, 71, 72, 73, 74, 75, 76, 77, 78, 79, 80, 81, 82, 83, 84, 85, 86, 87, 88, 89, 90, 91, 92, 93, 94, 95, 96, 97, 98, 99, 100, 101, 102, 103, 104, 105, 106, 107, 108] rfl (by decide +kernel)
set_option maxRecDepth 20000 in
theorem gX8_numberOf_X8_next : GoodIn wsX8_numberOf (wsV RX8 199 RX8 yX8_next wsX8_next) := goodIn_app (goodIn_r _ [21, 22, 23, 5] rfl (by decide +kernel)) ggX8_numberOf_X8_next
set_option maxRecDepth 20000 in
theorem ggX8_numberOf_X8_isGiven : GoodIn wsX8_numberOf wsX8_isGiven := goodIn_r _ [60, 1, 19, 61, 62, 63, 64, 65, 66, 67, 68, 69, 70, 71, 72, 73, 74, 75, 76, 77, 78, 79, 80, 81, 82, 83, 84, 85, 86, 87, 88, 89, 90, 91, 92, 93, 94, 95, 96, 97, 98, 99, 100, 101, 102, 103, 104, 105, 106, 107, 108] rfl (by decide +kernel)
set_option maxRecDepth 20000 in
theorem gX8_numberOf_X8_isGiven : GoodIn wsX8_numberOf (wsV RX8 205 RX8 yX8_isGiven wsX8_isGiven) := goodIn_app (goodIn_r _ [57, 58, 59, 5] rfl (by decide +kernel)) ggX8_numberOf_X8_isGiven
theorem dX8_numberOf_0 : decode cX8_numberOf 0 = .ok (.aload_n 0, 1) := by decide +kernel
theorem dX8_numberOf_1 : decode cX8_numberOf 1 = .ok (.invokevirtual 202, 3) := by decide +kernel
theorem dX8_numberOf_4 : decode cX8_numberOf 4 = .ok (.istore_n 1, 1) := by decide +kernel
theorem dX8_numberOf_5 : decode cX8_numberOf 5 = .ok (.aload_n 0, 1) := by decide +kernel
theorem dX8_numberOf_6 : decode cX8_numberOf 6 = .ok (.invokevirtual 196, 3) := by decide +kernel
theorem dX8_numberOf_9 : decode cX8_numberOf 9 = .ok (.iconst 0, 1) := by decide +kernel
theorem dX8_numberOf_10 : decode cX8_numberOf 10 = .ok (.istore_n 2, 1) := by decide +kernel
theorem dX8_numberOf_11 : decode cX8_numberOf 11 = .ok (.iload_n 2, 1) := by decide +kernel
theorem dX8_numberOf_12 : decode cX8_numberOf 12 = .ok (.iload_n 1, 1) := by decide +kernel
theorem dX8_numberOf_13 : decode cX8_numberOf 13 = .ok (.if_icmp .ge 30, 3) := by decide +kernel
theorem dX8_numberOf_16 : decode cX8_numberOf 16 = .ok (.aload_n 0, 1) := by decide +kernel
theorem dX8_numberOf_17 : decode cX8_numberOf 17 = .ok (.getfield 124, 3) := by decide +kernel
theorem dX8_numberOf_20 : decode cX8_numberOf 20 = .ok (.ifCond .le 8, 3) := by decide +kernel
theorem dX8_numberOf_23 : decode cX8_numberOf 23 = .ok (.aload_n 0, 1) := by decide +kernel
theorem dX8_numberOf_24 : decode cX8_numberOf 24 = .ok (.invokevirtual 199, 3) := by decide +kernel
theorem dX8_numberOf_27 : decode cX8_numberOf 27 = .ok (.pop, 1) := by decide +kernel
theorem dX8_numberOf_28 : decode cX8_numberOf 28 = .ok (.aload_n 0, 1) := by decide +kernel
theorem dX8_numberOf_29 : decode cX8_numberOf 29 = .ok (.invokevirtual 205, 3) := by decide +kernel
theorem dX8_numberOf_32 : decode cX8_numberOf 32 = .ok (.ifCond .eq 5, 3) := by decide +kernel
theorem dX8_numberOf_35 : decode cX8_numberOf 35 = .ok (.iload_n 2, 1) := by decide +kernel
theorem dX8_numberOf_36 : decode cX8_numberOf 36 = .ok (.ireturn, 1) := by decide +kernel
theorem dX8_numberOf_37 : decode cX8_numberOf 37 = .ok (.iinc 2 1, 3) := by decide +kernel
theorem dX8_numberOf_40 : decode cX8_numberOf 40 = .ok (.goto (-29), 3) := by decide +kernel
theorem dX8_numberOf_43 : decode cX8_numberOf 43 = .ok (.iconst (-1), 1) := by decide +kernel
theorem dX8_numberOf_44 : decode cX8_numberOf 44 = .ok (.ireturn, 1) := by decide +kernel
set_option maxRecDepth 20000 in
theorem ggX8_filling_X8_isBoard : GoodIn wsX8_filling wsX8_isBoard := goodIn_r _ [9, 10, 75, 76, 77, 78, 79, 80, 81, 82, 83, 84, 85, 86, 87, 88, 89, 90, 91, 92, 93, 94, 95, 96, 97, 98, 99, 100, 101, 102, 103, 104, 105, 106, 107, 108, 109, 110, 111, 112, 113, 114, 115, 116, 117, 118, 119, 120, 121] rfl (by decide +kernel)
set_option maxRecDepth 20000 in
theorem gX8_filling_X8_isBoard : GoodIn wsX8_filling (wsV RX8 151 RX8 yX8_isBoard wsX8_isBoard) := goodIn_app (goodIn_r _ [5, 6, 7, 8] rfl (by decide +kernel)) ggX8_filling_X8_isBoard
set_option maxRecDepth 20000 in
theorem ggX8_filling_X8_within : GoodIn wsX8_filling wsX8_within := goodIn_r _ [13] rfl (by decide +kernel)
set_option maxRecDepth 20000 in
theorem gX8_filling_X8_within : GoodIn wsX8_filling (va_wsS RX8 86 yX8_within wsX8_within) := goodIn_app (goodIn_r _ [11, 12, 8] rfl (by decide +kernel)) ggX8_filling_X8_within
set_option maxRecDepth 20000 in
theorem ggX8_filling_X8_numberOf : GoodIn wsX8_filling wsX8_numberOf := goodIn_r _ [17, 2, 18, 19, 20, 8, 21, 22, 23, 24, 25, 26, 27, 28, 29, 30, 31, 32, 33, 34, 35, 36, 37, 38, 39, 40, 41, 42, 43, 44, 45, 46, 47, 48, 49, 50, 51, 52, 53, 54, 55, 56, 57, 58, 59, 60, 61, 62, 63, 64, 65, 66, 67, 68, 69, 70, 10, 71, 72, 73, 74, 3, 75, 76, 77, 78, 79, 80, 81, 82, 83, 84, 85, 86, 87, 88, 89, 90, 91, 92, 93, 94, 95, 96, 97, 98, 99, 100, 101, 102, 103, 104, 105, 106, 107, 108, 109, 110, 111, 112, 113, 114, 115, 116, 117, 118, 119, 120, 121] rfl (by decide +kernel)
set_option maxRecDepth 20000 in
theorem gX8_filling_X8_numberOf : GoodIn wsX8_filling (wsV RX8 208 RX8 yX8_numberOf wsX8_numberOf) := goodIn_app (goodIn_r _ [14, 15, 16, 8] rfl (by decide +kernel)) ggX8_filling_X8_numberOf
theorem dX8_filling_0 : decode cX8_filling 0 = .ok (.aload_n 0, 1) := by decide +kernel
theorem dX8_filling_1 : decode cX8_filling 1 = .ok (.invokevirtual 151, 3) := by decide +kernel
theorem dX8_filling_4 : decode cX8_filling 4 = .ok (.ifCond .eq 18, 3) := by decide +kernel
theorem dX8_filling_7 : decode cX8_filling 7 = .ok (.aload_n 0, 1) := by decide +kernel
theorem dX8_filling_8 : decode cX8_filling 8 = .ok (.getfield 90, 3) := by decide +kernel
theorem dX8_filling_11 : decode cX8_filling 11 = .ok (.aload_n 0, 1) := by decide +kernel
theorem dX8_filling_12 : decode cX8_filling 12 = .ok (.getfield 124, 3) := by decide +kernel
theorem dX8_filling_15 : decode cX8_filling 15 = .ok (.if_icmp .ne 7, 3) := by decide +kernel
theorem dX8_filling_18 : decode cX8_filling 18 = .ok (.iconst 1, 1) := by decide +kernel
theorem dX8_filling_19 : decode cX8_filling 19 = .ok (.goto 4, 3) := by decide +kernel
theorem dX8_filling_22 : decode cX8_filling 22 = .ok (.iconst 0, 1) := by decide +kernel
theorem dX8_filling_23 : decode cX8_filling 23 = .ok (.istore_n 1, 1) := by decide +kernel
theorem dX8_filling_24 : decode cX8_filling 24 = .ok (.iconst 0, 1) := by decide +kernel
theorem dX8_filling_25 : decode cX8_filling 25 = .ok (.istore_n 2, 1) := by decide +kernel
theorem dX8_filling_26 : decode cX8_filling 26 = .ok (.iload_n 2, 1) := by decide +kernel
theorem dX8_filling_27 : decode cX8_filling 27 = .ok (.aload_n 0, 1) := by decide +kernel
theorem dX8_filling_28 : decode cX8_filling 28 = .ok (.getfield 124, 3) := by decide +kernel
theorem dX8_filling_31 : decode cX8_filling 31 = .ok (.if_icmp .ge 40, 3) := by decide +kernel
theorem dX8_filling_34 : decode cX8_filling 34 = .ok (.iload_n 1, 1) := by decide +kernel
theorem dX8_filling_35 : decode cX8_filling 35 = .ok (.ifCond .eq 36, 3) := by decide +kernel
theorem dX8_filling_38 : decode cX8_filling 38 = .ok (.aload_n 0, 1) := by decide +kernel
theorem dX8_filling_39 : decode cX8_filling 39 = .ok (.getfield 50, 3) := by decide +kernel
theorem dX8_filling_42 : decode cX8_filling 42 = .ok (.iload_n 2, 1) := by decide +kernel
theorem dX8_filling_43 : decode cX8_filling 43 = .ok (.aload_n 0, 1) := by decide +kernel
theorem dX8_filling_44 : decode cX8_filling 44 = .ok (.getfield 31, 3) := by decide +kernel
theorem dX8_filling_47 : decode cX8_filling 47 = .ok (.iload_n 2, 1) := by decide +kernel
theorem dX8_filling_48 : decode cX8_filling 48 = .ok (.baload, 1) := by decide +kernel
theorem dX8_filling_49 : decode cX8_filling 49 = .ok (.bipush 48, 2) := by decide +kernel
theorem dX8_filling_51 : decode cX8_filling 51 = .ok (.isub, 1) := by decide +kernel
theorem dX8_filling_52 : decode cX8_filling 52 = .ok (.iastore, 1) := by decide +kernel
theorem dX8_filling_53 : decode cX8_filling 53 = .ok (.aload_n 0, 1) := by decide +kernel
theorem dX8_filling_54 : decode cX8_filling 54 = .ok (.getfield 50, 3) := by decide +kernel
theorem dX8_filling_57 : decode cX8_filling 57 = .ok (.iload_n 2, 1) := by decide +kernel
theorem dX8_filling_58 : decode cX8_filling 58 = .ok (.iaload, 1) := by decide +kernel
theorem dX8_filling_59 : decode cX8_filling 59 = .ok (.iconst 1, 1) := by decide +kernel
theorem dX8_filling_60 : decode cX8_filling 60 = .ok (.iconst 4, 1) := by decide +kernel
theorem dX8_filling_61 : decode cX8_filling 61 = .ok (.invokestatic 86, 3) := by decide +kernel
theorem dX8_filling_64 : decode cX8_filling 64 = .ok (.istore_n 1, 1) := by decide +kernel
theorem dX8_filling_65 : decode cX8_filling 65 = .ok (.iinc 2 1, 3) := by decide +kernel
theorem dX8_filling_68 : decode cX8_filling 68 = .ok (.goto (-42), 3) := by decide +kernel
theorem dX8_filling_71 : decode cX8_filling 71 = .ok (.iload_n 1, 1) := by decide +kernel
theorem dX8_filling_72 : decode cX8_filling 72 = .ok (.ifCond .ne 6, 3) := by decide +kernel
theorem dX8_filling_75 : decode cX8_filling 75 = .ok (.bipush (-103), 2) := by decide +kernel
theorem dX8_filling_77 : decode cX8_filling 77 = .ok (.ireturn, 1) := by decide +kernel
theorem dX8_filling_78 : decode cX8_filling 78 = .ok (.aload_n 0, 1) := by decide +kernel
theorem dX8_filling_79 : decode cX8_filling 79 = .ok (.iconst 0, 1) := by decide +kernel
theorem dX8_filling_80 : decode cX8_filling 80 = .ok (.putfield 90, 3) := by decide +kernel
theorem dX8_filling_83 : decode cX8_filling 83 = .ok (.aload_n 0, 1) := by decide +kernel
theorem dX8_filling_84 : decode cX8_filling 84 = .ok (.invokevirtual 208, 3) := by decide +kernel
theorem dX8_filling_87 : decode cX8_filling 87 = .ok (.ireturn, 1) := by decide +kernel
set_option maxRecDepth 20000 in
theorem ggX8_aboutNow_X8_told : GoodIn wsX8_aboutNow wsX8_told := goodIn_r _ [8, 9, 57, 58, 59, 60, 61, 62, 63, 64, 65, 66, 67, 68, 69, 70, 71, 72, 73, 74, 75, 76, 77, 78, 79, 80, 81, 82, 83, 84, 85, 86, 87, 88, 89, 90, 91, 92, 93, 94, 95, 96, 97, 98, 99, 100, 101, 102, 103] rfl (by decide +kernel)
set_option maxRecDepth 20000 in
theorem gX8_aboutNow_X8_told : GoodIn wsX8_aboutNow (wsV RX8 190 RX8 yX8_told wsX8_told) := goodIn_app (goodIn_r _ [4, 5, 6, 7] rfl (by decide +kernel)) ggX8_aboutNow_X8_told
set_option maxRecDepth 20000 in
theorem ggX8_aboutNow_X8_ways : GoodIn wsX8_aboutNow wsX8_ways := goodIn_r _ [13, 14, 2, 15, 4, 5, 6, 7, 8, 9, 16, 17, 18, 19, 20, 21, 22, 23, 24, 25, 26, 1, 27, 28, 29, 30, 31, 32, 33, 34, 35, 36, 37, 38, 39, 40, 41, 42, 43, 44, 45, 46, 47, 48, 49, 50, 51, 52, 53, 54, 55, 56, 3, 57, 58, 59, 60, 61, 62, 63, 64, 65, 66, 67, 68, 69, 70, 71, 72, 73, 74, 75, 76, 77, 78, 79, 80, 81, 82, 83, 84, 85, 86, 87, 88, 89, 90, 91, 92, 93, 94, 95, 96, 97, 98, 99, 100, 101, 102, 103] rfl (by decide +kernel)
set_option maxRecDepth 20000 in
theorem gX8_aboutNow_X8_ways : GoodIn wsX8_aboutNow (wsV RX8 202 RX8 yX8_ways wsX8_ways) := goodIn_app (goodIn_r _ [10, 11, 12, 7] rfl (by decide +kernel)) ggX8_aboutNow_X8_ways
theorem dX8_aboutNow_0 : decode cX8_aboutNow 0 = .ok (.iload_n 1, 1) := by decide +kernel
theorem dX8_aboutNow_1 : decode cX8_aboutNow 1 = .ok (.ifCond .ne 10, 3) := by decide +kernel
theorem dX8_aboutNow_4 : decode cX8_aboutNow 4 = .ok (.aload_n 0, 1) := by decide +kernel
theorem dX8_aboutNow_5 : decode cX8_aboutNow 5 = .ok (.getfield 139, 3) := by decide +kernel
theorem dX8_aboutNow_8 : decode cX8_aboutNow 8 = .ok (.goto 43, 3) := by decide +kernel
theorem dX8_aboutNow_11 : decode cX8_aboutNow 11 = .ok (.iload_n 1, 1) := by decide +kernel
theorem dX8_aboutNow_12 : decode cX8_aboutNow 12 = .ok (.iconst 1, 1) := by decide +kernel
theorem dX8_aboutNow_13 : decode cX8_aboutNow 13 = .ok (.if_icmp .ne 10, 3) := by decide +kernel
theorem dX8_aboutNow_16 : decode cX8_aboutNow 16 = .ok (.aload_n 0, 1) := by decide +kernel
theorem dX8_aboutNow_17 : decode cX8_aboutNow 17 = .ok (.getfield 124, 3) := by decide +kernel
theorem dX8_aboutNow_20 : decode cX8_aboutNow 20 = .ok (.goto 31, 3) := by decide +kernel
theorem dX8_aboutNow_23 : decode cX8_aboutNow 23 = .ok (.iload_n 1, 1) := by decide +kernel
theorem dX8_aboutNow_24 : decode cX8_aboutNow 24 = .ok (.iconst 2, 1) := by decide +kernel
theorem dX8_aboutNow_25 : decode cX8_aboutNow 25 = .ok (.if_icmp .ne 10, 3) := by decide +kernel
theorem dX8_aboutNow_28 : decode cX8_aboutNow 28 = .ok (.aload_n 0, 1) := by decide +kernel
theorem dX8_aboutNow_29 : decode cX8_aboutNow 29 = .ok (.getfield 127, 3) := by decide +kernel
theorem dX8_aboutNow_32 : decode cX8_aboutNow 32 = .ok (.goto 19, 3) := by decide +kernel
theorem dX8_aboutNow_35 : decode cX8_aboutNow 35 = .ok (.iload_n 1, 1) := by decide +kernel
theorem dX8_aboutNow_36 : decode cX8_aboutNow 36 = .ok (.iconst 3, 1) := by decide +kernel
theorem dX8_aboutNow_37 : decode cX8_aboutNow 37 = .ok (.if_icmp .ne 10, 3) := by decide +kernel
theorem dX8_aboutNow_40 : decode cX8_aboutNow 40 = .ok (.aload_n 0, 1) := by decide +kernel
theorem dX8_aboutNow_41 : decode cX8_aboutNow 41 = .ok (.invokevirtual 190, 3) := by decide +kernel
theorem dX8_aboutNow_44 : decode cX8_aboutNow 44 = .ok (.goto 7, 3) := by decide +kernel
theorem dX8_aboutNow_47 : decode cX8_aboutNow 47 = .ok (.aload_n 0, 1) := by decide +kernel
theorem dX8_aboutNow_48 : decode cX8_aboutNow 48 = .ok (.invokevirtual 202, 3) := by decide +kernel
theorem dX8_aboutNow_51 : decode cX8_aboutNow 51 = .ok (.ireturn, 1) := by decide +kernel
set_option maxRecDepth 20000 in
theorem ggX8_about_X8_within : GoodIn wsX8_about wsX8_within := goodIn_r _ [4] rfl (by decide +kernel)
set_option maxRecDepth 20000 in
theorem gX8_about_X8_within : GoodIn wsX8_about (va_wsS RX8 86 yX8_within wsX8_within) := goodIn_app (goodIn_r _ [1, 2, 3] rfl (by decide +kernel)) ggX8_about_X8_within
set_option maxRecDepth 20000 in
theorem ggX8_about_X8_isBoard : GoodIn wsX8_about wsX8_isBoard := goodIn_r _ [8, 9, 68, 69, 70, 71, 72, 73, 74, 75, 76, 77, 78, 79, 80, 81, 82, 83, 84, 85, 86, 87, 88, 89, 90, 91, 92, 93, 94, 95, 96, 97, 98, 99, 100, 101, 102, 103, 104, 105, 106, 107, 108, 109, 110, 111, 112, 113, 114] rfl (by decide +kernel)
set_option maxRecDepth 20000 in
theorem gX8_about_X8_isBoard : GoodIn wsX8_about (wsV RX8 151 RX8 yX8_isBoard wsX8_isBoard) := goodIn_app (goodIn_r _ [5, 6, 7, 3] rfl (by decide +kernel)) ggX8_about_X8_isBoard
set_option maxRecDepth 20000 in
theorem ggX8_about_X8_aboutNow : GoodIn wsX8_about wsX8_aboutNow := goodIn_r _ [13, 14, 15, 9, 16, 17, 18, 3, 19, 20, 21, 22, 23, 24, 25, 26, 27, 28, 29, 30, 31, 32, 33, 34, 35, 36, 37, 38, 39, 40, 41, 42, 43, 44, 45, 46, 47, 48, 49, 50, 51, 52, 53, 54, 55, 56, 57, 58, 59, 60, 61, 62, 63, 64, 65, 66, 67, 68, 69, 70, 71, 72, 73, 74, 75, 76, 77, 78, 79, 80, 81, 82, 83, 84, 85, 86, 87, 88, 89, 90, 91, 92, 93, 94, 95, 96, 97, 98, 99, 100, 101, 102, 103, 104, 105, 106, 107, 108, 109, 110, 111, 112, 113, 114] rfl (by decide +kernel)
set_option maxRecDepth 20000 in
theorem gX8_about_X8_aboutNow : GoodIn wsX8_about (wsV RX8 211 RX8 yX8_aboutNow wsX8_aboutNow) := goodIn_app (goodIn_r _ [10, 11, 12, 3] rfl (by decide +kernel)) ggX8_about_X8_aboutNow
theorem dX8_about_0 : decode cX8_about 0 = .ok (.iload_n 1, 1) := by decide +kernel
theorem dX8_about_1 : decode cX8_about 1 = .ok (.iconst 0, 1) := by decide +kernel
theorem dX8_about_2 : decode cX8_about 2 = .ok (.iconst 4, 1) := by decide +kernel
theorem dX8_about_3 : decode cX8_about 3 = .ok (.invokestatic 86, 3) := by decide +kernel
theorem dX8_about_6 : decode cX8_about 6 = .ok (.ifCond .ne 6, 3) := by decide +kernel
theorem dX8_about_9 : decode cX8_about 9 = .ok (.bipush (-102), 2) := by decide +kernel
theorem dX8_about_11 : decode cX8_about 11 = .ok (.ireturn, 1) := by decide +kernel
theorem dX8_about_12 : decode cX8_about 12 = .ok (.aload_n 0, 1) := by decide +kernel
theorem dX8_about_13 : decode cX8_about 13 = .ok (.invokevirtual 151, 3) := by decide +kernel
theorem dX8_about_16 : decode cX8_about 16 = .ok (.ifCond .eq 11, 3) := by decide +kernel
theorem dX8_about_19 : decode cX8_about 19 = .ok (.aload_n 0, 1) := by decide +kernel
theorem dX8_about_20 : decode cX8_about 20 = .ok (.iload_n 1, 1) := by decide +kernel
theorem dX8_about_21 : decode cX8_about 21 = .ok (.invokevirtual 211, 3) := by decide +kernel
theorem dX8_about_24 : decode cX8_about 24 = .ok (.goto 5, 3) := by decide +kernel
theorem dX8_about_27 : decode cX8_about 27 = .ok (.bipush (-103), 2) := by decide +kernel
theorem dX8_about_29 : decode cX8_about 29 = .ok (.ireturn, 1) := by decide +kernel
set_option maxRecDepth 20000 in
theorem ggX8_isKind_X8_within : GoodIn wsX8_isKind wsX8_within := goodIn_r _ [4] rfl (by decide +kernel)
set_option maxRecDepth 20000 in
theorem gX8_isKind_X8_within : GoodIn wsX8_isKind (va_wsS RX8 86 yX8_within wsX8_within) := goodIn_app (goodIn_r _ [1, 2, 3] rfl (by decide +kernel)) ggX8_isKind_X8_within
theorem dX8_isKind_0 : decode cX8_isKind 0 = .ok (.iload_n 0, 1) := by decide +kernel
theorem dX8_isKind_1 : decode cX8_isKind 1 = .ok (.iconst 0, 1) := by decide +kernel
theorem dX8_isKind_2 : decode cX8_isKind 2 = .ok (.iconst 4, 1) := by decide +kernel
theorem dX8_isKind_3 : decode cX8_isKind 3 = .ok (.invokestatic 86, 3) := by decide +kernel
theorem dX8_isKind_6 : decode cX8_isKind 6 = .ok (.ireturn, 1) := by decide +kernel
set_option maxRecDepth 20000 in
theorem ggX8_as_X8_isKind : GoodIn wsX8_as wsX8_isKind := goodIn_r _ [5, 6, 7, 4, 8] rfl (by decide +kernel)
set_option maxRecDepth 20000 in
theorem gX8_as_X8_isKind : GoodIn wsX8_as (va_wsS RX8 214 yX8_isKind wsX8_isKind) := goodIn_app (goodIn_r _ [2, 3, 4] rfl (by decide +kernel)) ggX8_as_X8_isKind
set_option maxRecDepth 20000 in
theorem ggX8_as_X8_isBoard : GoodIn wsX8_as wsX8_isBoard := goodIn_r _ [12, 13, 14, 15, 16, 17, 18, 19, 20, 21, 22, 23, 24, 25, 26, 27, 28, 29, 30, 31, 32, 33, 34, 35, 36, 37, 38, 39, 40, 41, 42, 43, 44, 45, 46, 47, 48, 49, 50, 51, 52, 53, 54, 55, 56, 57, 58, 59, 60] rfl (by decide +kernel)
set_option maxRecDepth 20000 in
theorem gX8_as_X8_isBoard : GoodIn wsX8_as (wsV RX8 151 RX8 yX8_isBoard wsX8_isBoard) := goodIn_app (goodIn_r _ [9, 10, 11, 4] rfl (by decide +kernel)) ggX8_as_X8_isBoard
theorem dX8_as_0 : decode cX8_as 0 = .ok (.iload_n 1, 1) := by decide +kernel
theorem dX8_as_1 : decode cX8_as 1 = .ok (.invokestatic 214, 3) := by decide +kernel
theorem dX8_as_4 : decode cX8_as 4 = .ok (.ifCond .ne 6, 3) := by decide +kernel
theorem dX8_as_7 : decode cX8_as 7 = .ok (.bipush (-102), 2) := by decide +kernel
theorem dX8_as_9 : decode cX8_as 9 = .ok (.ireturn, 1) := by decide +kernel
theorem dX8_as_10 : decode cX8_as 10 = .ok (.aload_n 0, 1) := by decide +kernel
theorem dX8_as_11 : decode cX8_as 11 = .ok (.invokevirtual 151, 3) := by decide +kernel
theorem dX8_as_14 : decode cX8_as 14 = .ok (.ifCond .ne 6, 3) := by decide +kernel
theorem dX8_as_17 : decode cX8_as 17 = .ok (.bipush (-103), 2) := by decide +kernel
theorem dX8_as_19 : decode cX8_as 19 = .ok (.ireturn, 1) := by decide +kernel
theorem dX8_as_20 : decode cX8_as 20 = .ok (.iload_n 1, 1) := by decide +kernel
theorem dX8_as_21 : decode cX8_as 21 = .ok (.ifCond .eq 24, 3) := by decide +kernel
theorem dX8_as_24 : decode cX8_as 24 = .ok (.iload_n 1, 1) := by decide +kernel
theorem dX8_as_25 : decode cX8_as 25 = .ok (.aload_n 0, 1) := by decide +kernel
theorem dX8_as_26 : decode cX8_as 26 = .ok (.getfield 139, 3) := by decide +kernel
theorem dX8_as_29 : decode cX8_as 29 = .ok (.if_icmp .eq 16, 3) := by decide +kernel
theorem dX8_as_32 : decode cX8_as 32 = .ok (.iload_n 1, 1) := by decide +kernel
theorem dX8_as_33 : decode cX8_as 33 = .ok (.iconst 1, 1) := by decide +kernel
theorem dX8_as_34 : decode cX8_as 34 = .ok (.if_icmp .ne 18, 3) := by decide +kernel
theorem dX8_as_37 : decode cX8_as 37 = .ok (.aload_n 0, 1) := by decide +kernel
theorem dX8_as_38 : decode cX8_as 38 = .ok (.getfield 139, 3) := by decide +kernel
theorem dX8_as_41 : decode cX8_as 41 = .ok (.iconst 2, 1) := by decide +kernel
theorem dX8_as_42 : decode cX8_as 42 = .ok (.if_icmp .ne 10, 3) := by decide +kernel
theorem dX8_as_45 : decode cX8_as 45 = .ok (.aload_n 0, 1) := by decide +kernel
theorem dX8_as_46 : decode cX8_as 46 = .ok (.getfield 139, 3) := by decide +kernel
theorem dX8_as_49 : decode cX8_as 49 = .ok (.goto 4, 3) := by decide +kernel
theorem dX8_as_52 : decode cX8_as 52 = .ok (.iconst (-1), 1) := by decide +kernel
theorem dX8_as_53 : decode cX8_as 53 = .ok (.ireturn, 1) := by decide +kernel
set_option maxRecDepth 20000 in
theorem ggX8_isRow_X8_within : GoodIn wsX8_isRow wsX8_within := goodIn_r _ [5] rfl (by decide +kernel)
set_option maxRecDepth 20000 in
theorem gX8_isRow_X8_within : GoodIn wsX8_isRow (va_wsS RX8 86 yX8_within wsX8_within) := goodIn_app (goodIn_r _ [2, 3, 4] rfl (by decide +kernel)) ggX8_isRow_X8_within
theorem dX8_isRow_0 : decode cX8_isRow 0 = .ok (.iload_n 1, 1) := by decide +kernel
theorem dX8_isRow_1 : decode cX8_isRow 1 = .ok (.iconst 0, 1) := by decide +kernel
theorem dX8_isRow_2 : decode cX8_isRow 2 = .ok (.aload_n 0, 1) := by decide +kernel
theorem dX8_isRow_3 : decode cX8_isRow 3 = .ok (.getfield 127, 3) := by decide +kernel
theorem dX8_isRow_6 : decode cX8_isRow 6 = .ok (.iconst 1, 1) := by decide +kernel
theorem dX8_isRow_7 : decode cX8_isRow 7 = .ok (.isub, 1) := by decide +kernel
theorem dX8_isRow_8 : decode cX8_isRow 8 = .ok (.invokestatic 86, 3) := by decide +kernel
theorem dX8_isRow_11 : decode cX8_isRow 11 = .ok (.ireturn, 1) := by decide +kernel
set_option maxRecDepth 20000 in
theorem ggX8_row_X8_isRow : GoodIn wsX8_row wsX8_isRow := goodIn_r _ [7, 8, 9, 10, 6, 11, 12, 13, 14, 15, 16, 17, 18, 19, 20, 21, 22, 23, 24, 25, 26, 27, 28, 29, 30, 31, 32, 33, 34, 35, 36, 37, 38, 39, 40, 41, 42, 43, 44, 45, 46, 47, 48, 49, 50, 51, 52, 53, 54, 55, 56, 57, 58] rfl (by decide +kernel)
set_option maxRecDepth 20000 in
theorem gX8_row_X8_isRow : GoodIn wsX8_row (wsV RX8 217 RX8 yX8_isRow wsX8_isRow) := goodIn_app (goodIn_r _ [3, 4, 5, 6] rfl (by decide +kernel)) ggX8_row_X8_isRow
set_option maxRecDepth 20000 in
theorem ggX8_row_X8_within : GoodIn wsX8_row wsX8_within := goodIn_r _ [11] rfl (by decide +kernel)
set_option maxRecDepth 20000 in
theorem gX8_row_X8_within : GoodIn wsX8_row (va_wsS RX8 86 yX8_within wsX8_within) := goodIn_app (goodIn_r _ [9, 10, 6] rfl (by decide +kernel)) ggX8_row_X8_within
theorem dX8_row_0 : decode cX8_row 0 = .ok (.aload_n 0, 1) := by decide +kernel
theorem dX8_row_1 : decode cX8_row 1 = .ok (.iload_n 1, 1) := by decide +kernel
theorem dX8_row_2 : decode cX8_row 2 = .ok (.invokevirtual 217, 3) := by decide +kernel
theorem dX8_row_5 : decode cX8_row 5 = .ok (.ifCond .ne 8, 3) := by decide +kernel
theorem dX8_row_8 : decode cX8_row 8 = .ok (.bipush (-101), 2) := by decide +kernel
theorem dX8_row_10 : decode cX8_row 10 = .ok (.goto 36, 3) := by decide +kernel
theorem dX8_row_13 : decode cX8_row 13 = .ok (.iload_n 2, 1) := by decide +kernel
theorem dX8_row_14 : decode cX8_row 14 = .ok (.iconst 0, 1) := by decide +kernel
theorem dX8_row_15 : decode cX8_row 15 = .ok (.iconst 1, 1) := by decide +kernel
theorem dX8_row_16 : decode cX8_row 16 = .ok (.invokestatic 86, 3) := by decide +kernel
theorem dX8_row_19 : decode cX8_row 19 = .ok (.ifCond .ne 8, 3) := by decide +kernel
theorem dX8_row_22 : decode cX8_row 22 = .ok (.bipush (-102), 2) := by decide +kernel
theorem dX8_row_24 : decode cX8_row 24 = .ok (.goto 22, 3) := by decide +kernel
theorem dX8_row_27 : decode cX8_row 27 = .ok (.iload_n 2, 1) := by decide +kernel
theorem dX8_row_28 : decode cX8_row 28 = .ok (.ifCond .ne 12, 3) := by decide +kernel
theorem dX8_row_31 : decode cX8_row 31 = .ok (.aload_n 0, 1) := by decide +kernel
theorem dX8_row_32 : decode cX8_row 32 = .ok (.getfield 7, 3) := by decide +kernel
theorem dX8_row_35 : decode cX8_row 35 = .ok (.iload_n 1, 1) := by decide +kernel
theorem dX8_row_36 : decode cX8_row 36 = .ok (.iaload, 1) := by decide +kernel
theorem dX8_row_37 : decode cX8_row 37 = .ok (.goto 9, 3) := by decide +kernel
theorem dX8_row_40 : decode cX8_row 40 = .ok (.aload_n 0, 1) := by decide +kernel
theorem dX8_row_41 : decode cX8_row 41 = .ok (.getfield 13, 3) := by decide +kernel
theorem dX8_row_44 : decode cX8_row 44 = .ok (.iload_n 1, 1) := by decide +kernel
theorem dX8_row_45 : decode cX8_row 45 = .ok (.iaload, 1) := by decide +kernel
theorem dX8_row_46 : decode cX8_row 46 = .ok (.ireturn, 1) := by decide +kernel
set_option maxRecDepth 20000 in
theorem ggX8_content_X8_within : GoodIn wsX8_content wsX8_within := goodIn_r _ [5] rfl (by decide +kernel)
set_option maxRecDepth 20000 in
theorem gX8_content_X8_within : GoodIn wsX8_content (va_wsS RX8 86 yX8_within wsX8_within) := goodIn_app (goodIn_r _ [2, 3, 4] rfl (by decide +kernel)) ggX8_content_X8_within
set_option maxRecDepth 20000 in
theorem ggX8_content_X8_isBoard : GoodIn wsX8_content wsX8_isBoard := goodIn_r _ [9, 10, 11, 12, 13, 14, 15, 16, 17, 18, 19, 20, 21, 22, 23, 24, 25, 26, 27, 28, 29, 30, 31, 32, 33, 34, 35, 36, 37, 38, 39, 40, 41, 42, 43, 44, 45, 46, 47, 48, 49, 50, 51, 52, 53, 54, 55, 56, 57] rfl (by decide +kernel)
set_option maxRecDepth 20000 in
theorem gX8_content_X8_isBoard : GoodIn wsX8_content (wsV RX8 151 RX8 yX8_isBoard wsX8_isBoard) := goodIn_app (goodIn_r _ [6, 7, 8, 4] rfl (by decide +kernel)) ggX8_content_X8_isBoard
theorem dX8_content_0 : decode cX8_content 0 = .ok (.iload_n 1, 1) := by decide +kernel
theorem dX8_content_1 : decode cX8_content 1 = .ok (.iconst 1, 1) := by decide +kernel
theorem dX8_content_2 : decode cX8_content 2 = .ok (.iconst 4, 1) := by decide +kernel
theorem dX8_content_3 : decode cX8_content 3 = .ok (.invokestatic 86, 3) := by decide +kernel
theorem dX8_content_6 : decode cX8_content 6 = .ok (.ifCond .ne 6, 3) := by decide +kernel
theorem dX8_content_9 : decode cX8_content 9 = .ok (.bipush (-102), 2) := by decide +kernel
theorem dX8_content_11 : decode cX8_content 11 = .ok (.ireturn, 1) := by decide +kernel
theorem dX8_content_12 : decode cX8_content 12 = .ok (.aload_n 0, 1) := by decide +kernel
theorem dX8_content_13 : decode cX8_content 13 = .ok (.invokevirtual 151, 3) := by decide +kernel
theorem dX8_content_16 : decode cX8_content 16 = .ok (.ifCond .eq 14, 3) := by decide +kernel
theorem dX8_content_19 : decode cX8_content 19 = .ok (.aload_n 0, 1) := by decide +kernel
theorem dX8_content_20 : decode cX8_content 20 = .ok (.getfield 16, 3) := by decide +kernel
theorem dX8_content_23 : decode cX8_content 23 = .ok (.iload_n 1, 1) := by decide +kernel
theorem dX8_content_24 : decode cX8_content 24 = .ok (.iconst 1, 1) := by decide +kernel
theorem dX8_content_25 : decode cX8_content 25 = .ok (.isub, 1) := by decide +kernel
theorem dX8_content_26 : decode cX8_content 26 = .ok (.iaload, 1) := by decide +kernel
theorem dX8_content_27 : decode cX8_content 27 = .ok (.goto 5, 3) := by decide +kernel
theorem dX8_content_30 : decode cX8_content 30 = .ok (.bipush (-103), 2) := by decide +kernel
theorem dX8_content_32 : decode cX8_content 32 = .ok (.ireturn, 1) := by decide +kernel
set_option maxRecDepth 20000 in
theorem ggX8_box_X8_within : GoodIn wsX8_box wsX8_within := goodIn_r _ [7] rfl (by decide +kernel)
set_option maxRecDepth 20000 in
theorem gX8_box_X8_within : GoodIn wsX8_box (va_wsS RX8 86 yX8_within wsX8_within) := goodIn_app (goodIn_r _ [4, 5, 6] rfl (by decide +kernel)) ggX8_box_X8_within
theorem dX8_box_0 : decode cX8_box 0 = .ok (.iload_n 1, 1) := by decide +kernel
theorem dX8_box_1 : decode cX8_box 1 = .ok (.iconst 0, 1) := by decide +kernel
theorem dX8_box_2 : decode cX8_box 2 = .ok (.aload_n 0, 1) := by decide +kernel
theorem dX8_box_3 : decode cX8_box 3 = .ok (.getfield 124, 3) := by decide +kernel
theorem dX8_box_6 : decode cX8_box 6 = .ok (.iconst 1, 1) := by decide +kernel
theorem dX8_box_7 : decode cX8_box 7 = .ok (.isub, 1) := by decide +kernel
theorem dX8_box_8 : decode cX8_box 8 = .ok (.invokestatic 86, 3) := by decide +kernel
theorem dX8_box_11 : decode cX8_box 11 = .ok (.ifCond .ne 8, 3) := by decide +kernel
theorem dX8_box_14 : decode cX8_box 14 = .ok (.bipush (-101), 2) := by decide +kernel
theorem dX8_box_16 : decode cX8_box 16 = .ok (.goto 36, 3) := by decide +kernel
theorem dX8_box_19 : decode cX8_box 19 = .ok (.iload_n 2, 1) := by decide +kernel
theorem dX8_box_20 : decode cX8_box 20 = .ok (.iconst 0, 1) := by decide +kernel
theorem dX8_box_21 : decode cX8_box 21 = .ok (.iconst 1, 1) := by decide +kernel
theorem dX8_box_22 : decode cX8_box 22 = .ok (.invokestatic 86, 3) := by decide +kernel
theorem dX8_box_25 : decode cX8_box 25 = .ok (.ifCond .ne 8, 3) := by decide +kernel
theorem dX8_box_28 : decode cX8_box 28 = .ok (.bipush (-102), 2) := by decide +kernel
theorem dX8_box_30 : decode cX8_box 30 = .ok (.goto 22, 3) := by decide +kernel
theorem dX8_box_33 : decode cX8_box 33 = .ok (.iload_n 2, 1) := by decide +kernel
theorem dX8_box_34 : decode cX8_box 34 = .ok (.ifCond .ne 12, 3) := by decide +kernel
theorem dX8_box_37 : decode cX8_box 37 = .ok (.aload_n 0, 1) := by decide +kernel
theorem dX8_box_38 : decode cX8_box 38 = .ok (.getfield 19, 3) := by decide +kernel
theorem dX8_box_41 : decode cX8_box 41 = .ok (.iload_n 1, 1) := by decide +kernel
theorem dX8_box_42 : decode cX8_box 42 = .ok (.iaload, 1) := by decide +kernel
theorem dX8_box_43 : decode cX8_box 43 = .ok (.goto 9, 3) := by decide +kernel
theorem dX8_box_46 : decode cX8_box 46 = .ok (.aload_n 0, 1) := by decide +kernel
theorem dX8_box_47 : decode cX8_box 47 = .ok (.getfield 22, 3) := by decide +kernel
theorem dX8_box_50 : decode cX8_box 50 = .ok (.iload_n 1, 1) := by decide +kernel
theorem dX8_box_51 : decode cX8_box 51 = .ok (.iaload, 1) := by decide +kernel
theorem dX8_box_52 : decode cX8_box 52 = .ok (.ireturn, 1) := by decide +kernel
set_option maxRecDepth 20000 in
theorem ggX8_be_X8_isKind : GoodIn wsX8_be wsX8_isKind := goodIn_r _ [6, 7, 8, 5, 9] rfl (by decide +kernel)
set_option maxRecDepth 20000 in
theorem gX8_be_X8_isKind : GoodIn wsX8_be (va_wsS RX8 214 yX8_isKind wsX8_isKind) := goodIn_app (goodIn_r _ [3, 4, 5] rfl (by decide +kernel)) ggX8_be_X8_isKind
set_option maxRecDepth 20000 in
theorem ggX8_be_X8_isBoard : GoodIn wsX8_be wsX8_isBoard := goodIn_r _ [13, 14, 15, 16, 17, 18, 19, 20, 21, 22, 23, 24, 25, 26, 27, 28, 29, 30, 31, 32, 33, 34, 35, 36, 37, 38, 39, 40, 41, 42, 43, 44, 45, 46, 47, 48, 49, 50, 51, 52, 53, 54, 55, 56, 57, 58, 59, 60, 61] rfl (by decide +kernel)
set_option maxRecDepth 20000 in
theorem gX8_be_X8_isBoard : GoodIn wsX8_be (wsV RX8 151 RX8 yX8_isBoard wsX8_isBoard) := goodIn_app (goodIn_r _ [10, 11, 12, 5] rfl (by decide +kernel)) ggX8_be_X8_isBoard
theorem dX8_be_0 : decode cX8_be 0 = .ok (.iload_n 1, 1) := by decide +kernel
theorem dX8_be_1 : decode cX8_be 1 = .ok (.invokestatic 214, 3) := by decide +kernel
theorem dX8_be_4 : decode cX8_be 4 = .ok (.ifCond .ne 6, 3) := by decide +kernel
theorem dX8_be_7 : decode cX8_be 7 = .ok (.bipush (-102), 2) := by decide +kernel
theorem dX8_be_9 : decode cX8_be 9 = .ok (.ireturn, 1) := by decide +kernel
theorem dX8_be_10 : decode cX8_be 10 = .ok (.aload_n 0, 1) := by decide +kernel
theorem dX8_be_11 : decode cX8_be 11 = .ok (.invokevirtual 151, 3) := by decide +kernel
theorem dX8_be_14 : decode cX8_be 14 = .ok (.ifCond .ne 6, 3) := by decide +kernel
theorem dX8_be_17 : decode cX8_be 17 = .ok (.bipush (-103), 2) := by decide +kernel
theorem dX8_be_19 : decode cX8_be 19 = .ok (.ireturn, 1) := by decide +kernel
theorem dX8_be_20 : decode cX8_be 20 = .ok (.aload_n 0, 1) := by decide +kernel
theorem dX8_be_21 : decode cX8_be 21 = .ok (.getfield 139, 3) := by decide +kernel
theorem dX8_be_24 : decode cX8_be 24 = .ok (.istore_n 2, 1) := by decide +kernel
theorem dX8_be_25 : decode cX8_be 25 = .ok (.aload_n 0, 1) := by decide +kernel
theorem dX8_be_26 : decode cX8_be 26 = .ok (.iload_n 1, 1) := by decide +kernel
theorem dX8_be_27 : decode cX8_be 27 = .ok (.putfield 139, 3) := by decide +kernel
theorem dX8_be_30 : decode cX8_be 30 = .ok (.aload_n 0, 1) := by decide +kernel
theorem dX8_be_31 : decode cX8_be 31 = .ok (.iconst 0, 1) := by decide +kernel
theorem dX8_be_32 : decode cX8_be 32 = .ok (.putfield 130, 3) := by decide +kernel
theorem dX8_be_35 : decode cX8_be 35 = .ok (.iload_n 2, 1) := by decide +kernel
theorem dX8_be_36 : decode cX8_be 36 = .ok (.ireturn, 1) := by decide +kernel
set_option maxRecDepth 20000 in
theorem ggX8_mayBeOuter_X8_within : GoodIn wsX8_mayBeOuter wsX8_within := goodIn_r _ [7] rfl (by decide +kernel)
set_option maxRecDepth 20000 in
theorem gX8_mayBeOuter_X8_within : GoodIn wsX8_mayBeOuter (va_wsS RX8 86 yX8_within wsX8_within) := goodIn_app (goodIn_r _ [4, 5, 6] rfl (by decide +kernel)) ggX8_mayBeOuter_X8_within
theorem dX8_mayBeOuter_0 : decode cX8_mayBeOuter 0 = .ok (.iload_n 2, 1) := by decide +kernel
theorem dX8_mayBeOuter_1 : decode cX8_mayBeOuter 1 = .ok (.iconst 1, 1) := by decide +kernel
theorem dX8_mayBeOuter_2 : decode cX8_mayBeOuter 2 = .ok (.iconst 5, 1) := by decide +kernel
theorem dX8_mayBeOuter_3 : decode cX8_mayBeOuter 3 = .ok (.invokestatic 86, 3) := by decide +kernel
theorem dX8_mayBeOuter_6 : decode cX8_mayBeOuter 6 = .ok (.ifCond .eq 17, 3) := by decide +kernel
theorem dX8_mayBeOuter_9 : decode cX8_mayBeOuter 9 = .ok (.iload_n 2, 1) := by decide +kernel
theorem dX8_mayBeOuter_10 : decode cX8_mayBeOuter 10 = .ok (.aload_n 0, 1) := by decide +kernel
theorem dX8_mayBeOuter_11 : decode cX8_mayBeOuter 11 = .ok (.getfield 13, 3) := by decide +kernel
theorem dX8_mayBeOuter_14 : decode cX8_mayBeOuter 14 = .ok (.iload_n 1, 1) := by decide +kernel
theorem dX8_mayBeOuter_15 : decode cX8_mayBeOuter 15 = .ok (.iaload, 1) := by decide +kernel
theorem dX8_mayBeOuter_16 : decode cX8_mayBeOuter 16 = .ok (.if_icmp .lt 7, 3) := by decide +kernel
theorem dX8_mayBeOuter_19 : decode cX8_mayBeOuter 19 = .ok (.iconst 1, 1) := by decide +kernel
theorem dX8_mayBeOuter_20 : decode cX8_mayBeOuter 20 = .ok (.goto 4, 3) := by decide +kernel
theorem dX8_mayBeOuter_23 : decode cX8_mayBeOuter 23 = .ok (.iconst 0, 1) := by decide +kernel
theorem dX8_mayBeOuter_24 : decode cX8_mayBeOuter 24 = .ok (.istore_n 3, 1) := by decide +kernel
theorem dX8_mayBeOuter_25 : decode cX8_mayBeOuter 25 = .ok (.iload_n 3, 1) := by decide +kernel
theorem dX8_mayBeOuter_26 : decode cX8_mayBeOuter 26 = .ok (.ifCond .eq 23, 3) := by decide +kernel
theorem dX8_mayBeOuter_29 : decode cX8_mayBeOuter 29 = .ok (.iload_n 1, 1) := by decide +kernel
theorem dX8_mayBeOuter_30 : decode cX8_mayBeOuter 30 = .ok (.ifCond .eq 15, 3) := by decide +kernel
theorem dX8_mayBeOuter_33 : decode cX8_mayBeOuter 33 = .ok (.iload_n 2, 1) := by decide +kernel
theorem dX8_mayBeOuter_34 : decode cX8_mayBeOuter 34 = .ok (.aload_n 0, 1) := by decide +kernel
theorem dX8_mayBeOuter_35 : decode cX8_mayBeOuter 35 = .ok (.getfield 7, 3) := by decide +kernel
theorem dX8_mayBeOuter_38 : decode cX8_mayBeOuter 38 = .ok (.iload_n 1, 1) := by decide +kernel
theorem dX8_mayBeOuter_39 : decode cX8_mayBeOuter 39 = .ok (.iconst 1, 1) := by decide +kernel
theorem dX8_mayBeOuter_40 : decode cX8_mayBeOuter 40 = .ok (.isub, 1) := by decide +kernel
theorem dX8_mayBeOuter_41 : decode cX8_mayBeOuter 41 = .ok (.iaload, 1) := by decide +kernel
theorem dX8_mayBeOuter_42 : decode cX8_mayBeOuter 42 = .ok (.if_icmp .gt 7, 3) := by decide +kernel
theorem dX8_mayBeOuter_45 : decode cX8_mayBeOuter 45 = .ok (.iconst 1, 1) := by decide +kernel
theorem dX8_mayBeOuter_46 : decode cX8_mayBeOuter 46 = .ok (.goto 4, 3) := by decide +kernel
theorem dX8_mayBeOuter_49 : decode cX8_mayBeOuter 49 = .ok (.iconst 0, 1) := by decide +kernel
theorem dX8_mayBeOuter_50 : decode cX8_mayBeOuter 50 = .ok (.istore_n 3, 1) := by decide +kernel
theorem dX8_mayBeOuter_51 : decode cX8_mayBeOuter 51 = .ok (.iload_n 3, 1) := by decide +kernel
theorem dX8_mayBeOuter_52 : decode cX8_mayBeOuter 52 = .ok (.ifCond .eq 29, 3) := by decide +kernel
theorem dX8_mayBeOuter_55 : decode cX8_mayBeOuter 55 = .ok (.iload_n 1, 1) := by decide +kernel
theorem dX8_mayBeOuter_56 : decode cX8_mayBeOuter 56 = .ok (.aload_n 0, 1) := by decide +kernel
theorem dX8_mayBeOuter_57 : decode cX8_mayBeOuter 57 = .ok (.getfield 127, 3) := by decide +kernel
theorem dX8_mayBeOuter_60 : decode cX8_mayBeOuter 60 = .ok (.iconst 1, 1) := by decide +kernel
theorem dX8_mayBeOuter_61 : decode cX8_mayBeOuter 61 = .ok (.isub, 1) := by decide +kernel
theorem dX8_mayBeOuter_62 : decode cX8_mayBeOuter 62 = .ok (.if_icmp .eq 15, 3) := by decide +kernel
theorem dX8_mayBeOuter_65 : decode cX8_mayBeOuter 65 = .ok (.iload_n 2, 1) := by decide +kernel
theorem dX8_mayBeOuter_66 : decode cX8_mayBeOuter 66 = .ok (.aload_n 0, 1) := by decide +kernel
