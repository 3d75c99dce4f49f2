theorem dX8_pair_132 : decode cX8_pair 132 = .ok (.ireturn, 1) := by decide +kernel
theorem dX8_pair_133 : decode cX8_pair 133 = .ok (.aload_n 0, 1) := by decide +kernel
theorem dX8_pair_134 : decode cX8_pair 134 = .ok (.iload_n 1, 1) := by decide +kernel
theorem dX8_pair_135 : decode cX8_pair 135 = .ok (.aload_n 0, 1) := by decide +kernel
theorem dX8_pair_136 : decode cX8_pair 136 = .ok (.getfield 38, 3) := by decide +kernel
theorem dX8_pair_139 : decode cX8_pair 139 = .ok (.iload_n 1, 1) := by decide +kernel
theorem dX8_pair_140 : decode cX8_pair 140 = .ok (.iaload, 1) := by decide +kernel
theorem dX8_pair_141 : decode cX8_pair 141 = .ok (.aload_n 0, 1) := by decide +kernel
theorem dX8_pair_142 : decode cX8_pair 142 = .ok (.getfield 41, 3) := by decide +kernel
theorem dX8_pair_145 : decode cX8_pair 145 = .ok (.iload_n 1, 1) := by decide +kernel
theorem dX8_pair_146 : decode cX8_pair 146 = .ok (.iaload, 1) := by decide +kernel
theorem dX8_pair_147 : decode cX8_pair 147 = .ok (.invokevirtual 101, 3) := by decide +kernel
theorem dX8_pair_150 : decode cX8_pair 150 = .ok (.ireturn, 1) := by decide +kernel
theorem dX8_pair_151 : decode cX8_pair 151 = .ok (.aload_n 0, 1) := by decide +kernel
theorem dX8_pair_152 : decode cX8_pair 152 = .ok (.iload_n 1, 1) := by decide +kernel
theorem dX8_pair_153 : decode cX8_pair 153 = .ok (.invokevirtual 81, 3) := by decide +kernel
theorem dX8_pair_156 : decode cX8_pair 156 = .ok (.ifCond .ne 7, 3) := by decide +kernel
theorem dX8_pair_159 : decode cX8_pair 159 = .ok (.iconst 1, 1) := by decide +kernel
theorem dX8_pair_160 : decode cX8_pair 160 = .ok (.goto 4, 3) := by decide +kernel
theorem dX8_pair_163 : decode cX8_pair 163 = .ok (.iconst 0, 1) := by decide +kernel
theorem dX8_pair_164 : decode cX8_pair 164 = .ok (.ireturn, 1) := by decide +kernel
set_option maxRecDepth 20000 in
theorem ggX8_mark_X8_in : GoodIn wsX8_mark wsX8_in := goodIn_r _ [6] (by decide +kernel) (by decide +kernel)
set_option maxRecDepth 20000 in
theorem gX8_mark_X8_in : GoodIn wsX8_mark (va_wsS RX8 57 yX8_in wsX8_in) := goodIn_app (goodIn_of _ (by decide +kernel)) ggX8_mark_X8_in
set_option maxRecDepth 20000 in
theorem ggX8_mark_X8_place : GoodIn wsX8_mark wsX8_place := goodIn_r _ [10, 11, 12, 13, 14, 15, 16, 17, 18, 19, 20, 5, 21, 22, 23, 24, 25, 26, 3, 4, 6, 27, 28, 29, 30, 31, 32, 33, 34, 35, 36, 37, 38, 39, 40, 41, 42, 43, 44, 45, 46, 47, 48, 49, 50, 51, 52, 53, 54, 55, 56, 57, 58, 59, 60, 61, 62, 63, 64, 65, 66, 67, 68, 69, 70, 71, 72, 73, 74, 75, 76, 77, 78, 79, 80, 81, 82, 83, 1, 84, 2, 85, 86, 87, 88, 89, 90, 91, 92, 93, 94, 95, 96, 97, 98, 99, 100, 101, 102, 103, 104, 105, 106] (by decide +kernel) (by decide +kernel)
set_option maxRecDepth 20000 in
theorem gX8_mark_X8_place : GoodIn wsX8_mark (wsV RX8 147 RX8 yX8_place wsX8_place) := goodIn_app (goodIn_of _ (by decide +kernel)) ggX8_mark_X8_place
set_option maxRecDepth 20000 in
theorem ggX8_mark_X8_anchor : GoodIn wsX8_mark wsX8_anchor := goodIn_r _ [67, 11, 63, 85, 86, 87, 88, 89, 90, 91, 92, 93, 94, 95, 96, 97, 98, 99, 100, 101, 102, 103, 104, 105, 106] (by decide +kernel) (by decide +kernel)
set_option maxRecDepth 20000 in
theorem gX8_mark_X8_anchor : GoodIn wsX8_mark (wsV RX8 85 RX8 yX8_anchor wsX8_anchor) := goodIn_app (goodIn_of _ (by decide +kernel)) ggX8_mark_X8_anchor
theorem dX8_mark_0 : decode cX8_mark 0 = .ok (.iload_n 1, 1) := by decide +kernel
theorem dX8_mark_1 : decode cX8_mark 1 = .ok (.iconst 0, 1) := by decide +kernel
theorem dX8_mark_2 : decode cX8_mark 2 = .ok (.iconst 2, 1) := by decide +kernel
theorem dX8_mark_3 : decode cX8_mark 3 = .ok (.invokestatic 57, 3) := by decide +kernel
theorem dX8_mark_6 : decode cX8_mark 6 = .ok (.ifCond .eq 12, 3) := by decide +kernel
theorem dX8_mark_9 : decode cX8_mark 9 = .ok (.aload_n 0, 1) := by decide +kernel
theorem dX8_mark_10 : decode cX8_mark 10 = .ok (.getfield 19, 3) := by decide +kernel
theorem dX8_mark_13 : decode cX8_mark 13 = .ok (.iload_n 1, 1) := by decide +kernel
theorem dX8_mark_14 : decode cX8_mark 14 = .ok (.iaload, 1) := by decide +kernel
theorem dX8_mark_15 : decode cX8_mark 15 = .ok (.ifCond .ge 5, 3) := by decide +kernel
theorem dX8_mark_18 : decode cX8_mark 18 = .ok (.iconst (-1), 1) := by decide +kernel
theorem dX8_mark_19 : decode cX8_mark 19 = .ok (.ireturn, 1) := by decide +kernel
theorem dX8_mark_20 : decode cX8_mark 20 = .ok (.iload_n 2, 1) := by decide +kernel
theorem dX8_mark_21 : decode cX8_mark 21 = .ok (.iconst 0, 1) := by decide +kernel
theorem dX8_mark_22 : decode cX8_mark 22 = .ok (.iconst 2, 1) := by decide +kernel
theorem dX8_mark_23 : decode cX8_mark 23 = .ok (.invokestatic 57, 3) := by decide +kernel
theorem dX8_mark_26 : decode cX8_mark 26 = .ok (.ifCond .ne 6, 3) := by decide +kernel
theorem dX8_mark_29 : decode cX8_mark 29 = .ok (.bipush (-2), 2) := by decide +kernel
theorem dX8_mark_31 : decode cX8_mark 31 = .ok (.ireturn, 1) := by decide +kernel
theorem dX8_mark_32 : decode cX8_mark 32 = .ok (.aload_n 0, 1) := by decide +kernel
theorem dX8_mark_33 : decode cX8_mark 33 = .ok (.invokevirtual 147, 3) := by decide +kernel
theorem dX8_mark_36 : decode cX8_mark 36 = .ok (.iload_n 2, 1) := by decide +kernel
theorem dX8_mark_37 : decode cX8_mark 37 = .ok (.ifCond .ne 12, 3) := by decide +kernel
theorem dX8_mark_40 : decode cX8_mark 40 = .ok (.aload_n 0, 1) := by decide +kernel
theorem dX8_mark_41 : decode cX8_mark 41 = .ok (.getfield 19, 3) := by decide +kernel
theorem dX8_mark_44 : decode cX8_mark 44 = .ok (.iload_n 1, 1) := by decide +kernel
theorem dX8_mark_45 : decode cX8_mark 45 = .ok (.iaload, 1) := by decide +kernel
theorem dX8_mark_46 : decode cX8_mark 46 = .ok (.goto 27, 3) := by decide +kernel
theorem dX8_mark_49 : decode cX8_mark 49 = .ok (.iload_n 2, 1) := by decide +kernel
theorem dX8_mark_50 : decode cX8_mark 50 = .ok (.iconst 1, 1) := by decide +kernel
theorem dX8_mark_51 : decode cX8_mark 51 = .ok (.if_icmp .ne 16, 3) := by decide +kernel
theorem dX8_mark_54 : decode cX8_mark 54 = .ok (.aload_n 0, 1) := by decide +kernel
theorem dX8_mark_55 : decode cX8_mark 55 = .ok (.aload_n 0, 1) := by decide +kernel
theorem dX8_mark_56 : decode cX8_mark 56 = .ok (.getfield 19, 3) := by decide +kernel
theorem dX8_mark_59 : decode cX8_mark 59 = .ok (.iload_n 1, 1) := by decide +kernel
theorem dX8_mark_60 : decode cX8_mark 60 = .ok (.iaload, 1) := by decide +kernel
theorem dX8_mark_61 : decode cX8_mark 61 = .ok (.invokevirtual 85, 3) := by decide +kernel
theorem dX8_mark_64 : decode cX8_mark 64 = .ok (.goto 9, 3) := by decide +kernel
theorem dX8_mark_67 : decode cX8_mark 67 = .ok (.aload_n 0, 1) := by decide +kernel
theorem dX8_mark_68 : decode cX8_mark 68 = .ok (.getfield 44, 3) := by decide +kernel
theorem dX8_mark_71 : decode cX8_mark 71 = .ok (.iload_n 1, 1) := by decide +kernel
theorem dX8_mark_72 : decode cX8_mark 72 = .ok (.iaload, 1) := by decide +kernel
theorem dX8_mark_73 : decode cX8_mark 73 = .ok (.ireturn, 1) := by decide +kernel
set_option maxRecDepth 20000 in
theorem ggX8_isCrossing_X8_wantedFrom : GoodIn wsX8_isCrossing wsX8_wantedFrom := goodIn_r _ [5, 6, 7, 8, 9, 4, 10, 11, 12, 13, 14, 15, 16, 17, 22, 23, 24, 25, 26, 27, 28, 29, 30, 31, 32, 33, 34, 35, 36, 37, 38, 39, 40, 41, 42, 43] (by decide +kernel) (by decide +kernel)
set_option maxRecDepth 20000 in
theorem gX8_isCrossing_X8_wantedFrom : GoodIn wsX8_isCrossing (wsV RX8 88 RX8 yX8_wantedFrom wsX8_wantedFrom) := goodIn_app (goodIn_of _ (by decide +kernel)) ggX8_isCrossing_X8_wantedFrom
set_option maxRecDepth 20000 in
theorem ggX8_isCrossing_X8_wantedTo : GoodIn wsX8_isCrossing wsX8_wantedTo := goodIn_r _ [21, 6, 17, 7, 8, 9, 4, 10, 11, 12, 13, 14, 15, 16, 22, 23, 24, 25, 26, 27, 28, 29, 30, 31, 32, 33, 34, 35, 36, 37, 38, 39, 40, 41, 42, 43] (by decide +kernel) (by decide +kernel)
set_option maxRecDepth 20000 in
theorem gX8_isCrossing_X8_wantedTo : GoodIn wsX8_isCrossing (wsV RX8 91 RX8 yX8_wantedTo wsX8_wantedTo) := goodIn_app (goodIn_of _ (by decide +kernel)) ggX8_isCrossing_X8_wantedTo
theorem dX8_isCrossing_0 : decode cX8_isCrossing 0 = .ok (.aload_n 0, 1) := by decide +kernel
theorem dX8_isCrossing_1 : decode cX8_isCrossing 1 = .ok (.iload_n 1, 1) := by decide +kernel
theorem dX8_isCrossing_2 : decode cX8_isCrossing 2 = .ok (.invokevirtual 88, 3) := by decide +kernel
theorem dX8_isCrossing_5 : decode cX8_isCrossing 5 = .ok (.istore_n 3, 1) := by decide +kernel
theorem dX8_isCrossing_6 : decode cX8_isCrossing 6 = .ok (.aload_n 0, 1) := by decide +kernel
theorem dX8_isCrossing_7 : decode cX8_isCrossing 7 = .ok (.iload_n 1, 1) := by decide +kernel
theorem dX8_isCrossing_8 : decode cX8_isCrossing 8 = .ok (.invokevirtual 91, 3) := by decide +kernel
theorem dX8_isCrossing_11 : decode cX8_isCrossing 11 = .ok (.istore 4, 2) := by decide +kernel
theorem dX8_isCrossing_13 : decode cX8_isCrossing 13 = .ok (.aload_n 0, 1) := by decide +kernel
theorem dX8_isCrossing_14 : decode cX8_isCrossing 14 = .ok (.iload_n 2, 1) := by decide +kernel
theorem dX8_isCrossing_15 : decode cX8_isCrossing 15 = .ok (.invokevirtual 88, 3) := by decide +kernel
theorem dX8_isCrossing_18 : decode cX8_isCrossing 18 = .ok (.istore 5, 2) := by decide +kernel
theorem dX8_isCrossing_20 : decode cX8_isCrossing 20 = .ok (.aload_n 0, 1) := by decide +kernel
theorem dX8_isCrossing_21 : decode cX8_isCrossing 21 = .ok (.iload_n 2, 1) := by decide +kernel
theorem dX8_isCrossing_22 : decode cX8_isCrossing 22 = .ok (.invokevirtual 91, 3) := by decide +kernel
theorem dX8_isCrossing_25 : decode cX8_isCrossing 25 = .ok (.istore 6, 2) := by decide +kernel
theorem dX8_isCrossing_27 : decode cX8_isCrossing 27 = .ok (.iload_n 3, 1) := by decide +kernel
theorem dX8_isCrossing_28 : decode cX8_isCrossing 28 = .ok (.iload 5, 2) := by decide +kernel
theorem dX8_isCrossing_30 : decode cX8_isCrossing 30 = .ok (.if_icmp .lt 10, 3) := by decide +kernel
theorem dX8_isCrossing_33 : decode cX8_isCrossing 33 = .ok (.iload 4, 2) := by decide +kernel
theorem dX8_isCrossing_35 : decode cX8_isCrossing 35 = .ok (.iload 6, 2) := by decide +kernel
theorem dX8_isCrossing_37 : decode cX8_isCrossing 37 = .ok (.if_icmp .le 16, 3) := by decide +kernel
theorem dX8_isCrossing_40 : decode cX8_isCrossing 40 = .ok (.iload 5, 2) := by decide +kernel
theorem dX8_isCrossing_42 : decode cX8_isCrossing 42 = .ok (.iload_n 3, 1) := by decide +kernel
theorem dX8_isCrossing_43 : decode cX8_isCrossing 43 = .ok (.if_icmp .lt 14, 3) := by decide +kernel
theorem dX8_isCrossing_46 : decode cX8_isCrossing 46 = .ok (.iload 6, 2) := by decide +kernel
theorem dX8_isCrossing_48 : decode cX8_isCrossing 48 = .ok (.iload 4, 2) := by decide +kernel
theorem dX8_isCrossing_50 : decode cX8_isCrossing 50 = .ok (.if_icmp .gt 7, 3) := by decide +kernel
theorem dX8_isCrossing_53 : decode cX8_isCrossing 53 = .ok (.iconst 1, 1) := by decide +kernel
theorem dX8_isCrossing_54 : decode cX8_isCrossing 54 = .ok (.goto 4, 3) := by decide +kernel
theorem dX8_isCrossing_57 : decode cX8_isCrossing 57 = .ok (.iconst 0, 1) := by decide +kernel
theorem dX8_isCrossing_58 : decode cX8_isCrossing 58 = .ok (.istore 7, 2) := by decide +kernel
theorem dX8_isCrossing_60 : decode cX8_isCrossing 60 = .ok (.iload 7, 2) := by decide +kernel
theorem dX8_isCrossing_62 : decode cX8_isCrossing 62 = .ok (.ifCond .ne 20, 3) := by decide +kernel
theorem dX8_isCrossing_65 : decode cX8_isCrossing 65 = .ok (.iload 4, 2) := by decide +kernel
theorem dX8_isCrossing_67 : decode cX8_isCrossing 67 = .ok (.iload 5, 2) := by decide +kernel
theorem dX8_isCrossing_69 : decode cX8_isCrossing 69 = .ok (.if_icmp .le 13, 3) := by decide +kernel
theorem dX8_isCrossing_72 : decode cX8_isCrossing 72 = .ok (.iload 6, 2) := by decide +kernel
theorem dX8_isCrossing_74 : decode cX8_isCrossing 74 = .ok (.iload_n 3, 1) := by decide +kernel
theorem dX8_isCrossing_75 : decode cX8_isCrossing 75 = .ok (.if_icmp .le 7, 3) := by decide +kernel
theorem dX8_isCrossing_78 : decode cX8_isCrossing 78 = .ok (.iconst 1, 1) := by decide +kernel
theorem dX8_isCrossing_79 : decode cX8_isCrossing 79 = .ok (.goto 4, 3) := by decide +kernel
theorem dX8_isCrossing_82 : decode cX8_isCrossing 82 = .ok (.iconst 0, 1) := by decide +kernel
theorem dX8_isCrossing_83 : decode cX8_isCrossing 83 = .ok (.ireturn, 1) := by decide +kernel
theorem dX8_bits_0 : decode cX8_bits 0 = .ok (.iconst 0, 1) := by decide +kernel
theorem dX8_bits_1 : decode cX8_bits 1 = .ok (.istore_n 1, 1) := by decide +kernel
theorem dX8_bits_2 : decode cX8_bits 2 = .ok (.iconst 0, 1) := by decide +kernel
theorem dX8_bits_3 : decode cX8_bits 3 = .ok (.istore_n 2, 1) := by decide +kernel
theorem dX8_bits_4 : decode cX8_bits 4 = .ok (.iload_n 2, 1) := by decide +kernel
theorem dX8_bits_5 : decode cX8_bits 5 = .ok (.bipush 12, 2) := by decide +kernel
theorem dX8_bits_7 : decode cX8_bits 7 = .ok (.if_icmp .ge 17, 3) := by decide +kernel
theorem dX8_bits_10 : decode cX8_bits 10 = .ok (.iload_n 1, 1) := by decide +kernel
theorem dX8_bits_11 : decode cX8_bits 11 = .ok (.iload_n 0, 1) := by decide +kernel
theorem dX8_bits_12 : decode cX8_bits 12 = .ok (.iload_n 2, 1) := by decide +kernel
theorem dX8_bits_13 : decode cX8_bits 13 = .ok (.ishr, 1) := by decide +kernel
theorem dX8_bits_14 : decode cX8_bits 14 = .ok (.iconst 1, 1) := by decide +kernel
theorem dX8_bits_15 : decode cX8_bits 15 = .ok (.iand, 1) := by decide +kernel
theorem dX8_bits_16 : decode cX8_bits 16 = .ok (.iadd, 1) := by decide +kernel
theorem dX8_bits_17 : decode cX8_bits 17 = .ok (.istore_n 1, 1) := by decide +kernel
theorem dX8_bits_18 : decode cX8_bits 18 = .ok (.iinc 2 1, 3) := by decide +kernel
theorem dX8_bits_21 : decode cX8_bits 21 = .ok (.goto (-17), 3) := by decide +kernel
theorem dX8_bits_24 : decode cX8_bits 24 = .ok (.iload_n 1, 1) := by decide +kernel
theorem dX8_bits_25 : decode cX8_bits 25 = .ok (.ireturn, 1) := by decide +kernel
set_option maxRecDepth 20000 in
theorem ggX8_total_X8_in : GoodIn wsX8_total wsX8_in := goodIn_r _ [11] (by decide +kernel) (by decide +kernel)
set_option maxRecDepth 20000 in
theorem gX8_total_X8_in : GoodIn wsX8_total (va_wsS RX8 57 yX8_in wsX8_in) := goodIn_app (goodIn_of _ (by decide +kernel)) ggX8_total_X8_in
set_option maxRecDepth 20000 in
theorem ggX8_total_X8_place : GoodIn wsX8_total wsX8_place := goodIn_r _ [15, 16, 17, 18, 1, 19, 20, 21, 22, 23, 24, 10, 25, 26, 27, 28, 29, 30, 8, 9, 11, 31, 32, 33, 34, 35, 36, 37, 38, 39, 40, 41, 7, 42, 43, 44, 45, 46, 47, 48, 49, 50, 51, 52, 53, 54, 55, 56, 57, 58, 59, 60, 61, 62, 63, 64, 65, 6, 66, 67, 68, 69, 70, 71, 72, 73, 74, 75, 76, 77, 78, 79, 80, 81, 82, 83, 3, 2, 84, 4, 85, 93, 94, 95, 96, 97, 98, 99, 100, 101, 102, 103, 104, 105, 106, 107, 108, 109, 110, 111, 112, 113, 114] (by decide +kernel) (by decide +kernel)
set_option maxRecDepth 20000 in
theorem gX8_total_X8_place : GoodIn wsX8_total (wsV RX8 147 RX8 yX8_place wsX8_place) := goodIn_app (goodIn_of _ (by decide +kernel)) ggX8_total_X8_place
set_option maxRecDepth 20000 in
theorem ggX8_total_X8_there : GoodIn wsX8_total wsX8_there := goodIn_r _ [25, 26, 27, 28, 10, 29, 30, 8, 9, 11, 93, 94, 95, 96, 97, 98, 99, 100, 101, 102, 103, 104, 105, 106, 107, 108, 109, 110, 111, 112, 113, 114] (by decide +kernel) (by decide +kernel)
set_option maxRecDepth 20000 in
theorem gX8_total_X8_there : GoodIn wsX8_total (wsV RX8 129 RX8 yX8_there wsX8_there) := goodIn_app (goodIn_of _ (by decide +kernel)) ggX8_total_X8_there
set_option maxRecDepth 20000 in
theorem ggX8_total_X8_isThere : GoodIn wsX8_total wsX8_isThere := goodIn_r _ [29, 30, 8, 9, 10, 11, 93, 94, 95, 96, 97, 98, 99, 100, 101, 102, 103, 104, 105, 106, 107, 108, 109, 110, 111, 112, 113, 114] (by decide +kernel) (by decide +kernel)
set_option maxRecDepth 20000 in
theorem gX8_total_X8_isThere : GoodIn wsX8_total (wsV RX8 125 RX8 yX8_isThere wsX8_isThere) := goodIn_app (goodIn_of _ (by decide +kernel)) ggX8_total_X8_isThere
set_option maxRecDepth 20000 in
theorem ggX8_total_X8_linksOf : GoodIn wsX8_total wsX8_linksOf := goodIn_r _ [64, 30, 65, 6, 93, 94, 95, 96, 97, 98, 99, 100, 101, 102, 103, 104, 105, 106, 107, 108, 109, 110, 111, 112, 113, 114] (by decide +kernel) (by decide +kernel)
set_option maxRecDepth 20000 in
theorem gX8_total_X8_linksOf : GoodIn wsX8_total (wsV RX8 81 RX8 yX8_linksOf wsX8_linksOf) := goodIn_app (goodIn_of _ (by decide +kernel)) ggX8_total_X8_linksOf
set_option maxRecDepth 20000 in
theorem ggX8_total_X8_bits : GoodIn wsX8_total wsX8_bits := goodIn_r _ [88] (by decide +kernel) (by decide +kernel)
set_option maxRecDepth 20000 in
theorem gX8_total_X8_bits : GoodIn wsX8_total (va_wsS RX8 153 yX8_bits wsX8_bits) := goodIn_app (goodIn_of _ (by decide +kernel)) ggX8_total_X8_bits
set_option maxRecDepth 20000 in
theorem ggX8_total_X8_isCrossing : GoodIn wsX8_total wsX8_isCrossing := goodIn_r _ [92, 57, 58, 59, 10, 60, 30, 61, 62, 63, 64, 65, 6, 66, 67, 68, 69, 16, 70, 71, 72, 73, 93, 94, 95, 96, 97, 98, 99, 100, 101, 102, 103, 104, 105, 106, 107, 108, 109, 110, 111, 112, 113, 114] (by decide +kernel) (by decide +kernel)
set_option maxRecDepth 20000 in
theorem gX8_total_X8_isCrossing : GoodIn wsX8_total (wsV RX8 156 RX8 yX8_isCrossing wsX8_isCrossing) := goodIn_app (goodIn_of _ (by decide +kernel)) ggX8_total_X8_isCrossing
theorem dX8_total_0 : decode cX8_total 0 = .ok (.iload_n 1, 1) := by decide +kernel
theorem dX8_total_1 : decode cX8_total 1 = .ok (.iconst 0, 1) := by decide +kernel
theorem dX8_total_2 : decode cX8_total 2 = .ok (.bipush 7, 2) := by decide +kernel
theorem dX8_total_4 : decode cX8_total 4 = .ok (.invokestatic 57, 3) := by decide +kernel
theorem dX8_total_7 : decode cX8_total 7 = .ok (.ifCond .ne 6, 3) := by decide +kernel
theorem dX8_total_10 : decode cX8_total 10 = .ok (.bipush (-2), 2) := by decide +kernel
theorem dX8_total_12 : decode cX8_total 12 = .ok (.ireturn, 1) := by decide +kernel
theorem dX8_total_13 : decode cX8_total 13 = .ok (.aload_n 0, 1) := by decide +kernel
theorem dX8_total_14 : decode cX8_total 14 = .ok (.invokevirtual 147, 3) := by decide +kernel
theorem dX8_total_17 : decode cX8_total 17 = .ok (.iconst 0, 1) := by decide +kernel
theorem dX8_total_18 : decode cX8_total 18 = .ok (.istore_n 2, 1) := by decide +kernel
theorem dX8_total_19 : decode cX8_total 19 = .ok (.iload_n 1, 1) := by decide +kernel
theorem dX8_total_20 : decode cX8_total 20 = .ok (.tableswitch 228 0 6 #[44, 53, 58, 63, 104, 133, 163], 44) := by decide +kernel
theorem dX8_total_64 : decode cX8_total 64 = .ok (.aload_n 0, 1) := by decide +kernel
theorem dX8_total_65 : decode cX8_total 65 = .ok (.getfield 135, 3) := by decide +kernel
theorem dX8_total_68 : decode cX8_total 68 = .ok (.bipush 40, 2) := by decide +kernel
theorem dX8_total_70 : decode cX8_total 70 = .ok (.lshr, 1) := by decide +kernel
theorem dX8_total_71 : decode cX8_total 71 = .ok (.l2i, 1) := by decide +kernel
theorem dX8_total_72 : decode cX8_total 72 = .ok (.ireturn, 1) := by decide +kernel
theorem dX8_total_73 : decode cX8_total 73 = .ok (.aload_n 0, 1) := by decide +kernel
theorem dX8_total_74 : decode cX8_total 74 = .ok (.getfield 144, 3) := by decide +kernel
theorem dX8_total_77 : decode cX8_total 77 = .ok (.ireturn, 1) := by decide +kernel
theorem dX8_total_78 : decode cX8_total 78 = .ok (.aload_n 0, 1) := by decide +kernel
theorem dX8_total_79 : decode cX8_total 79 = .ok (.invokevirtual 129, 3) := by decide +kernel
theorem dX8_total_82 : decode cX8_total 82 = .ok (.ireturn, 1) := by decide +kernel
theorem dX8_total_83 : decode cX8_total 83 = .ok (.iconst 0, 1) := by decide +kernel
theorem dX8_total_84 : decode cX8_total 84 = .ok (.istore_n 3, 1) := by decide +kernel
theorem dX8_total_85 : decode cX8_total 85 = .ok (.iload_n 3, 1) := by decide +kernel
theorem dX8_total_86 : decode cX8_total 86 = .ok (.iconst 5, 1) := by decide +kernel
theorem dX8_total_87 : decode cX8_total 87 = .ok (.if_icmp .ge 35, 3) := by decide +kernel
theorem dX8_total_90 : decode cX8_total 90 = .ok (.iload_n 2, 1) := by decide +kernel
theorem dX8_total_91 : decode cX8_total 91 = .ok (.aload_n 0, 1) := by decide +kernel
theorem dX8_total_92 : decode cX8_total 92 = .ok (.iload_n 3, 1) := by decide +kernel
theorem dX8_total_93 : decode cX8_total 93 = .ok (.invokevirtual 125, 3) := by decide +kernel
theorem dX8_total_96 : decode cX8_total 96 = .ok (.ifCond .eq 17, 3) := by decide +kernel
theorem dX8_total_99 : decode cX8_total 99 = .ok (.aload_n 0, 1) := by decide +kernel
theorem dX8_total_100 : decode cX8_total 100 = .ok (.iload_n 3, 1) := by decide +kernel
theorem dX8_total_101 : decode cX8_total 101 = .ok (.invokevirtual 81, 3) := by decide +kernel
theorem dX8_total_104 : decode cX8_total 104 = .ok (.ifCond .ne 9, 3) := by decide +kernel
theorem dX8_total_107 : decode cX8_total 107 = .ok (.iconst 1, 1) := by decide +kernel
theorem dX8_total_108 : decode cX8_total 108 = .ok (.iload_n 3, 1) := by decide +kernel
theorem dX8_total_109 : decode cX8_total 109 = .ok (.ishl, 1) := by decide +kernel
theorem dX8_total_110 : decode cX8_total 110 = .ok (.goto 4, 3) := by decide +kernel
theorem dX8_total_113 : decode cX8_total 113 = .ok (.iconst 0, 1) := by decide +kernel
theorem dX8_total_114 : decode cX8_total 114 = .ok (.ior, 1) := by decide +kernel
theorem dX8_total_115 : decode cX8_total 115 = .ok (.istore_n 2, 1) := by decide +kernel
theorem dX8_total_116 : decode cX8_total 116 = .ok (.iinc 3 1, 3) := by decide +kernel
theorem dX8_total_119 : decode cX8_total 119 = .ok (.goto (-34), 3) := by decide +kernel
theorem dX8_total_122 : decode cX8_total 122 = .ok (.iload_n 2, 1) := by decide +kernel
theorem dX8_total_123 : decode cX8_total 123 = .ok (.ireturn, 1) := by decide +kernel
theorem dX8_total_124 : decode cX8_total 124 = .ok (.iconst 0, 1) := by decide +kernel
theorem dX8_total_125 : decode cX8_total 125 = .ok (.istore_n 3, 1) := by decide +kernel
theorem dX8_total_126 : decode cX8_total 126 = .ok (.iload_n 3, 1) := by decide +kernel
theorem dX8_total_127 : decode cX8_total 127 = .ok (.aload_n 0, 1) := by decide +kernel
theorem dX8_total_128 : decode cX8_total 128 = .ok (.getfield 72, 3) := by decide +kernel
theorem dX8_total_131 : decode cX8_total 131 = .ok (.if_icmp .ge 20, 3) := by decide +kernel
theorem dX8_total_134 : decode cX8_total 134 = .ok (.iload_n 2, 1) := by decide +kernel
theorem dX8_total_135 : decode cX8_total 135 = .ok (.iconst 1, 1) := by decide +kernel
theorem dX8_total_136 : decode cX8_total 136 = .ok (.aload_n 0, 1) := by decide +kernel
theorem dX8_total_137 : decode cX8_total 137 = .ok (.getfield 22, 3) := by decide +kernel
theorem dX8_total_140 : decode cX8_total 140 = .ok (.iload_n 3, 1) := by decide +kernel
theorem dX8_total_141 : decode cX8_total 141 = .ok (.iaload, 1) := by decide +kernel
theorem dX8_total_142 : decode cX8_total 142 = .ok (.ishl, 1) := by decide +kernel
theorem dX8_total_143 : decode cX8_total 143 = .ok (.ior, 1) := by decide +kernel
theorem dX8_total_144 : decode cX8_total 144 = .ok (.istore_n 2, 1) := by decide +kernel
theorem dX8_total_145 : decode cX8_total 145 = .ok (.iinc 3 1, 3) := by decide +kernel
theorem dX8_total_148 : decode cX8_total 148 = .ok (.goto (-22), 3) := by decide +kernel
theorem dX8_total_151 : decode cX8_total 151 = .ok (.iload_n 2, 1) := by decide +kernel
theorem dX8_total_152 : decode cX8_total 152 = .ok (.ireturn, 1) := by decide +kernel
theorem dX8_total_153 : decode cX8_total 153 = .ok (.iconst 0, 1) := by decide +kernel
theorem dX8_total_154 : decode cX8_total 154 = .ok (.istore_n 3, 1) := by decide +kernel
theorem dX8_total_155 : decode cX8_total 155 = .ok (.iload_n 3, 1) := by decide +kernel
theorem dX8_total_156 : decode cX8_total 156 = .ok (.aload_n 0, 1) := by decide +kernel
theorem dX8_total_157 : decode cX8_total 157 = .ok (.getfield 69, 3) := by decide +kernel
theorem dX8_total_160 : decode cX8_total 160 = .ok (.if_icmp .ge 21, 3) := by decide +kernel
theorem dX8_total_163 : decode cX8_total 163 = .ok (.iload_n 2, 1) := by decide +kernel
theorem dX8_total_164 : decode cX8_total 164 = .ok (.aload_n 0, 1) := by decide +kernel
theorem dX8_total_165 : decode cX8_total 165 = .ok (.getfield 25, 3) := by decide +kernel
theorem dX8_total_168 : decode cX8_total 168 = .ok (.iload_n 3, 1) := by decide +kernel
theorem dX8_total_169 : decode cX8_total 169 = .ok (.iaload, 1) := by decide +kernel
theorem dX8_total_170 : decode cX8_total 170 = .ok (.invokestatic 153, 3) := by decide +kernel
theorem dX8_total_173 : decode cX8_total 173 = .ok (.iadd, 1) := by decide +kernel
theorem dX8_total_174 : decode cX8_total 174 = .ok (.istore_n 2, 1) := by decide +kernel
theorem dX8_total_175 : decode cX8_total 175 = .ok (.iinc 3 1, 3) := by decide +kernel
theorem dX8_total_178 : decode cX8_total 178 = .ok (.goto (-23), 3) := by decide +kernel
theorem dX8_total_181 : decode cX8_total 181 = .ok (.iload_n 2, 1) := by decide +kernel
theorem dX8_total_182 : decode cX8_total 182 = .ok (.ireturn, 1) := by decide +kernel
theorem dX8_total_183 : decode cX8_total 183 = .ok (.iconst 0, 1) := by decide +kernel
theorem dX8_total_184 : decode cX8_total 184 = .ok (.istore_n 3, 1) := by decide +kernel
theorem dX8_total_185 : decode cX8_total 185 = .ok (.iload_n 3, 1) := by decide +kernel
theorem dX8_total_186 : decode cX8_total 186 = .ok (.iconst 5, 1) := by decide +kernel
theorem dX8_total_187 : decode cX8_total 187 = .ok (.if_icmp .ge 59, 3) := by decide +kernel
theorem dX8_total_190 : decode cX8_total 190 = .ok (.iconst 0, 1) := by decide +kernel
theorem dX8_total_191 : decode cX8_total 191 = .ok (.istore 4, 2) := by decide +kernel
theorem dX8_total_193 : decode cX8_total 193 = .ok (.iload 4, 2) := by decide +kernel
theorem dX8_total_195 : decode cX8_total 195 = .ok (.iload_n 3, 1) := by decide +kernel
theorem dX8_total_196 : decode cX8_total 196 = .ok (.if_icmp .ge 44, 3) := by decide +kernel
theorem dX8_total_199 : decode cX8_total 199 = .ok (.iload_n 2, 1) := by decide +kernel
theorem dX8_total_200 : decode cX8_total 200 = .ok (.aload_n 0, 1) := by decide +kernel
theorem dX8_total_201 : decode cX8_total 201 = .ok (.iload_n 3, 1) := by decide +kernel
theorem dX8_total_202 : decode cX8_total 202 = .ok (.invokevirtual 125, 3) := by decide +kernel
theorem dX8_total_205 : decode cX8_total 205 = .ok (.ifCond .eq 26, 3) := by decide +kernel
theorem dX8_total_208 : decode cX8_total 208 = .ok (.aload_n 0, 1) := by decide +kernel
theorem dX8_total_209 : decode cX8_total 209 = .ok (.iload 4, 2) := by decide +kernel
theorem dX8_total_211 : decode cX8_total 211 = .ok (.invokevirtual 125, 3) := by decide +kernel
theorem dX8_total_214 : decode cX8_total 214 = .ok (.ifCond .eq 17, 3) := by decide +kernel
theorem dX8_total_217 : decode cX8_total 217 = .ok (.aload_n 0, 1) := by decide +kernel
theorem dX8_total_218 : decode cX8_total 218 = .ok (.iload_n 3, 1) := by decide +kernel
theorem dX8_total_219 : decode cX8_total 219 = .ok (.iload 4, 2) := by decide +kernel
theorem dX8_total_221 : decode cX8_total 221 = .ok (.invokevirtual 156, 3) := by decide +kernel
theorem dX8_total_224 : decode cX8_total 224 = .ok (.ifCond .eq 7, 3) := by decide +kernel
theorem dX8_total_227 : decode cX8_total 227 = .ok (.iconst 1, 1) := by decide +kernel
theorem dX8_total_228 : decode cX8_total 228 = .ok (.goto 4, 3) := by decide +kernel
theorem dX8_total_231 : decode cX8_total 231 = .ok (.iconst 0, 1) := by decide +kernel
theorem dX8_total_232 : decode cX8_total 232 = .ok (.iadd, 1) := by decide +kernel
theorem dX8_total_233 : decode cX8_total 233 = .ok (.istore_n 2, 1) := by decide +kernel
theorem dX8_total_234 : decode cX8_total 234 = .ok (.iinc 4 1, 3) := by decide +kernel
theorem dX8_total_237 : decode cX8_total 237 = .ok (.goto (-44), 3) := by decide +kernel
theorem dX8_total_240 : decode cX8_total 240 = .ok (.iinc 3 1, 3) := by decide +kernel
theorem dX8_total_243 : decode cX8_total 243 = .ok (.goto (-58), 3) := by decide +kernel
theorem dX8_total_246 : decode cX8_total 246 = .ok (.iload_n 2, 1) := by decide +kernel
theorem dX8_total_247 : decode cX8_total 247 = .ok (.ireturn, 1) := by decide +kernel
theorem dX8_total_248 : decode cX8_total 248 = .ok (.iconst 0, 1) := by decide +kernel
theorem dX8_total_249 : decode cX8_total 249 = .ok (.istore_n 3, 1) := by decide +kernel
theorem dX8_total_250 : decode cX8_total 250 = .ok (.iload_n 3, 1) := by decide +kernel
theorem dX8_total_251 : decode cX8_total 251 = .ok (.iconst 5, 1) := by decide +kernel
theorem dX8_total_252 : decode cX8_total 252 = .ok (.if_icmp .ge 33, 3) := by decide +kernel
theorem dX8_total_255 : decode cX8_total 255 = .ok (.iload_n 2, 1) := by decide +kernel
theorem dX8_total_256 : decode cX8_total 256 = .ok (.aload_n 0, 1) := by decide +kernel
theorem dX8_total_257 : decode cX8_total 257 = .ok (.iload_n 3, 1) := by decide +kernel
theorem dX8_total_258 : decode cX8_total 258 = .ok (.invokevirtual 125, 3) := by decide +kernel
theorem dX8_total_261 : decode cX8_total 261 = .ok (.ifCond .eq 15, 3) := by decide +kernel
theorem dX8_total_264 : decode cX8_total 264 = .ok (.aload_n 0, 1) := by decide +kernel
theorem dX8_total_265 : decode cX8_total 265 = .ok (.getfield 16, 3) := by decide +kernel
theorem dX8_total_268 : decode cX8_total 268 = .ok (.iload_n 3, 1) := by decide +kernel
theorem dX8_total_269 : decode cX8_total 269 = .ok (.iaload, 1) := by decide +kernel
theorem dX8_total_270 : decode cX8_total 270 = .ok (.invokestatic 153, 3) := by decide +kernel
theorem dX8_total_273 : decode cX8_total 273 = .ok (.goto 4, 3) := by decide +kernel
theorem dX8_total_276 : decode cX8_total 276 = .ok (.iconst 0, 1) := by decide +kernel
theorem dX8_total_277 : decode cX8_total 277 = .ok (.iadd, 1) := by decide +kernel
theorem dX8_total_278 : decode cX8_total 278 = .ok (.istore_n 2, 1) := by decide +kernel
theorem dX8_total_279 : decode cX8_total 279 = .ok (.iinc 3 1, 3) := by decide +kernel
theorem dX8_total_282 : decode cX8_total 282 = .ok (.goto (-32), 3) := by decide +kernel
theorem dX8_total_285 : decode cX8_total 285 = .ok (.iload_n 2, 1) := by decide +kernel
theorem dX8_total_286 : decode cX8_total 286 = .ok (.ireturn, 1) := by decide +kernel
theorem dX8_write_0 : decode cX8_write 0 = .ok (.aload_n 0, 1) := by decide +kernel
theorem dX8_write_1 : decode cX8_write 1 = .ok (.getfield 47, 3) := by decide +kernel
theorem dX8_write_4 : decode cX8_write 4 = .ok (.aload_n 0, 1) := by decide +kernel
theorem dX8_write_5 : decode cX8_write 5 = .ok (.getfield 159, 3) := by decide +kernel
theorem dX8_write_8 : decode cX8_write 8 = .ok (.iload_n 1, 1) := by decide +kernel
theorem dX8_write_9 : decode cX8_write 9 = .ok (.iastore, 1) := by decide +kernel
theorem dX8_write_10 : decode cX8_write 10 = .ok (.aload_n 0, 1) := by decide +kernel
theorem dX8_write_11 : decode cX8_write 11 = .ok (.dup, 1) := by decide +kernel
theorem dX8_write_12 : decode cX8_write 12 = .ok (.getfield 159, 3) := by decide +kernel
theorem dX8_write_15 : decode cX8_write 15 = .ok (.iconst 1, 1) := by decide +kernel
theorem dX8_write_16 : decode cX8_write 16 = .ok (.iadd, 1) := by decide +kernel
theorem dX8_write_17 : decode cX8_write 17 = .ok (.putfield 159, 3) := by decide +kernel
theorem dX8_write_20 : decode cX8_write 20 = .ok (.return_, 1) := by decide +kernel
set_option maxRecDepth 20000 in
theorem ggX8_writeClosed_X8_isThere : GoodIn wsX8_writeClosed wsX8_isThere := goodIn_r _ [7, 8, 9, 10, 6, 11, 23, 24, 25, 26, 27, 28, 29, 30, 31, 32, 33, 34, 35, 36, 37, 38, 39, 40, 41, 42, 43, 44] (by decide +kernel) (by decide +kernel)
set_option maxRecDepth 20000 in
theorem gX8_writeClosed_X8_isThere : GoodIn wsX8_writeClosed (wsV RX8 125 RX8 yX8_isThere wsX8_isThere) := goodIn_app (goodIn_of _ (by decide +kernel)) ggX8_writeClosed_X8_isThere
set_option maxRecDepth 20000 in
theorem ggX8_writeClosed_X8_depth : GoodIn wsX8_writeClosed wsX8_depth := goodIn_r _ [15, 16, 3, 4, 5, 6, 7, 8, 9, 10, 11, 23, 24, 25, 26, 27, 28, 29, 30, 31, 32, 33, 34, 35, 36, 37, 38, 39, 40, 41, 42, 43, 44] (by decide +kernel) (by decide +kernel)
set_option maxRecDepth 20000 in
theorem gX8_writeClosed_X8_depth : GoodIn wsX8_writeClosed (wsV RX8 150 RX8 yX8_depth wsX8_depth) := goodIn_app (goodIn_of _ (by decide +kernel)) ggX8_writeClosed_X8_depth
set_option maxRecDepth 20000 in
theorem ggX8_writeClosed_X8_write : GoodIn wsX8_writeClosed wsX8_write := goodIn_r _ [20, 21, 22, 23, 24, 25, 26, 27, 28, 29, 30, 31, 32, 33, 34, 35, 36, 37, 38, 39, 40, 41, 42, 43, 44] (by decide +kernel) (by decide +kernel)
set_option maxRecDepth 20000 in
theorem gX8_writeClosed_X8_write : GoodIn wsX8_writeClosed (wsV RX8 162 RX8 yX8_write wsX8_write) := goodIn_app (goodIn_of _ (by decide +kernel)) ggX8_writeClosed_X8_write
theorem dX8_writeClosed_0 : decode cX8_writeClosed 0 = .ok (.iconst 0, 1) := by decide +kernel
theorem dX8_writeClosed_1 : decode cX8_writeClosed 1 = .ok (.istore_n 2, 1) := by decide +kernel
theorem dX8_writeClosed_2 : decode cX8_writeClosed 2 = .ok (.iconst 1, 1) := by decide +kernel
theorem dX8_writeClosed_3 : decode cX8_writeClosed 3 = .ok (.istore_n 3, 1) := by decide +kernel
theorem dX8_writeClosed_4 : decode cX8_writeClosed 4 = .ok (.iload_n 3, 1) := by decide +kernel
theorem dX8_writeClosed_5 : decode cX8_writeClosed 5 = .ok (.ifCond .eq 171, 3) := by decide +kernel
theorem dX8_writeClosed_8 : decode cX8_writeClosed 8 = .ok (.bipush (-6), 2) := by decide +kernel
theorem dX8_writeClosed_10 : decode cX8_writeClosed 10 = .ok (.istore 4, 2) := by decide +kernel
theorem dX8_writeClosed_12 : decode cX8_writeClosed 12 = .ok (.iconst 0, 1) := by decide +kernel
theorem dX8_writeClosed_13 : decode cX8_writeClosed 13 = .ok (.istore 5, 2) := by decide +kernel
theorem dX8_writeClosed_15 : decode cX8_writeClosed 15 = .ok (.iload 5, 2) := by decide +kernel
theorem dX8_writeClosed_17 : decode cX8_writeClosed 17 = .ok (.iconst 5, 1) := by decide +kernel
theorem dX8_writeClosed_18 : decode cX8_writeClosed 18 = .ok (.if_icmp .ge 124, 3) := by decide +kernel
theorem dX8_writeClosed_21 : decode cX8_writeClosed 21 = .ok (.aload_n 0, 1) := by decide +kernel
theorem dX8_writeClosed_22 : decode cX8_writeClosed 22 = .ok (.iload 5, 2) := by decide +kernel
theorem dX8_writeClosed_24 : decode cX8_writeClosed 24 = .ok (.invokevirtual 125, 3) := by decide +kernel
theorem dX8_writeClosed_27 : decode cX8_writeClosed 27 = .ok (.ifCond .eq 109, 3) := by decide +kernel
theorem dX8_writeClosed_30 : decode cX8_writeClosed 30 = .ok (.iload_n 2, 1) := by decide +kernel
theorem dX8_writeClosed_31 : decode cX8_writeClosed 31 = .ok (.iload 5, 2) := by decide +kernel
theorem dX8_writeClosed_33 : decode cX8_writeClosed 33 = .ok (.ishr, 1) := by decide +kernel
theorem dX8_writeClosed_34 : decode cX8_writeClosed 34 = .ok (.iconst 1, 1) := by decide +kernel
theorem dX8_writeClosed_35 : decode cX8_writeClosed 35 = .ok (.iand, 1) := by decide +kernel
theorem dX8_writeClosed_36 : decode cX8_writeClosed 36 = .ok (.ifCond .ne 100, 3) := by decide +kernel
theorem dX8_writeClosed_39 : decode cX8_writeClosed 39 = .ok (.aload_n 0, 1) := by decide +kernel
theorem dX8_writeClosed_40 : decode cX8_writeClosed 40 = .ok (.getfield 41, 3) := by decide +kernel
theorem dX8_writeClosed_43 : decode cX8_writeClosed 43 = .ok (.iload 5, 2) := by decide +kernel
theorem dX8_writeClosed_45 : decode cX8_writeClosed 45 = .ok (.iaload, 1) := by decide +kernel
theorem dX8_writeClosed_46 : decode cX8_writeClosed 46 = .ok (.iload_n 1, 1) := by decide +kernel
theorem dX8_writeClosed_47 : decode cX8_writeClosed 47 = .ok (.if_icmp .ne 89, 3) := by decide +kernel
theorem dX8_writeClosed_50 : decode cX8_writeClosed 50 = .ok (.aload_n 0, 1) := by decide +kernel
theorem dX8_writeClosed_51 : decode cX8_writeClosed 51 = .ok (.getfield 38, 3) := by decide +kernel
theorem dX8_writeClosed_54 : decode cX8_writeClosed 54 = .ok (.iload 5, 2) := by decide +kernel
theorem dX8_writeClosed_56 : decode cX8_writeClosed 56 = .ok (.iaload, 1) := by decide +kernel
theorem dX8_writeClosed_57 : decode cX8_writeClosed 57 = .ok (.iload_n 1, 1) := by decide +kernel
theorem dX8_writeClosed_58 : decode cX8_writeClosed 58 = .ok (.if_icmp .ge 78, 3) := by decide +kernel
theorem dX8_writeClosed_61 : decode cX8_writeClosed 61 = .ok (.iload 4, 2) := by decide +kernel
theorem dX8_writeClosed_63 : decode cX8_writeClosed 63 = .ok (.ifCond .lt 52, 3) := by decide +kernel
theorem dX8_writeClosed_66 : decode cX8_writeClosed 66 = .ok (.aload_n 0, 1) := by decide +kernel
theorem dX8_writeClosed_67 : decode cX8_writeClosed 67 = .ok (.getfield 38, 3) := by decide +kernel
theorem dX8_writeClosed_70 : decode cX8_writeClosed 70 = .ok (.iload 5, 2) := by decide +kernel
theorem dX8_writeClosed_72 : decode cX8_writeClosed 72 = .ok (.iaload, 1) := by decide +kernel
theorem dX8_writeClosed_73 : decode cX8_writeClosed 73 = .ok (.aload_n 0, 1) := by decide +kernel
theorem dX8_writeClosed_74 : decode cX8_writeClosed 74 = .ok (.getfield 38, 3) := by decide +kernel
theorem dX8_writeClosed_77 : decode cX8_writeClosed 77 = .ok (.iload 4, 2) := by decide +kernel
theorem dX8_writeClosed_79 : decode cX8_writeClosed 79 = .ok (.iaload, 1) := by decide +kernel
theorem dX8_writeClosed_80 : decode cX8_writeClosed 80 = .ok (.if_icmp .gt 35, 3) := by decide +kernel
theorem dX8_writeClosed_83 : decode cX8_writeClosed 83 = .ok (.aload_n 0, 1) := by decide +kernel
theorem dX8_writeClosed_84 : decode cX8_writeClosed 84 = .ok (.getfield 38, 3) := by decide +kernel
theorem dX8_writeClosed_87 : decode cX8_writeClosed 87 = .ok (.iload 5, 2) := by decide +kernel
theorem dX8_writeClosed_89 : decode cX8_writeClosed 89 = .ok (.iaload, 1) := by decide +kernel
theorem dX8_writeClosed_90 : decode cX8_writeClosed 90 = .ok (.aload_n 0, 1) := by decide +kernel
theorem dX8_writeClosed_91 : decode cX8_writeClosed 91 = .ok (.getfield 38, 3) := by decide +kernel
theorem dX8_writeClosed_94 : decode cX8_writeClosed 94 = .ok (.iload 4, 2) := by decide +kernel
theorem dX8_writeClosed_96 : decode cX8_writeClosed 96 = .ok (.iaload, 1) := by decide +kernel
theorem dX8_writeClosed_97 : decode cX8_writeClosed 97 = .ok (.if_icmp .ne 22, 3) := by decide +kernel
theorem dX8_writeClosed_100 : decode cX8_writeClosed 100 = .ok (.aload_n 0, 1) := by decide +kernel
theorem dX8_writeClosed_101 : decode cX8_writeClosed 101 = .ok (.iload 5, 2) := by decide +kernel
theorem dX8_writeClosed_103 : decode cX8_writeClosed 103 = .ok (.invokevirtual 150, 3) := by decide +kernel
theorem dX8_writeClosed_106 : decode cX8_writeClosed 106 = .ok (.aload_n 0, 1) := by decide +kernel
theorem dX8_writeClosed_107 : decode cX8_writeClosed 107 = .ok (.iload 4, 2) := by decide +kernel
theorem dX8_writeClosed_109 : decode cX8_writeClosed 109 = .ok (.invokevirtual 150, 3) := by decide +kernel
theorem dX8_writeClosed_112 : decode cX8_writeClosed 112 = .ok (.if_icmp .lt 7, 3) := by decide +kernel
theorem dX8_writeClosed_115 : decode cX8_writeClosed 115 = .ok (.iconst 1, 1) := by decide +kernel
theorem dX8_writeClosed_116 : decode cX8_writeClosed 116 = .ok (.goto 4, 3) := by decide +kernel
theorem dX8_writeClosed_119 : decode cX8_writeClosed 119 = .ok (.iconst 0, 1) := by decide +kernel
theorem dX8_writeClosed_120 : decode cX8_writeClosed 120 = .ok (.istore 6, 2) := by decide +kernel
theorem dX8_writeClosed_122 : decode cX8_writeClosed 122 = .ok (.iload 6, 2) := by decide +kernel
theorem dX8_writeClosed_124 : decode cX8_writeClosed 124 = .ok (.ifCond .eq 8, 3) := by decide +kernel
theorem dX8_writeClosed_127 : decode cX8_writeClosed 127 = .ok (.iload 5, 2) := by decide +kernel
theorem dX8_writeClosed_129 : decode cX8_writeClosed 129 = .ok (.goto 5, 3) := by decide +kernel
theorem dX8_writeClosed_132 : decode cX8_writeClosed 132 = .ok (.iload 4, 2) := by decide +kernel
theorem dX8_writeClosed_134 : decode cX8_writeClosed 134 = .ok (.istore 4, 2) := by decide +kernel
theorem dX8_writeClosed_136 : decode cX8_writeClosed 136 = .ok (.iinc 5 1, 3) := by decide +kernel
theorem dX8_writeClosed_139 : decode cX8_writeClosed 139 = .ok (.goto (-124), 3) := by decide +kernel
theorem dX8_writeClosed_142 : decode cX8_writeClosed 142 = .ok (.iload 4, 2) := by decide +kernel
theorem dX8_writeClosed_144 : decode cX8_writeClosed 144 = .ok (.ifCond .lt 7, 3) := by decide +kernel
theorem dX8_writeClosed_147 : decode cX8_writeClosed 147 = .ok (.iconst 1, 1) := by decide +kernel
theorem dX8_writeClosed_148 : decode cX8_writeClosed 148 = .ok (.goto 4, 3) := by decide +kernel
theorem dX8_writeClosed_151 : decode cX8_writeClosed 151 = .ok (.iconst 0, 1) := by decide +kernel
theorem dX8_writeClosed_152 : decode cX8_writeClosed 152 = .ok (.istore_n 3, 1) := by decide +kernel
theorem dX8_writeClosed_153 : decode cX8_writeClosed 153 = .ok (.iload_n 3, 1) := by decide +kernel
theorem dX8_writeClosed_154 : decode cX8_writeClosed 154 = .ok (.ifCond .eq 19, 3) := by decide +kernel
theorem dX8_writeClosed_157 : decode cX8_writeClosed 157 = .ok (.iload_n 2, 1) := by decide +kernel
theorem dX8_writeClosed_158 : decode cX8_writeClosed 158 = .ok (.iconst 1, 1) := by decide +kernel
theorem dX8_writeClosed_159 : decode cX8_writeClosed 159 = .ok (.iload 4, 2) := by decide +kernel
theorem dX8_writeClosed_161 : decode cX8_writeClosed 161 = .ok (.ishl, 1) := by decide +kernel
theorem dX8_writeClosed_162 : decode cX8_writeClosed 162 = .ok (.ior, 1) := by decide +kernel
theorem dX8_writeClosed_163 : decode cX8_writeClosed 163 = .ok (.istore_n 2, 1) := by decide +kernel
theorem dX8_writeClosed_164 : decode cX8_writeClosed 164 = .ok (.aload_n 0, 1) := by decide +kernel
theorem dX8_writeClosed_165 : decode cX8_writeClosed 165 = .ok (.bipush 97, 2) := by decide +kernel
theorem dX8_writeClosed_167 : decode cX8_writeClosed 167 = .ok (.iload 4, 2) := by decide +kernel
theorem dX8_writeClosed_169 : decode cX8_writeClosed 169 = .ok (.iadd, 1) := by decide +kernel
theorem dX8_writeClosed_170 : decode cX8_writeClosed 170 = .ok (.invokevirtual 162, 3) := by decide +kernel
theorem dX8_writeClosed_173 : decode cX8_writeClosed 173 = .ok (.goto (-169), 3) := by decide +kernel
theorem dX8_writeClosed_176 : decode cX8_writeClosed 176 = .ok (.return_, 1) := by decide +kernel
set_option maxRecDepth 20000 in
theorem ggX8_writeOpened_X8_isThere : GoodIn wsX8_writeOpened wsX8_isThere := goodIn_r _ [7, 8, 9, 10, 6, 11, 23, 24, 25, 26, 27, 28, 29, 30, 31, 32, 33, 34, 35, 36, 37, 38, 39, 40, 41, 42, 43, 44] (by decide +kernel) (by decide +kernel)
set_option maxRecDepth 20000 in
theorem gX8_writeOpened_X8_isThere : GoodIn wsX8_writeOpened (wsV RX8 125 RX8 yX8_isThere wsX8_isThere) := goodIn_app (goodIn_of _ (by decide +kernel)) ggX8_writeOpened_X8_isThere
set_option maxRecDepth 20000 in
theorem ggX8_writeOpened_X8_depth : GoodIn wsX8_writeOpened wsX8_depth := goodIn_r _ [15, 16, 3, 4, 5, 6, 7, 8, 9, 10, 11, 23, 24, 25, 26, 27, 28, 29, 30, 31, 32, 33, 34, 35, 36, 37, 38, 39, 40, 41, 42, 43, 44] (by decide +kernel) (by decide +kernel)
set_option maxRecDepth 20000 in
theorem gX8_writeOpened_X8_depth : GoodIn wsX8_writeOpened (wsV RX8 150 RX8 yX8_depth wsX8_depth) := goodIn_app (goodIn_of _ (by decide +kernel)) ggX8_writeOpened_X8_depth
set_option maxRecDepth 20000 in
theorem ggX8_writeOpened_X8_write : GoodIn wsX8_writeOpened wsX8_write := goodIn_r _ [20, 21, 22, 23, 24, 25, 26, 27, 28, 29, 30, 31, 32, 33, 34, 35, 36, 37, 38, 39, 40, 41, 42, 43, 44] (by decide +kernel) (by decide +kernel)
set_option maxRecDepth 20000 in
theorem gX8_writeOpened_X8_write : GoodIn wsX8_writeOpened (wsV RX8 162 RX8 yX8_write wsX8_write) := goodIn_app (goodIn_of _ (by decide +kernel)) ggX8_writeOpened_X8_write
theorem dX8_writeOpened_0 : decode cX8_writeOpened 0 = .ok (.iconst 0, 1) := by decide +kernel
theorem dX8_writeOpened_1 : decode cX8_writeOpened 1 = .ok (.istore_n 2, 1) := by decide +kernel
theorem dX8_writeOpened_2 : decode cX8_writeOpened 2 = .ok (.iconst 1, 1) := by decide +kernel
theorem dX8_writeOpened_3 : decode cX8_writeOpened 3 = .ok (.istore_n 3, 1) := by decide +kernel
theorem dX8_writeOpened_4 : decode cX8_writeOpened 4 = .ok (.iload_n 3, 1) := by decide +kernel
theorem dX8_writeOpened_5 : decode cX8_writeOpened 5 = .ok (.ifCond .eq 171, 3) := by decide +kernel
theorem dX8_writeOpened_8 : decode cX8_writeOpened 8 = .ok (.bipush (-6), 2) := by decide +kernel
theorem dX8_writeOpened_10 : decode cX8_writeOpened 10 = .ok (.istore 4, 2) := by decide +kernel
theorem dX8_writeOpened_12 : decode cX8_writeOpened 12 = .ok (.iconst 0, 1) := by decide +kernel
theorem dX8_writeOpened_13 : decode cX8_writeOpened 13 = .ok (.istore 5, 2) := by decide +kernel
theorem dX8_writeOpened_15 : decode cX8_writeOpened 15 = .ok (.iload 5, 2) := by decide +kernel
theorem dX8_writeOpened_17 : decode cX8_writeOpened 17 = .ok (.iconst 5, 1) := by decide +kernel
theorem dX8_writeOpened_18 : decode cX8_writeOpened 18 = .ok (.if_icmp .ge 124, 3) := by decide +kernel
theorem dX8_writeOpened_21 : decode cX8_writeOpened 21 = .ok (.aload_n 0, 1) := by decide +kernel
theorem dX8_writeOpened_22 : decode cX8_writeOpened 22 = .ok (.iload 5, 2) := by decide +kernel
theorem dX8_writeOpened_24 : decode cX8_writeOpened 24 = .ok (.invokevirtual 125, 3) := by decide +kernel
theorem dX8_writeOpened_27 : decode cX8_writeOpened 27 = .ok (.ifCond .eq 109, 3) := by decide +kernel
theorem dX8_writeOpened_30 : decode cX8_writeOpened 30 = .ok (.iload_n 2, 1) := by decide +kernel
theorem dX8_writeOpened_31 : decode cX8_writeOpened 31 = .ok (.iload 5, 2) := by decide +kernel
theorem dX8_writeOpened_33 : decode cX8_writeOpened 33 = .ok (.ishr, 1) := by decide +kernel
theorem dX8_writeOpened_34 : decode cX8_writeOpened 34 = .ok (.iconst 1, 1) := by decide +kernel
theorem dX8_writeOpened_35 : decode cX8_writeOpened 35 = .ok (.iand, 1) := by decide +kernel
theorem dX8_writeOpened_36 : decode cX8_writeOpened 36 = .ok (.ifCond .ne 100, 3) := by decide +kernel
theorem dX8_writeOpened_39 : decode cX8_writeOpened 39 = .ok (.aload_n 0, 1) := by decide +kernel
theorem dX8_writeOpened_40 : decode cX8_writeOpened 40 = .ok (.getfield 38, 3) := by decide +kernel
theorem dX8_writeOpened_43 : decode cX8_writeOpened 43 = .ok (.iload 5, 2) := by decide +kernel
theorem dX8_writeOpened_45 : decode cX8_writeOpened 45 = .ok (.iaload, 1) := by decide +kernel
theorem dX8_writeOpened_46 : decode cX8_writeOpened 46 = .ok (.iload_n 1, 1) := by decide +kernel
theorem dX8_writeOpened_47 : decode cX8_writeOpened 47 = .ok (.if_icmp .ne 89, 3) := by decide +kernel
theorem dX8_writeOpened_50 : decode cX8_writeOpened 50 = .ok (.aload_n 0, 1) := by decide +kernel
theorem dX8_writeOpened_51 : decode cX8_writeOpened 51 = .ok (.getfield 41, 3) := by decide +kernel
theorem dX8_writeOpened_54 : decode cX8_writeOpened 54 = .ok (.iload 5, 2) := by decide +kernel
theorem dX8_writeOpened_56 : decode cX8_writeOpened 56 = .ok (.iaload, 1) := by decide +kernel
theorem dX8_writeOpened_57 : decode cX8_writeOpened 57 = .ok (.iload_n 1, 1) := by decide +kernel
theorem dX8_writeOpened_58 : decode cX8_writeOpened 58 = .ok (.if_icmp .le 78, 3) := by decide +kernel
theorem dX8_writeOpened_61 : decode cX8_writeOpened 61 = .ok (.iload 4, 2) := by decide +kernel
theorem dX8_writeOpened_63 : decode cX8_writeOpened 63 = .ok (.ifCond .lt 52, 3) := by decide +kernel
theorem dX8_writeOpened_66 : decode cX8_writeOpened 66 = .ok (.aload_n 0, 1) := by decide +kernel
theorem dX8_writeOpened_67 : decode cX8_writeOpened 67 = .ok (.getfield 41, 3) := by decide +kernel
theorem dX8_writeOpened_70 : decode cX8_writeOpened 70 = .ok (.iload 5, 2) := by decide +kernel
theorem dX8_writeOpened_72 : decode cX8_writeOpened 72 = .ok (.iaload, 1) := by decide +kernel
theorem dX8_writeOpened_73 : decode cX8_writeOpened 73 = .ok (.aload_n 0, 1) := by decide +kernel
theorem dX8_writeOpened_74 : decode cX8_writeOpened 74 = .ok (.getfield 41, 3) := by decide +kernel
theorem dX8_writeOpened_77 : decode cX8_writeOpened 77 = .ok (.iload 4, 2) := by decide +kernel
theorem dX8_writeOpened_79 : decode cX8_writeOpened 79 = .ok (.iaload, 1) := by decide +kernel
theorem dX8_writeOpened_80 : decode cX8_writeOpened 80 = .ok (.if_icmp .gt 35, 3) := by decide +kernel
theorem dX8_writeOpened_83 : decode cX8_writeOpened 83 = .ok (.aload_n 0, 1) := by decide +kernel
theorem dX8_writeOpened_84 : decode cX8_writeOpened 84 = .ok (.getfield 41, 3) := by decide +kernel
theorem dX8_writeOpened_87 : decode cX8_writeOpened 87 = .ok (.iload 5, 2) := by decide +kernel
theorem dX8_writeOpened_89 : decode cX8_writeOpened 89 = .ok (.iaload, 1) := by decide +kernel
theorem dX8_writeOpened_90 : decode cX8_writeOpened 90 = .ok (.aload_n 0, 1) := by decide +kernel
theorem dX8_writeOpened_91 : decode cX8_writeOpened 91 = .ok (.getfield 41, 3) := by decide +kernel
theorem dX8_writeOpened_94 : decode cX8_writeOpened 94 = .ok (.iload 4, 2) := by decide +kernel
theorem dX8_writeOpened_96 : decode cX8_writeOpened 96 = .ok (.iaload, 1) := by decide +kernel
theorem dX8_writeOpened_97 : decode cX8_writeOpened 97 = .ok (.if_icmp .ne 22, 3) := by decide +kernel
theorem dX8_writeOpened_100 : decode cX8_writeOpened 100 = .ok (.aload_n 0, 1) := by decide +kernel
theorem dX8_writeOpened_101 : decode cX8_writeOpened 101 = .ok (.iload 5, 2) := by decide +kernel
theorem dX8_writeOpened_103 : decode cX8_writeOpened 103 = .ok (.invokevirtual 150, 3) := by decide +kernel
theorem dX8_writeOpened_106 : decode cX8_writeOpened 106 = .ok (.aload_n 0, 1) := by decide +kernel
theorem dX8_writeOpened_107 : decode cX8_writeOpened 107 = .ok (.iload 4, 2) := by decide +kernel
theorem dX8_writeOpened_109 : decode cX8_writeOpened 109 = .ok (.invokevirtual 150, 3) := by decide +kernel
theorem dX8_writeOpened_112 : decode cX8_writeOpened 112 = .ok (.if_icmp .ge 7, 3) := by decide +kernel
theorem dX8_writeOpened_115 : decode cX8_writeOpened 115 = .ok (.iconst 1, 1) := by decide +kernel
theorem dX8_writeOpened_116 : decode cX8_writeOpened 116 = .ok (.goto 4, 3) := by decide +kernel
theorem dX8_writeOpened_119 : decode cX8_writeOpened 119 = .ok (.iconst 0, 1) := by decide +kernel
theorem dX8_writeOpened_120 : decode cX8_writeOpened 120 = .ok (.istore 6, 2) := by decide +kernel
theorem dX8_writeOpened_122 : decode cX8_writeOpened 122 = .ok (.iload 6, 2) := by decide +kernel
theorem dX8_writeOpened_124 : decode cX8_writeOpened 124 = .ok (.ifCond .eq 8, 3) := by decide +kernel
theorem dX8_writeOpened_127 : decode cX8_writeOpened 127 = .ok (.iload 5, 2) := by decide +kernel
theorem dX8_writeOpened_129 : decode cX8_writeOpened 129 = .ok (.goto 5, 3) := by decide +kernel
theorem dX8_writeOpened_132 : decode cX8_writeOpened 132 = .ok (.iload 4, 2) := by decide +kernel
theorem dX8_writeOpened_134 : decode cX8_writeOpened 134 = .ok (.istore 4, 2) := by decide +kernel
theorem dX8_writeOpened_136 : decode cX8_writeOpened 136 = .ok (.iinc 5 1, 3) := by decide +kernel
theorem dX8_writeOpened_139 : decode cX8_writeOpened 139 = .ok (.goto (-124), 3) := by decide +kernel
theorem dX8_writeOpened_142 : decode cX8_writeOpened 142 = .ok (.iload 4, 2) := by decide +kernel
theorem dX8_writeOpened_144 : decode cX8_writeOpened 144 = .ok (.ifCond .lt 7, 3) := by decide +kernel
theorem dX8_writeOpened_147 : decode cX8_writeOpened 147 = .ok (.iconst 1, 1) := by decide +kernel
theorem dX8_writeOpened_148 : decode cX8_writeOpened 148 = .ok (.goto 4, 3) := by decide +kernel
theorem dX8_writeOpened_151 : decode cX8_writeOpened 151 = .ok (.iconst 0, 1) := by decide +kernel
theorem dX8_writeOpened_152 : decode cX8_writeOpened 152 = .ok (.istore_n 3, 1) := by decide +kernel
theorem dX8_writeOpened_153 : decode cX8_writeOpened 153 = .ok (.iload_n 3, 1) := by decide +kernel
theorem dX8_writeOpened_154 : decode cX8_writeOpened 154 = .ok (.ifCond .eq 19, 3) := by decide +kernel
theorem dX8_writeOpened_157 : decode cX8_writeOpened 157 = .ok (.iload_n 2, 1) := by decide +kernel
theorem dX8_writeOpened_158 : decode cX8_writeOpened 158 = .ok (.iconst 1, 1) := by decide +kernel
theorem dX8_writeOpened_159 : decode cX8_writeOpened 159 = .ok (.iload 4, 2) := by decide +kernel
theorem dX8_writeOpened_161 : decode cX8_writeOpened 161 = .ok (.ishl, 1) := by decide +kernel
theorem dX8_writeOpened_162 : decode cX8_writeOpened 162 = .ok (.ior, 1) := by decide +kernel
theorem dX8_writeOpened_163 : decode cX8_writeOpened 163 = .ok (.istore_n 2, 1) := by decide +kernel
theorem dX8_writeOpened_164 : decode cX8_writeOpened 164 = .ok (.aload_n 0, 1) := by decide +kernel
theorem dX8_writeOpened_165 : decode cX8_writeOpened 165 = .ok (.bipush 65, 2) := by decide +kernel
theorem dX8_writeOpened_167 : decode cX8_writeOpened 167 = .ok (.iload 4, 2) := by decide +kernel
theorem dX8_writeOpened_169 : decode cX8_writeOpened 169 = .ok (.iadd, 1) := by decide +kernel
theorem dX8_writeOpened_170 : decode cX8_writeOpened 170 = .ok (.invokevirtual 162, 3) := by decide +kernel
theorem dX8_writeOpened_173 : decode cX8_writeOpened 173 = .ok (.goto (-169), 3) := by decide +kernel
theorem dX8_writeOpened_176 : decode cX8_writeOpened 176 = .ok (.return_, 1) := by decide +kernel
set_option maxRecDepth 20000 in
theorem ggX8_stand_X8_isThere : GoodIn wsX8_stand wsX8_isThere := goodIn_r _ [8, 9, 10, 11, 7, 12, 13, 14, 15, 16, 17, 18, 19, 20, 21, 22, 23, 24, 25, 26, 27, 28, 29, 30, 31, 32, 33, 34] (by decide +kernel) (by decide +kernel)
set_option maxRecDepth 20000 in
theorem gX8_stand_X8_isThere : GoodIn wsX8_stand (wsV RX8 125 RX8 yX8_isThere wsX8_isThere) := goodIn_app (goodIn_of _ (by decide +kernel)) ggX8_stand_X8_isThere
theorem dX8_stand_0 : decode cX8_stand 0 = .ok (.iconst 1, 1) := by decide +kernel
theorem dX8_stand_1 : decode cX8_stand 1 = .ok (.istore_n 3, 1) := by decide +kernel
theorem dX8_stand_2 : decode cX8_stand 2 = .ok (.iconst 0, 1) := by decide +kernel
theorem dX8_stand_3 : decode cX8_stand 3 = .ok (.istore 4, 2) := by decide +kernel
theorem dX8_stand_5 : decode cX8_stand 5 = .ok (.iload 4, 2) := by decide +kernel
theorem dX8_stand_7 : decode cX8_stand 7 = .ok (.iconst 5, 1) := by decide +kernel
theorem dX8_stand_8 : decode cX8_stand 8 = .ok (.if_icmp .ge 106, 3) := by decide +kernel
theorem dX8_stand_11 : decode cX8_stand 11 = .ok (.aload_n 0, 1) := by decide +kernel
theorem dX8_stand_12 : decode cX8_stand 12 = .ok (.iload 4, 2) := by decide +kernel
theorem dX8_stand_14 : decode cX8_stand 14 = .ok (.invokevirtual 125, 3) := by decide +kernel
theorem dX8_stand_17 : decode cX8_stand 17 = .ok (.ifCond .eq 39, 3) := by decide +kernel
theorem dX8_stand_20 : decode cX8_stand 20 = .ok (.aload_n 0, 1) := by decide +kernel
theorem dX8_stand_21 : decode cX8_stand 21 = .ok (.getfield 16, 3) := by decide +kernel
theorem dX8_stand_24 : decode cX8_stand 24 = .ok (.iload 4, 2) := by decide +kernel
theorem dX8_stand_26 : decode cX8_stand 26 = .ok (.iaload, 1) := by decide +kernel
theorem dX8_stand_27 : decode cX8_stand 27 = .ok (.iload_n 2, 1) := by decide +kernel
theorem dX8_stand_28 : decode cX8_stand 28 = .ok (.ishr, 1) := by decide +kernel
theorem dX8_stand_29 : decode cX8_stand 29 = .ok (.iconst 1, 1) := by decide +kernel
theorem dX8_stand_30 : decode cX8_stand 30 = .ok (.iand, 1) := by decide +kernel
theorem dX8_stand_31 : decode cX8_stand 31 = .ok (.iconst 1, 1) := by decide +kernel
theorem dX8_stand_32 : decode cX8_stand 32 = .ok (.if_icmp .ne 24, 3) := by decide +kernel
theorem dX8_stand_35 : decode cX8_stand 35 = .ok (.aload_n 0, 1) := by decide +kernel
theorem dX8_stand_36 : decode cX8_stand 36 = .ok (.getfield 38, 3) := by decide +kernel
theorem dX8_stand_39 : decode cX8_stand 39 = .ok (.iload 4, 2) := by decide +kernel
theorem dX8_stand_41 : decode cX8_stand 41 = .ok (.iaload, 1) := by decide +kernel
theorem dX8_stand_42 : decode cX8_stand 42 = .ok (.aload_n 0, 1) := by decide +kernel
theorem dX8_stand_43 : decode cX8_stand 43 = .ok (.getfield 41, 3) := by decide +kernel
theorem dX8_stand_46 : decode cX8_stand 46 = .ok (.iload 4, 2) := by decide +kernel
theorem dX8_stand_48 : decode cX8_stand 48 = .ok (.iaload, 1) := by decide +kernel
theorem dX8_stand_49 : decode cX8_stand 49 = .ok (.if_icmp .ge 7, 3) := by decide +kernel
theorem dX8_stand_52 : decode cX8_stand 52 = .ok (.iconst 1, 1) := by decide +kernel
theorem dX8_stand_53 : decode cX8_stand 53 = .ok (.goto 4, 3) := by decide +kernel
theorem dX8_stand_56 : decode cX8_stand 56 = .ok (.iconst 0, 1) := by decide +kernel
theorem dX8_stand_57 : decode cX8_stand 57 = .ok (.istore 5, 2) := by decide +kernel
theorem dX8_stand_59 : decode cX8_stand 59 = .ok (.iload 5, 2) := by decide +kernel
theorem dX8_stand_61 : decode cX8_stand 61 = .ok (.ifCond .eq 23, 3) := by decide +kernel
theorem dX8_stand_64 : decode cX8_stand 64 = .ok (.aload_n 0, 1) := by decide +kernel
theorem dX8_stand_65 : decode cX8_stand 65 = .ok (.getfield 38, 3) := by decide +kernel
theorem dX8_stand_68 : decode cX8_stand 68 = .ok (.iload 4, 2) := by decide +kernel
theorem dX8_stand_70 : decode cX8_stand 70 = .ok (.iaload, 1) := by decide +kernel
theorem dX8_stand_71 : decode cX8_stand 71 = .ok (.iload_n 1, 1) := by decide +kernel
theorem dX8_stand_72 : decode cX8_stand 72 = .ok (.if_icmp .ne 12, 3) := by decide +kernel
theorem dX8_stand_75 : decode cX8_stand 75 = .ok (.iload_n 3, 1) := by decide +kernel
theorem dX8_stand_76 : decode cX8_stand 76 = .ok (.iconst 1, 1) := by decide +kernel
theorem dX8_stand_77 : decode cX8_stand 77 = .ok (.if_icmp .ne 7, 3) := by decide +kernel
theorem dX8_stand_80 : decode cX8_stand 80 = .ok (.iconst 2, 1) := by decide +kernel
theorem dX8_stand_81 : decode cX8_stand 81 = .ok (.goto 4, 3) := by decide +kernel
theorem dX8_stand_84 : decode cX8_stand 84 = .ok (.iload_n 3, 1) := by decide +kernel
theorem dX8_stand_85 : decode cX8_stand 85 = .ok (.istore_n 3, 1) := by decide +kernel
theorem dX8_stand_86 : decode cX8_stand 86 = .ok (.iload 5, 2) := by decide +kernel
theorem dX8_stand_88 : decode cX8_stand 88 = .ok (.ifCond .eq 18, 3) := by decide +kernel
theorem dX8_stand_91 : decode cX8_stand 91 = .ok (.aload_n 0, 1) := by decide +kernel
theorem dX8_stand_92 : decode cX8_stand 92 = .ok (.getfield 41, 3) := by decide +kernel
theorem dX8_stand_95 : decode cX8_stand 95 = .ok (.iload 4, 2) := by decide +kernel
theorem dX8_stand_97 : decode cX8_stand 97 = .ok (.iaload, 1) := by decide +kernel
theorem dX8_stand_98 : decode cX8_stand 98 = .ok (.iload_n 1, 1) := by decide +kernel
theorem dX8_stand_99 : decode cX8_stand 99 = .ok (.if_icmp .ne 7, 3) := by decide +kernel
theorem dX8_stand_102 : decode cX8_stand 102 = .ok (.iconst 0, 1) := by decide +kernel
theorem dX8_stand_103 : decode cX8_stand 103 = .ok (.goto 4, 3) := by decide +kernel
theorem dX8_stand_106 : decode cX8_stand 106 = .ok (.iload_n 3, 1) := by decide +kernel
theorem dX8_stand_107 : decode cX8_stand 107 = .ok (.istore_n 3, 1) := by decide +kernel
theorem dX8_stand_108 : decode cX8_stand 108 = .ok (.iinc 4 1, 3) := by decide +kernel
theorem dX8_stand_111 : decode cX8_stand 111 = .ok (.goto (-106), 3) := by decide +kernel
theorem dX8_stand_114 : decode cX8_stand 114 = .ok (.iload_n 3, 1) := by decide +kernel
theorem dX8_stand_115 : decode cX8_stand 115 = .ok (.ireturn, 1) := by decide +kernel
set_option maxRecDepth 20000 in
theorem ggX8_writeEmpty_X8_isThere : GoodIn wsX8_writeEmpty wsX8_isThere := goodIn_r _ [7, 8, 9, 10, 6, 11, 23, 24, 25, 26, 27, 28, 29, 30, 31, 32, 33, 34, 35, 36, 37, 38, 39, 40, 41, 42, 43, 44] (by decide +kernel) (by decide +kernel)
set_option maxRecDepth 20000 in
theorem gX8_writeEmpty_X8_isThere : GoodIn wsX8_writeEmpty (wsV RX8 125 RX8 yX8_isThere wsX8_isThere) := goodIn_app (goodIn_of _ (by decide +kernel)) ggX8_writeEmpty_X8_isThere
set_option maxRecDepth 20000 in
theorem ggX8_writeEmpty_X8_stand : GoodIn wsX8_writeEmpty wsX8_stand := goodIn_r _ [15, 16, 1, 2, 3, 4, 5, 6, 7, 8, 9, 10, 11, 23, 24, 25, 26, 27, 28, 29, 30, 31, 32, 33, 34, 35, 36, 37, 38, 39, 40, 41, 42, 43, 44] (by decide +kernel) (by decide +kernel)
set_option maxRecDepth 20000 in
theorem gX8_writeEmpty_X8_stand : GoodIn wsX8_writeEmpty (wsV RX8 166 RX8 yX8_stand wsX8_stand) := goodIn_app (goodIn_of _ (by decide +kernel)) ggX8_writeEmpty_X8_stand
set_option maxRecDepth 20000 in
theorem ggX8_writeEmpty_X8_write : GoodIn wsX8_writeEmpty wsX8_write := goodIn_r _ [20, 21, 22, 23, 24, 25, 26, 27, 28, 29, 30, 31, 32, 33, 34, 35, 36, 37, 38, 39, 40, 41, 42, 43, 44] (by decide +kernel) (by decide +kernel)
set_option maxRecDepth 20000 in
theorem gX8_writeEmpty_X8_write : GoodIn wsX8_writeEmpty (wsV RX8 162 RX8 yX8_write wsX8_write) := goodIn_app (goodIn_of _ (by decide +kernel)) ggX8_writeEmpty_X8_write
theorem dX8_writeEmpty_0 : decode cX8_writeEmpty 0 = .ok (.iconst 0, 1) := by decide +kernel
theorem dX8_writeEmpty_1 : decode cX8_writeEmpty 1 = .ok (.istore_n 3, 1) := by decide +kernel
theorem dX8_writeEmpty_2 : decode cX8_writeEmpty 2 = .ok (.iload_n 3, 1) := by decide +kernel
theorem dX8_writeEmpty_3 : decode cX8_writeEmpty 3 = .ok (.iconst 5, 1) := by decide +kernel
theorem dX8_writeEmpty_4 : decode cX8_writeEmpty 4 = .ok (.if_icmp .ge 63, 3) := by decide +kernel
theorem dX8_writeEmpty_7 : decode cX8_writeEmpty 7 = .ok (.aload_n 0, 1) := by decide +kernel
theorem dX8_writeEmpty_8 : decode cX8_writeEmpty 8 = .ok (.iload_n 3, 1) := by decide +kernel
theorem dX8_writeEmpty_9 : decode cX8_writeEmpty 9 = .ok (.invokevirtual 125, 3) := by decide +kernel
theorem dX8_writeEmpty_12 : decode cX8_writeEmpty 12 = .ok (.ifCond .eq 49, 3) := by decide +kernel
theorem dX8_writeEmpty_15 : decode cX8_writeEmpty 15 = .ok (.aload_n 0, 1) := by decide +kernel
theorem dX8_writeEmpty_16 : decode cX8_writeEmpty 16 = .ok (.getfield 38, 3) := by decide +kernel
theorem dX8_writeEmpty_19 : decode cX8_writeEmpty 19 = .ok (.iload_n 3, 1) := by decide +kernel
theorem dX8_writeEmpty_20 : decode cX8_writeEmpty 20 = .ok (.iaload, 1) := by decide +kernel
theorem dX8_writeEmpty_21 : decode cX8_writeEmpty 21 = .ok (.iload_n 1, 1) := by decide +kernel
theorem dX8_writeEmpty_22 : decode cX8_writeEmpty 22 = .ok (.if_icmp .ne 39, 3) := by decide +kernel
theorem dX8_writeEmpty_25 : decode cX8_writeEmpty 25 = .ok (.aload_n 0, 1) := by decide +kernel
theorem dX8_writeEmpty_26 : decode cX8_writeEmpty 26 = .ok (.getfield 41, 3) := by decide +kernel
theorem dX8_writeEmpty_29 : decode cX8_writeEmpty 29 = .ok (.iload_n 3, 1) := by decide +kernel
theorem dX8_writeEmpty_30 : decode cX8_writeEmpty 30 = .ok (.iaload, 1) := by decide +kernel
theorem dX8_writeEmpty_31 : decode cX8_writeEmpty 31 = .ok (.iload_n 1, 1) := by decide +kernel
theorem dX8_writeEmpty_32 : decode cX8_writeEmpty 32 = .ok (.if_icmp .ne 29, 3) := by decide +kernel
theorem dX8_writeEmpty_35 : decode cX8_writeEmpty 35 = .ok (.aload_n 0, 1) := by decide +kernel
theorem dX8_writeEmpty_36 : decode cX8_writeEmpty 36 = .ok (.iload_n 1, 1) := by decide +kernel
theorem dX8_writeEmpty_37 : decode cX8_writeEmpty 37 = .ok (.iload_n 3, 1) := by decide +kernel
theorem dX8_writeEmpty_38 : decode cX8_writeEmpty 38 = .ok (.invokevirtual 166, 3) := by decide +kernel
theorem dX8_writeEmpty_41 : decode cX8_writeEmpty 41 = .ok (.iload_n 2, 1) := by decide +kernel
theorem dX8_writeEmpty_42 : decode cX8_writeEmpty 42 = .ok (.if_icmp .ne 19, 3) := by decide +kernel
theorem dX8_writeEmpty_45 : decode cX8_writeEmpty 45 = .ok (.aload_n 0, 1) := by decide +kernel
theorem dX8_writeEmpty_46 : decode cX8_writeEmpty 46 = .ok (.bipush 65, 2) := by decide +kernel
theorem dX8_writeEmpty_48 : decode cX8_writeEmpty 48 = .ok (.iload_n 3, 1) := by decide +kernel
theorem dX8_writeEmpty_49 : decode cX8_writeEmpty 49 = .ok (.iadd, 1) := by decide +kernel
theorem dX8_writeEmpty_50 : decode cX8_writeEmpty 50 = .ok (.invokevirtual 162, 3) := by decide +kernel
theorem dX8_writeEmpty_53 : decode cX8_writeEmpty 53 = .ok (.aload_n 0, 1) := by decide +kernel
theorem dX8_writeEmpty_54 : decode cX8_writeEmpty 54 = .ok (.bipush 97, 2) := by decide +kernel
theorem dX8_writeEmpty_56 : decode cX8_writeEmpty 56 = .ok (.iload_n 3, 1) := by decide +kernel
theorem dX8_writeEmpty_57 : decode cX8_writeEmpty 57 = .ok (.iadd, 1) := by decide +kernel
theorem dX8_writeEmpty_58 : decode cX8_writeEmpty 58 = .ok (.invokevirtual 162, 3) := by decide +kernel
theorem dX8_writeEmpty_61 : decode cX8_writeEmpty 61 = .ok (.iinc 3 1, 3) := by decide +kernel
theorem dX8_writeEmpty_64 : decode cX8_writeEmpty 64 = .ok (.goto (-62), 3) := by decide +kernel
theorem dX8_writeEmpty_67 : decode cX8_writeEmpty 67 = .ok (.return_, 1) := by decide +kernel
set_option maxRecDepth 20000 in
theorem ggX8_sign_X8_place : GoodIn wsX8_sign wsX8_place := goodIn_r _ [11, 2, 12, 13, 14, 15, 16, 17, 18, 19, 20, 10, 21, 22, 23, 24, 25, 26, 27, 28, 29, 30, 31, 32, 33, 34, 35, 36, 37, 38, 39, 40, 41, 42, 43, 44, 45, 46, 47, 48, 49, 50, 51, 52, 53, 54, 55, 56, 57, 58, 59, 60, 61, 62, 63, 64, 65, 66, 67, 68, 69, 70, 71, 72, 73, 74, 75, 76, 77, 78, 79, 80, 81, 82, 83, 84, 3, 85, 86, 5, 4, 111, 112, 113, 114, 115, 116, 117, 118, 119, 120, 121, 122, 123, 124, 125, 126, 127, 128, 129, 130, 131, 132] (by decide +kernel) (by decide +kernel)
set_option maxRecDepth 20000 in
theorem gX8_sign_X8_place : GoodIn wsX8_sign (wsV RX8 147 RX8 yX8_place wsX8_place) := goodIn_app (goodIn_of _ (by decide +kernel)) ggX8_sign_X8_place
set_option maxRecDepth 20000 in
theorem ggX8_sign_X8_writeEmpty : GoodIn wsX8_sign wsX8_writeEmpty := goodIn_r _ [90, 16, 17, 22, 23, 24, 10, 25, 26, 27, 28, 29, 91, 92, 93, 94, 41, 95, 96, 97, 98, 6, 1, 111, 112, 113, 114, 115, 116, 117, 118, 119, 120, 121, 122, 123, 124, 125, 126, 127, 128, 129, 130, 131, 132] (by decide +kernel) (by decide +kernel)
set_option maxRecDepth 20000 in
theorem gX8_sign_X8_writeEmpty : GoodIn wsX8_sign (wsV RX8 169 RX8 yX8_writeEmpty wsX8_writeEmpty) := goodIn_app (goodIn_of _ (by decide +kernel)) ggX8_sign_X8_writeEmpty
set_option maxRecDepth 20000 in
theorem ggX8_sign_X8_writeClosed : GoodIn wsX8_sign wsX8_writeClosed := goodIn_r _ [102, 17, 16, 22, 23, 24, 10, 25, 26, 27, 28, 29, 103, 104, 105, 106, 41, 95, 96, 97, 98, 6, 1, 111, 112, 113, 114, 115, 116, 117, 118, 119, 120, 121, 122, 123, 124, 125, 126, 127, 128, 129, 130, 131, 132] (by decide +kernel) (by decide +kernel)
set_option maxRecDepth 20000 in
theorem gX8_sign_X8_writeClosed : GoodIn wsX8_sign (wsV RX8 173 RX8 yX8_writeClosed wsX8_writeClosed) := goodIn_app (goodIn_of _ (by decide +kernel)) ggX8_sign_X8_writeClosed
set_option maxRecDepth 20000 in
theorem ggX8_sign_X8_write : GoodIn wsX8_sign wsX8_write := goodIn_r _ [98, 6, 1, 111, 112, 113, 114, 115, 116, 117, 118, 119, 120, 121, 122, 123, 124, 125, 126, 127, 128, 129, 130, 131, 132] (by decide +kernel) (by decide +kernel)
set_option maxRecDepth 20000 in
theorem gX8_sign_X8_write : GoodIn wsX8_sign (wsV RX8 162 RX8 yX8_write wsX8_write) := goodIn_app (goodIn_of _ (by decide +kernel)) ggX8_sign_X8_write
set_option maxRecDepth 20000 in
theorem ggX8_sign_X8_writeOpened : GoodIn wsX8_sign wsX8_writeOpened := goodIn_r _ [110, 16, 17, 22, 23, 24, 10, 25, 26, 27, 28, 29, 103, 104, 105, 106, 41, 95, 96, 97, 98, 6, 1, 111, 112, 113, 114, 115, 116, 117, 118, 119, 120, 121, 122, 123, 124, 125, 126, 127, 128, 129, 130, 131, 132] (by decide +kernel) (by decide +kernel)
set_option maxRecDepth 20000 in
theorem gX8_sign_X8_writeOpened : GoodIn wsX8_sign (wsV RX8 176 RX8 yX8_writeOpened wsX8_writeOpened) := goodIn_app (goodIn_of _ (by decide +kernel)) ggX8_sign_X8_writeOpened
set_option maxRecDepth 20000 in
theorem ggX8_sign_X8_in : GoodIn wsX8_sign wsX8_in := goodIn_r _ [29] (by decide +kernel) (by decide +kernel)
set_option maxRecDepth 20000 in
theorem gX8_sign_X8_in : GoodIn wsX8_sign (va_wsS RX8 57 yX8_in wsX8_in) := goodIn_app (goodIn_of _ (by decide +kernel)) ggX8_sign_X8_in
theorem dX8_sign_0 : decode cX8_sign 0 = .ok (.aload_n 0, 1) := by decide +kernel
theorem dX8_sign_1 : decode cX8_sign 1 = .ok (.invokevirtual 147, 3) := by decide +kernel
theorem dX8_sign_4 : decode cX8_sign 4 = .ok (.aload_n 0, 1) := by decide +kernel
theorem dX8_sign_5 : decode cX8_sign 5 = .ok (.iconst 0, 1) := by decide +kernel
theorem dX8_sign_6 : decode cX8_sign 6 = .ok (.putfield 159, 3) := by decide +kernel
theorem dX8_sign_9 : decode cX8_sign 9 = .ok (.iconst 0, 1) := by decide +kernel
theorem dX8_sign_10 : decode cX8_sign 10 = .ok (.istore_n 2, 1) := by decide +kernel
theorem dX8_sign_11 : decode cX8_sign 11 = .ok (.iload_n 2, 1) := by decide +kernel
theorem dX8_sign_12 : decode cX8_sign 12 = .ok (.aload_n 0, 1) := by decide +kernel
theorem dX8_sign_13 : decode cX8_sign 13 = .ok (.getfield 78, 3) := by decide +kernel
theorem dX8_sign_16 : decode cX8_sign 16 = .ok (.if_icmp .gt 95, 3) := by decide +kernel
theorem dX8_sign_19 : decode cX8_sign 19 = .ok (.aload_n 0, 1) := by decide +kernel
theorem dX8_sign_20 : decode cX8_sign 20 = .ok (.iload_n 2, 1) := by decide +kernel
theorem dX8_sign_21 : decode cX8_sign 21 = .ok (.iconst 0, 1) := by decide +kernel
theorem dX8_sign_22 : decode cX8_sign 22 = .ok (.invokevirtual 169, 3) := by decide +kernel
theorem dX8_sign_25 : decode cX8_sign 25 = .ok (.aload_n 0, 1) := by decide +kernel
theorem dX8_sign_26 : decode cX8_sign 26 = .ok (.iload_n 2, 1) := by decide +kernel
theorem dX8_sign_27 : decode cX8_sign 27 = .ok (.invokevirtual 173, 3) := by decide +kernel
theorem dX8_sign_30 : decode cX8_sign 30 = .ok (.iconst 0, 1) := by decide +kernel
theorem dX8_sign_31 : decode cX8_sign 31 = .ok (.istore_n 3, 1) := by decide +kernel
theorem dX8_sign_32 : decode cX8_sign 32 = .ok (.iload_n 3, 1) := by decide +kernel
theorem dX8_sign_33 : decode cX8_sign 33 = .ok (.aload_n 0, 1) := by decide +kernel
theorem dX8_sign_34 : decode cX8_sign 34 = .ok (.getfield 72, 3) := by decide +kernel
theorem dX8_sign_37 : decode cX8_sign 37 = .ok (.if_icmp .ge 37, 3) := by decide +kernel
theorem dX8_sign_40 : decode cX8_sign 40 = .ok (.aload_n 0, 1) := by decide +kernel
theorem dX8_sign_41 : decode cX8_sign 41 = .ok (.getfield 44, 3) := by decide +kernel
theorem dX8_sign_44 : decode cX8_sign 44 = .ok (.aload_n 0, 1) := by decide +kernel
theorem dX8_sign_45 : decode cX8_sign 45 = .ok (.getfield 22, 3) := by decide +kernel
theorem dX8_sign_48 : decode cX8_sign 48 = .ok (.iload_n 3, 1) := by decide +kernel
theorem dX8_sign_49 : decode cX8_sign 49 = .ok (.iaload, 1) := by decide +kernel
theorem dX8_sign_50 : decode cX8_sign 50 = .ok (.iaload, 1) := by decide +kernel
theorem dX8_sign_51 : decode cX8_sign 51 = .ok (.iload_n 2, 1) := by decide +kernel
theorem dX8_sign_52 : decode cX8_sign 52 = .ok (.if_icmp .ne 16, 3) := by decide +kernel
theorem dX8_sign_55 : decode cX8_sign 55 = .ok (.aload_n 0, 1) := by decide +kernel
theorem dX8_sign_56 : decode cX8_sign 56 = .ok (.bipush 120, 2) := by decide +kernel
theorem dX8_sign_58 : decode cX8_sign 58 = .ok (.aload_n 0, 1) := by decide +kernel
theorem dX8_sign_59 : decode cX8_sign 59 = .ok (.getfield 22, 3) := by decide +kernel
theorem dX8_sign_62 : decode cX8_sign 62 = .ok (.iload_n 3, 1) := by decide +kernel
theorem dX8_sign_63 : decode cX8_sign 63 = .ok (.iaload, 1) := by decide +kernel
theorem dX8_sign_64 : decode cX8_sign 64 = .ok (.iadd, 1) := by decide +kernel
theorem dX8_sign_65 : decode cX8_sign 65 = .ok (.invokevirtual 162, 3) := by decide +kernel
theorem dX8_sign_68 : decode cX8_sign 68 = .ok (.iinc 3 1, 3) := by decide +kernel
theorem dX8_sign_71 : decode cX8_sign 71 = .ok (.goto (-39), 3) := by decide +kernel
theorem dX8_sign_74 : decode cX8_sign 74 = .ok (.aload_n 0, 1) := by decide +kernel
theorem dX8_sign_75 : decode cX8_sign 75 = .ok (.iload_n 2, 1) := by decide +kernel
theorem dX8_sign_76 : decode cX8_sign 76 = .ok (.iconst 1, 1) := by decide +kernel
theorem dX8_sign_77 : decode cX8_sign 77 = .ok (.invokevirtual 169, 3) := by decide +kernel
theorem dX8_sign_80 : decode cX8_sign 80 = .ok (.aload_n 0, 1) := by decide +kernel
theorem dX8_sign_81 : decode cX8_sign 81 = .ok (.iload_n 2, 1) := by decide +kernel
theorem dX8_sign_82 : decode cX8_sign 82 = .ok (.invokevirtual 176, 3) := by decide +kernel
theorem dX8_sign_85 : decode cX8_sign 85 = .ok (.aload_n 0, 1) := by decide +kernel
theorem dX8_sign_86 : decode cX8_sign 86 = .ok (.iload_n 2, 1) := by decide +kernel
theorem dX8_sign_87 : decode cX8_sign 87 = .ok (.iconst 2, 1) := by decide +kernel
theorem dX8_sign_88 : decode cX8_sign 88 = .ok (.invokevirtual 169, 3) := by decide +kernel
theorem dX8_sign_91 : decode cX8_sign 91 = .ok (.iload_n 2, 1) := by decide +kernel
theorem dX8_sign_92 : decode cX8_sign 92 = .ok (.aload_n 0, 1) := by decide +kernel
theorem dX8_sign_93 : decode cX8_sign 93 = .ok (.getfield 78, 3) := by decide +kernel
theorem dX8_sign_96 : decode cX8_sign 96 = .ok (.if_icmp .ge 9, 3) := by decide +kernel
theorem dX8_sign_99 : decode cX8_sign 99 = .ok (.aload_n 0, 1) := by decide +kernel
theorem dX8_sign_100 : decode cX8_sign 100 = .ok (.bipush 46, 2) := by decide +kernel
theorem dX8_sign_102 : decode cX8_sign 102 = .ok (.invokevirtual 162, 3) := by decide +kernel
theorem dX8_sign_105 : decode cX8_sign 105 = .ok (.iinc 2 1, 3) := by decide +kernel
theorem dX8_sign_108 : decode cX8_sign 108 = .ok (.goto (-97), 3) := by decide +kernel
theorem dX8_sign_111 : decode cX8_sign 111 = .ok (.iload_n 1, 1) := by decide +kernel
theorem dX8_sign_112 : decode cX8_sign 112 = .ok (.iconst (-1), 1) := by decide +kernel
theorem dX8_sign_113 : decode cX8_sign 113 = .ok (.if_icmp .ne 10, 3) := by decide +kernel
theorem dX8_sign_116 : decode cX8_sign 116 = .ok (.aload_n 0, 1) := by decide +kernel
theorem dX8_sign_117 : decode cX8_sign 117 = .ok (.getfield 159, 3) := by decide +kernel
theorem dX8_sign_120 : decode cX8_sign 120 = .ok (.goto 28, 3) := by decide +kernel
theorem dX8_sign_123 : decode cX8_sign 123 = .ok (.iload_n 1, 1) := by decide +kernel
theorem dX8_sign_124 : decode cX8_sign 124 = .ok (.iconst 0, 1) := by decide +kernel
theorem dX8_sign_125 : decode cX8_sign 125 = .ok (.aload_n 0, 1) := by decide +kernel
theorem dX8_sign_126 : decode cX8_sign 126 = .ok (.getfield 159, 3) := by decide +kernel
theorem dX8_sign_129 : decode cX8_sign 129 = .ok (.iconst 1, 1) := by decide +kernel
theorem dX8_sign_130 : decode cX8_sign 130 = .ok (.isub, 1) := by decide +kernel
theorem dX8_sign_131 : decode cX8_sign 131 = .ok (.invokestatic 57, 3) := by decide +kernel
theorem dX8_sign_134 : decode cX8_sign 134 = .ok (.ifCond .eq 12, 3) := by decide +kernel
theorem dX8_sign_137 : decode cX8_sign 137 = .ok (.aload_n 0, 1) := by decide +kernel
theorem dX8_sign_138 : decode cX8_sign 138 = .ok (.getfield 47, 3) := by decide +kernel
theorem dX8_sign_141 : decode cX8_sign 141 = .ok (.iload_n 1, 1) := by decide +kernel
theorem dX8_sign_142 : decode cX8_sign 142 = .ok (.iaload, 1) := by decide +kernel
theorem dX8_sign_143 : decode cX8_sign 143 = .ok (.goto 5, 3) := by decide +kernel
theorem dX8_sign_146 : decode cX8_sign 146 = .ok (.bipush (-6), 2) := by decide +kernel
theorem dX8_sign_148 : decode cX8_sign 148 = .ok (.ireturn, 1) := by decide +kernel
set_option maxRecDepth 20000 in
theorem ggX8_image_X8_in : GoodIn wsX8_image wsX8_in := goodIn_r _ [15] (by decide +kernel) (by decide +kernel)
set_option maxRecDepth 20000 in
theorem gX8_image_X8_in : GoodIn wsX8_image (va_wsS RX8 57 yX8_in wsX8_in) := goodIn_app (goodIn_of _ (by decide +kernel)) ggX8_image_X8_in
theorem dX8_image_0 : decode cX8_image 0 = .ok (.iload_n 1, 1) := by decide +kernel
theorem dX8_image_1 : decode cX8_image 1 = .ok (.iconst 0, 1) := by decide +kernel
theorem dX8_image_2 : decode cX8_image 2 = .ok (.iconst 1, 1) := by decide +kernel
theorem dX8_image_3 : decode cX8_image 3 = .ok (.invokestatic 57, 3) := by decide +kernel
theorem dX8_image_6 : decode cX8_image 6 = .ok (.ifCond .ne 6, 3) := by decide +kernel
theorem dX8_image_9 : decode cX8_image 9 = .ok (.bipush (-2), 2) := by decide +kernel
theorem dX8_image_11 : decode cX8_image 11 = .ok (.ireturn, 1) := by decide +kernel
theorem dX8_image_12 : decode cX8_image 12 = .ok (.bipush 40, 2) := by decide +kernel
theorem dX8_image_14 : decode cX8_image 14 = .ok (.iload_n 1, 1) := by decide +kernel
theorem dX8_image_15 : decode cX8_image 15 = .ok (.imul, 1) := by decide +kernel
theorem dX8_image_16 : decode cX8_image 16 = .ok (.istore_n 2, 1) := by decide +kernel
theorem dX8_image_17 : decode cX8_image 17 = .ok (.iconst 0, 1) := by decide +kernel
theorem dX8_image_18 : decode cX8_image 18 = .ok (.istore_n 3, 1) := by decide +kernel
theorem dX8_image_19 : decode cX8_image 19 = .ok (.iload_n 3, 1) := by decide +kernel
theorem dX8_image_20 : decode cX8_image 20 = .ok (.iconst 5, 1) := by decide +kernel
theorem dX8_image_21 : decode cX8_image 21 = .ok (.if_icmp .ge 56, 3) := by decide +kernel
theorem dX8_image_24 : decode cX8_image 24 = .ok (.aload_n 0, 1) := by decide +kernel
theorem dX8_image_25 : decode cX8_image 25 = .ok (.getfield 50, 3) := by decide +kernel
theorem dX8_image_28 : decode cX8_image 28 = .ok (.iload_n 2, 1) := by decide +kernel
theorem dX8_image_29 : decode cX8_image 29 = .ok (.iload_n 3, 1) := by decide +kernel
theorem dX8_image_30 : decode cX8_image 30 = .ok (.iadd, 1) := by decide +kernel
theorem dX8_image_31 : decode cX8_image 31 = .ok (.aload_n 0, 1) := by decide +kernel
theorem dX8_image_32 : decode cX8_image 32 = .ok (.getfield 7, 3) := by decide +kernel
theorem dX8_image_35 : decode cX8_image 35 = .ok (.iload_n 3, 1) := by decide +kernel
theorem dX8_image_36 : decode cX8_image 36 = .ok (.iaload, 1) := by decide +kernel
theorem dX8_image_37 : decode cX8_image 37 = .ok (.iastore, 1) := by decide +kernel
theorem dX8_image_38 : decode cX8_image 38 = .ok (.aload_n 0, 1) := by decide +kernel
theorem dX8_image_39 : decode cX8_image 39 = .ok (.getfield 50, 3) := by decide +kernel
theorem dX8_image_42 : decode cX8_image 42 = .ok (.iload_n 2, 1) := by decide +kernel
theorem dX8_image_43 : decode cX8_image 43 = .ok (.iconst 5, 1) := by decide +kernel
theorem dX8_image_44 : decode cX8_image 44 = .ok (.iadd, 1) := by decide +kernel
theorem dX8_image_45 : decode cX8_image 45 = .ok (.iload_n 3, 1) := by decide +kernel
theorem dX8_image_46 : decode cX8_image 46 = .ok (.iadd, 1) := by decide +kernel
theorem dX8_image_47 : decode cX8_image 47 = .ok (.aload_n 0, 1) := by decide +kernel
theorem dX8_image_48 : decode cX8_image 48 = .ok (.getfield 13, 3) := by decide +kernel
theorem dX8_image_51 : decode cX8_image 51 = .ok (.iload_n 3, 1) := by decide +kernel
theorem dX8_image_52 : decode cX8_image 52 = .ok (.iaload, 1) := by decide +kernel
theorem dX8_image_53 : decode cX8_image 53 = .ok (.iastore, 1) := by decide +kernel
theorem dX8_image_54 : decode cX8_image 54 = .ok (.aload_n 0, 1) := by decide +kernel
theorem dX8_image_55 : decode cX8_image 55 = .ok (.getfield 50, 3) := by decide +kernel
theorem dX8_image_58 : decode cX8_image 58 = .ok (.iload_n 2, 1) := by decide +kernel
theorem dX8_image_59 : decode cX8_image 59 = .ok (.bipush 10, 2) := by decide +kernel
theorem dX8_image_61 : decode cX8_image 61 = .ok (.iadd, 1) := by decide +kernel
theorem dX8_image_62 : decode cX8_image 62 = .ok (.iload_n 3, 1) := by decide +kernel
theorem dX8_image_63 : decode cX8_image 63 = .ok (.iadd, 1) := by decide +kernel
theorem dX8_image_64 : decode cX8_image 64 = .ok (.aload_n 0, 1) := by decide +kernel
theorem dX8_image_65 : decode cX8_image 65 = .ok (.getfield 16, 3) := by decide +kernel
theorem dX8_image_68 : decode cX8_image 68 = .ok (.iload_n 3, 1) := by decide +kernel
theorem dX8_image_69 : decode cX8_image 69 = .ok (.iaload, 1) := by decide +kernel
theorem dX8_image_70 : decode cX8_image 70 = .ok (.iastore, 1) := by decide +kernel
theorem dX8_image_71 : decode cX8_image 71 = .ok (.iinc 3 1, 3) := by decide +kernel
theorem dX8_image_74 : decode cX8_image 74 = .ok (.goto (-55), 3) := by decide +kernel
theorem dX8_image_77 : decode cX8_image 77 = .ok (.iconst 0, 1) := by decide +kernel
theorem dX8_image_78 : decode cX8_image 78 = .ok (.istore_n 3, 1) := by decide +kernel
theorem dX8_image_79 : decode cX8_image 79 = .ok (.iload_n 3, 1) := by decide +kernel
theorem dX8_image_80 : decode cX8_image 80 = .ok (.iconst 3, 1) := by decide +kernel
theorem dX8_image_81 : decode cX8_image 81 = .ok (.if_icmp .ge 43, 3) := by decide +kernel
theorem dX8_image_84 : decode cX8_image 84 = .ok (.aload_n 0, 1) := by decide +kernel
theorem dX8_image_85 : decode cX8_image 85 = .ok (.getfield 50, 3) := by decide +kernel
theorem dX8_image_88 : decode cX8_image 88 = .ok (.iload_n 2, 1) := by decide +kernel
theorem dX8_image_89 : decode cX8_image 89 = .ok (.bipush 15, 2) := by decide +kernel
theorem dX8_image_91 : decode cX8_image 91 = .ok (.iadd, 1) := by decide +kernel
theorem dX8_image_92 : decode cX8_image 92 = .ok (.iload_n 3, 1) := by decide +kernel
theorem dX8_image_93 : decode cX8_image 93 = .ok (.iadd, 1) := by decide +kernel
theorem dX8_image_94 : decode cX8_image 94 = .ok (.aload_n 0, 1) := by decide +kernel
theorem dX8_image_95 : decode cX8_image 95 = .ok (.getfield 19, 3) := by decide +kernel
theorem dX8_image_98 : decode cX8_image 98 = .ok (.iload_n 3, 1) := by decide +kernel
theorem dX8_image_99 : decode cX8_image 99 = .ok (.iaload, 1) := by decide +kernel
theorem dX8_image_100 : decode cX8_image 100 = .ok (.iastore, 1) := by decide +kernel
theorem dX8_image_101 : decode cX8_image 101 = .ok (.aload_n 0, 1) := by decide +kernel
theorem dX8_image_102 : decode cX8_image 102 = .ok (.getfield 50, 3) := by decide +kernel
theorem dX8_image_105 : decode cX8_image 105 = .ok (.iload_n 2, 1) := by decide +kernel
theorem dX8_image_106 : decode cX8_image 106 = .ok (.bipush 18, 2) := by decide +kernel
theorem dX8_image_108 : decode cX8_image 108 = .ok (.iadd, 1) := by decide +kernel
theorem dX8_image_109 : decode cX8_image 109 = .ok (.iload_n 3, 1) := by decide +kernel
theorem dX8_image_110 : decode cX8_image 110 = .ok (.iadd, 1) := by decide +kernel
theorem dX8_image_111 : decode cX8_image 111 = .ok (.aload_n 0, 1) := by decide +kernel
theorem dX8_image_112 : decode cX8_image 112 = .ok (.getfield 22, 3) := by decide +kernel
theorem dX8_image_115 : decode cX8_image 115 = .ok (.iload_n 3, 1) := by decide +kernel
theorem dX8_image_116 : decode cX8_image 116 = .ok (.iaload, 1) := by decide +kernel
theorem dX8_image_117 : decode cX8_image 117 = .ok (.iastore, 1) := by decide +kernel
theorem dX8_image_118 : decode cX8_image 118 = .ok (.iinc 3 1, 3) := by decide +kernel
theorem dX8_image_121 : decode cX8_image 121 = .ok (.goto (-42), 3) := by decide +kernel
theorem dX8_image_124 : decode cX8_image 124 = .ok (.iconst 0, 1) := by decide +kernel
theorem dX8_image_125 : decode cX8_image 125 = .ok (.istore_n 3, 1) := by decide +kernel
theorem dX8_image_126 : decode cX8_image 126 = .ok (.iload_n 3, 1) := by decide +kernel
theorem dX8_image_127 : decode cX8_image 127 = .ok (.bipush 12, 2) := by decide +kernel
theorem dX8_image_129 : decode cX8_image 129 = .ok (.if_icmp .ge 26, 3) := by decide +kernel
theorem dX8_image_132 : decode cX8_image 132 = .ok (.aload_n 0, 1) := by decide +kernel
theorem dX8_image_133 : decode cX8_image 133 = .ok (.getfield 50, 3) := by decide +kernel
theorem dX8_image_136 : decode cX8_image 136 = .ok (.iload_n 2, 1) := by decide +kernel
theorem dX8_image_137 : decode cX8_image 137 = .ok (.bipush 21, 2) := by decide +kernel
theorem dX8_image_139 : decode cX8_image 139 = .ok (.iadd, 1) := by decide +kernel
theorem dX8_image_140 : decode cX8_image 140 = .ok (.iload_n 3, 1) := by decide +kernel
theorem dX8_image_141 : decode cX8_image 141 = .ok (.iadd, 1) := by decide +kernel
theorem dX8_image_142 : decode cX8_image 142 = .ok (.aload_n 0, 1) := by decide +kernel
theorem dX8_image_143 : decode cX8_image 143 = .ok (.getfield 25, 3) := by decide +kernel
theorem dX8_image_146 : decode cX8_image 146 = .ok (.iload_n 3, 1) := by decide +kernel
theorem dX8_image_147 : decode cX8_image 147 = .ok (.iaload, 1) := by decide +kernel
theorem dX8_image_148 : decode cX8_image 148 = .ok (.iastore, 1) := by decide +kernel
theorem dX8_image_149 : decode cX8_image 149 = .ok (.iinc 3 1, 3) := by decide +kernel
theorem dX8_image_152 : decode cX8_image 152 = .ok (.goto (-26), 3) := by decide +kernel
theorem dX8_image_155 : decode cX8_image 155 = .ok (.aload_n 0, 1) := by decide +kernel
theorem dX8_image_156 : decode cX8_image 156 = .ok (.getfield 50, 3) := by decide +kernel
theorem dX8_image_159 : decode cX8_image 159 = .ok (.iload_n 2, 1) := by decide +kernel
theorem dX8_image_160 : decode cX8_image 160 = .ok (.bipush 33, 2) := by decide +kernel
theorem dX8_image_162 : decode cX8_image 162 = .ok (.iadd, 1) := by decide +kernel
theorem dX8_image_163 : decode cX8_image 163 = .ok (.aload_n 0, 1) := by decide +kernel
theorem dX8_image_164 : decode cX8_image 164 = .ok (.getfield 69, 3) := by decide +kernel
theorem dX8_image_167 : decode cX8_image 167 = .ok (.iastore, 1) := by decide +kernel
theorem dX8_image_168 : decode cX8_image 168 = .ok (.aload_n 0, 1) := by decide +kernel
theorem dX8_image_169 : decode cX8_image 169 = .ok (.getfield 50, 3) := by decide +kernel
theorem dX8_image_172 : decode cX8_image 172 = .ok (.iload_n 2, 1) := by decide +kernel
theorem dX8_image_173 : decode cX8_image 173 = .ok (.bipush 34, 2) := by decide +kernel
theorem dX8_image_175 : decode cX8_image 175 = .ok (.iadd, 1) := by decide +kernel
theorem dX8_image_176 : decode cX8_image 176 = .ok (.aload_n 0, 1) := by decide +kernel
theorem dX8_image_177 : decode cX8_image 177 = .ok (.getfield 72, 3) := by decide +kernel
theorem dX8_image_180 : decode cX8_image 180 = .ok (.iastore, 1) := by decide +kernel
theorem dX8_image_181 : decode cX8_image 181 = .ok (.aload_n 0, 1) := by decide +kernel
theorem dX8_image_182 : decode cX8_image 182 = .ok (.getfield 50, 3) := by decide +kernel
theorem dX8_image_185 : decode cX8_image 185 = .ok (.iload_n 2, 1) := by decide +kernel
theorem dX8_image_186 : decode cX8_image 186 = .ok (.bipush 35, 2) := by decide +kernel
theorem dX8_image_188 : decode cX8_image 188 = .ok (.iadd, 1) := by decide +kernel
theorem dX8_image_189 : decode cX8_image 189 = .ok (.aload_n 0, 1) := by decide +kernel
theorem dX8_image_190 : decode cX8_image 190 = .ok (.getfield 78, 3) := by decide +kernel
theorem dX8_image_193 : decode cX8_image 193 = .ok (.iastore, 1) := by decide +kernel
theorem dX8_image_194 : decode cX8_image 194 = .ok (.aload_n 0, 1) := by decide +kernel
theorem dX8_image_195 : decode cX8_image 195 = .ok (.getfield 53, 3) := by decide +kernel
theorem dX8_image_198 : decode cX8_image 198 = .ok (.iload_n 1, 1) := by decide +kernel
theorem dX8_image_199 : decode cX8_image 199 = .ok (.iconst 1, 1) := by decide +kernel
theorem dX8_image_200 : decode cX8_image 200 = .ok (.bastore, 1) := by decide +kernel
theorem dX8_image_201 : decode cX8_image 201 = .ok (.iconst 1, 1) := by decide +kernel
theorem dX8_image_202 : decode cX8_image 202 = .ok (.ireturn, 1) := by decide +kernel
set_option maxRecDepth 20000 in
theorem ggX8_restore_X8_in : GoodIn wsX8_restore wsX8_in := goodIn_r _ [15] (by decide +kernel) (by decide +kernel)
set_option maxRecDepth 20000 in
theorem gX8_restore_X8_in : GoodIn wsX8_restore (va_wsS RX8 57 yX8_in wsX8_in) := goodIn_app (goodIn_of _ (by decide +kernel)) ggX8_restore_X8_in
theorem dX8_restore_0 : decode cX8_restore 0 = .ok (.iload_n 1, 1) := by decide +kernel
theorem dX8_restore_1 : decode cX8_restore 1 = .ok (.iconst 0, 1) := by decide +kernel
theorem dX8_restore_2 : decode cX8_restore 2 = .ok (.iconst 1, 1) := by decide +kernel
theorem dX8_restore_3 : decode cX8_restore 3 = .ok (.invokestatic 57, 3) := by decide +kernel
theorem dX8_restore_6 : decode cX8_restore 6 = .ok (.ifCond .ne 6, 3) := by decide +kernel
theorem dX8_restore_9 : decode cX8_restore 9 = .ok (.bipush (-2), 2) := by decide +kernel
theorem dX8_restore_11 : decode cX8_restore 11 = .ok (.ireturn, 1) := by decide +kernel
theorem dX8_restore_12 : decode cX8_restore 12 = .ok (.aload_n 0, 1) := by decide +kernel
theorem dX8_restore_13 : decode cX8_restore 13 = .ok (.getfield 53, 3) := by decide +kernel
theorem dX8_restore_16 : decode cX8_restore 16 = .ok (.iload_n 1, 1) := by decide +kernel
theorem dX8_restore_17 : decode cX8_restore 17 = .ok (.baload, 1) := by decide +kernel
theorem dX8_restore_18 : decode cX8_restore 18 = .ok (.ifCond .ne 6, 3) := by decide +kernel
theorem dX8_restore_21 : decode cX8_restore 21 = .ok (.bipush (-3), 2) := by decide +kernel
theorem dX8_restore_23 : decode cX8_restore 23 = .ok (.ireturn, 1) := by decide +kernel
theorem dX8_restore_24 : decode cX8_restore 24 = .ok (.bipush 40, 2) := by decide +kernel
theorem dX8_restore_26 : decode cX8_restore 26 = .ok (.iload_n 1, 1) := by decide +kernel
theorem dX8_restore_27 : decode cX8_restore 27 = .ok (.imul, 1) := by decide +kernel
theorem dX8_restore_28 : decode cX8_restore 28 = .ok (.istore_n 2, 1) := by decide +kernel
theorem dX8_restore_29 : decode cX8_restore 29 = .ok (.iconst 0, 1) := by decide +kernel
theorem dX8_restore_30 : decode cX8_restore 30 = .ok (.istore_n 3, 1) := by decide +kernel
theorem dX8_restore_31 : decode cX8_restore 31 = .ok (.iload_n 3, 1) := by decide +kernel
theorem dX8_restore_32 : decode cX8_restore 32 = .ok (.iconst 5, 1) := by decide +kernel
theorem dX8_restore_33 : decode cX8_restore 33 = .ok (.if_icmp .ge 56, 3) := by decide +kernel
theorem dX8_restore_36 : decode cX8_restore 36 = .ok (.aload_n 0, 1) := by decide +kernel
theorem dX8_restore_37 : decode cX8_restore 37 = .ok (.getfield 7, 3) := by decide +kernel
theorem dX8_restore_40 : decode cX8_restore 40 = .ok (.iload_n 3, 1) := by decide +kernel
theorem dX8_restore_41 : decode cX8_restore 41 = .ok (.aload_n 0, 1) := by decide +kernel
theorem dX8_restore_42 : decode cX8_restore 42 = .ok (.getfield 50, 3) := by decide +kernel
theorem dX8_restore_45 : decode cX8_restore 45 = .ok (.iload_n 2, 1) := by decide +kernel
theorem dX8_restore_46 : decode cX8_restore 46 = .ok (.iload_n 3, 1) := by decide +kernel
theorem dX8_restore_47 : decode cX8_restore 47 = .ok (.iadd, 1) := by decide +kernel
theorem dX8_restore_48 : decode cX8_restore 48 = .ok (.iaload, 1) := by decide +kernel
theorem dX8_restore_49 : decode cX8_restore 49 = .ok (.iastore, 1) := by decide +kernel
theorem dX8_restore_50 : decode cX8_restore 50 = .ok (.aload_n 0, 1) := by decide +kernel
theorem dX8_restore_51 : decode cX8_restore 51 = .ok (.getfield 13, 3) := by decide +kernel
theorem dX8_restore_54 : decode cX8_restore 54 = .ok (.iload_n 3, 1) := by decide +kernel
theorem dX8_restore_55 : decode cX8_restore 55 = .ok (.aload_n 0, 1) := by decide +kernel
theorem dX8_restore_56 : decode cX8_restore 56 = .ok (.getfield 50, 3) := by decide +kernel
theorem dX8_restore_59 : decode cX8_restore 59 = .ok (.iload_n 2, 1) := by decide +kernel
theorem dX8_restore_60 : decode cX8_restore 60 = .ok (.iconst 5, 1) := by decide +kernel
theorem dX8_restore_61 : decode cX8_restore 61 = .ok (.iadd, 1) := by decide +kernel
theorem dX8_restore_62 : decode cX8_restore 62 = .ok (.iload_n 3, 1) := by decide +kernel
theorem dX8_restore_63 : decode cX8_restore 63 = .ok (.iadd, 1) := by decide +kernel
theorem dX8_restore_64 : decode cX8_restore 64 = .ok (.iaload, 1) := by decide +kernel
theorem dX8_restore_65 : decode cX8_restore 65 = .ok (.iastore, 1) := by decide +kernel
theorem dX8_restore_66 : decode cX8_restore 66 = .ok (.aload_n 0, 1) := by decide +kernel
theorem dX8_restore_67 : decode cX8_restore 67 = .ok (.getfield 16, 3) := by decide +kernel
theorem dX8_restore_70 : decode cX8_restore 70 = .ok (.iload_n 3, 1) := by decide +kernel
theorem dX8_restore_71 : decode cX8_restore 71 = .ok (.aload_n 0, 1) := by decide +kernel
theorem dX8_restore_72 : decode cX8_restore 72 = .ok (.getfield 50, 3) := by decide +kernel
theorem dX8_restore_75 : decode cX8_restore 75 = .ok (.iload_n 2, 1) := by decide +kernel
theorem dX8_restore_76 : decode cX8_restore 76 = .ok (.bipush 10, 2) := by decide +kernel
theorem dX8_restore_78 : decode cX8_restore 78 = .ok (.iadd, 1) := by decide +kernel
theorem dX8_restore_79 : decode cX8_restore 79 = .ok (.iload_n 3, 1) := by decide +kernel
theorem dX8_restore_80 : decode cX8_restore 80 = .ok (.iadd, 1) := by decide +kernel
theorem dX8_restore_81 : decode cX8_restore 81 = .ok (.iaload, 1) := by decide +kernel
theorem dX8_restore_82 : decode cX8_restore 82 = .ok (.iastore, 1) := by decide +kernel
theorem dX8_restore_83 : decode cX8_restore 83 = .ok (.iinc 3 1, 3) := by decide +kernel
theorem dX8_restore_86 : decode cX8_restore 86 = .ok (.goto (-55), 3) := by decide +kernel
theorem dX8_restore_89 : decode cX8_restore 89 = .ok (.iconst 0, 1) := by decide +kernel
theorem dX8_restore_90 : decode cX8_restore 90 = .ok (.istore_n 3, 1) := by decide +kernel
theorem dX8_restore_91 : decode cX8_restore 91 = .ok (.iload_n 3, 1) := by decide +kernel
theorem dX8_restore_92 : decode cX8_restore 92 = .ok (.iconst 3, 1) := by decide +kernel
theorem dX8_restore_93 : decode cX8_restore 93 = .ok (.if_icmp .ge 43, 3) := by decide +kernel
theorem dX8_restore_96 : decode cX8_restore 96 = .ok (.aload_n 0, 1) := by decide +kernel
theorem dX8_restore_97 : decode cX8_restore 97 = .ok (.getfield 19, 3) := by decide +kernel
theorem dX8_restore_100 : decode cX8_restore 100 = .ok (.iload_n 3, 1) := by decide +kernel
theorem dX8_restore_101 : decode cX8_restore 101 = .ok (.aload_n 0, 1) := by decide +kernel
theorem dX8_restore_102 : decode cX8_restore 102 = .ok (.getfield 50, 3) := by decide +kernel
theorem dX8_restore_105 : decode cX8_restore 105 = .ok (.iload_n 2, 1) := by decide +kernel
theorem dX8_restore_106 : decode cX8_restore 106 = .ok (.bipush 15, 2) := by decide +kernel
theorem dX8_restore_108 : decode cX8_restore 108 = .ok (.iadd, 1) := by decide +kernel
theorem dX8_restore_109 : decode cX8_restore 109 = .ok (.iload_n 3, 1) := by decide +kernel
theorem dX8_restore_110 : decode cX8_restore 110 = .ok (.iadd, 1) := by decide +kernel
theorem dX8_restore_111 : decode cX8_restore 111 = .ok (.iaload, 1) := by decide +kernel
theorem dX8_restore_112 : decode cX8_restore 112 = .ok (.iastore, 1) := by decide +kernel
theorem dX8_restore_113 : decode cX8_restore 113 = .ok (.aload_n 0, 1) := by decide +kernel
theorem dX8_restore_114 : decode cX8_restore 114 = .ok (.getfield 22, 3) := by decide +kernel
theorem dX8_restore_117 : decode cX8_restore 117 = .ok (.iload_n 3, 1) := by decide +kernel
theorem dX8_restore_118 : decode cX8_restore 118 = .ok (.aload_n 0, 1) := by decide +kernel
theorem dX8_restore_119 : decode cX8_restore 119 = .ok (.getfield 50, 3) := by decide +kernel
theorem dX8_restore_122 : decode cX8_restore 122 = .ok (.iload_n 2, 1) := by decide +kernel
theorem dX8_restore_123 : decode cX8_restore 123 = .ok (.bipush 18, 2) := by decide +kernel
theorem dX8_restore_125 : decode cX8_restore 125 = .ok (.iadd, 1) := by decide +kernel
theorem dX8_restore_126 : decode cX8_restore 126 = .ok (.iload_n 3, 1) := by decide +kernel
theorem dX8_restore_127 : decode cX8_restore 127 = .ok (.iadd, 1) := by decide +kernel
theorem dX8_restore_128 : decode cX8_restore 128 = .ok (.iaload, 1) := by decide +kernel
theorem dX8_restore_129 : decode cX8_restore 129 = .ok (.iastore, 1) := by decide +kernel
theorem dX8_restore_130 : decode cX8_restore 130 = .ok (.iinc 3 1, 3) := by decide +kernel
theorem dX8_restore_133 : decode cX8_restore 133 = .ok (.goto (-42), 3) := by decide +kernel
theorem dX8_restore_136 : decode cX8_restore 136 = .ok (.iconst 0, 1) := by decide +kernel
theorem dX8_restore_137 : decode cX8_restore 137 = .ok (.istore_n 3, 1) := by decide +kernel
theorem dX8_restore_138 : decode cX8_restore 138 = .ok (.iload_n 3, 1) := by decide +kernel
theorem dX8_restore_139 : decode cX8_restore 139 = .ok (.bipush 12, 2) := by decide +kernel
theorem dX8_restore_141 : decode cX8_restore 141 = .ok (.if_icmp .ge 26, 3) := by decide +kernel
theorem dX8_restore_144 : decode cX8_restore 144 = .ok (.aload_n 0, 1) := by decide +kernel
theorem dX8_restore_145 : decode cX8_restore 145 = .ok (.getfield 25, 3) := by decide +kernel
theorem dX8_restore_148 : decode cX8_restore 148 = .ok (.iload_n 3, 1) := by decide +kernel
theorem dX8_restore_149 : decode cX8_restore 149 = .ok (.aload_n 0, 1) := by decide +kernel
theorem dX8_restore_150 : decode cX8_restore 150 = .ok (.getfield 50, 3) := by decide +kernel
theorem dX8_restore_153 : decode cX8_restore 153 = .ok (.iload_n 2, 1) := by decide +kernel
theorem dX8_restore_154 : decode cX8_restore 154 = .ok (.bipush 21, 2) := by decide +kernel
theorem dX8_restore_156 : decode cX8_restore 156 = .ok (.iadd, 1) := by decide +kernel
theorem dX8_restore_157 : decode cX8_restore 157 = .ok (.iload_n 3, 1) := by decide +kernel
theorem dX8_restore_158 : decode cX8_restore 158 = .ok (.iadd, 1) := by decide +kernel
theorem dX8_restore_159 : decode cX8_restore 159 = .ok (.iaload, 1) := by decide +kernel
theorem dX8_restore_160 : decode cX8_restore 160 = .ok (.iastore, 1) := by decide +kernel
theorem dX8_restore_161 : decode cX8_restore 161 = .ok (.iinc 3 1, 3) := by decide +kernel
theorem dX8_restore_164 : decode cX8_restore 164 = .ok (.goto (-26), 3) := by decide +kernel
theorem dX8_restore_167 : decode cX8_restore 167 = .ok (.aload_n 0, 1) := by decide +kernel
theorem dX8_restore_168 : decode cX8_restore 168 = .ok (.aload_n 0, 1) := by decide +kernel
theorem dX8_restore_169 : decode cX8_restore 169 = .ok (.getfield 50, 3) := by decide +kernel
theorem dX8_restore_172 : decode cX8_restore 172 = .ok (.iload_n 2, 1) := by decide +kernel
theorem dX8_restore_173 : decode cX8_restore 173 = .ok (.bipush 33, 2) := by decide +kernel
theorem dX8_restore_175 : decode cX8_restore 175 = .ok (.iadd, 1) := by decide +kernel
theorem dX8_restore_176 : decode cX8_restore 176 = .ok (.iaload, 1) := by decide +kernel
theorem dX8_restore_177 : decode cX8_restore 177 = .ok (.putfield 69, 3) := by decide +kernel
theorem dX8_restore_180 : decode cX8_restore 180 = .ok (.aload_n 0, 1) := by decide +kernel
theorem dX8_restore_181 : decode cX8_restore 181 = .ok (.aload_n 0, 1) := by decide +kernel
theorem dX8_restore_182 : decode cX8_restore 182 = .ok (.getfield 50, 3) := by decide +kernel
theorem dX8_restore_185 : decode cX8_restore 185 = .ok (.iload_n 2, 1) := by decide +kernel
theorem dX8_restore_186 : decode cX8_restore 186 = .ok (.bipush 34, 2) := by decide +kernel
theorem dX8_restore_188 : decode cX8_restore 188 = .ok (.iadd, 1) := by decide +kernel
theorem dX8_restore_189 : decode cX8_restore 189 = .ok (.iaload, 1) := by decide +kernel
theorem dX8_restore_190 : decode cX8_restore 190 = .ok (.putfield 72, 3) := by decide +kernel
theorem dX8_restore_193 : decode cX8_restore 193 = .ok (.aload_n 0, 1) := by decide +kernel
theorem dX8_restore_194 : decode cX8_restore 194 = .ok (.aload_n 0, 1) := by decide +kernel
theorem dX8_restore_195 : decode cX8_restore 195 = .ok (.getfield 50, 3) := by decide +kernel
theorem dX8_restore_198 : decode cX8_restore 198 = .ok (.iload_n 2, 1) := by decide +kernel
theorem dX8_restore_199 : decode cX8_restore 199 = .ok (.bipush 35, 2) := by decide +kernel
theorem dX8_restore_201 : decode cX8_restore 201 = .ok (.iadd, 1) := by decide +kernel
theorem dX8_restore_202 : decode cX8_restore 202 = .ok (.iaload, 1) := by decide +kernel
theorem dX8_restore_203 : decode cX8_restore 203 = .ok (.putfield 78, 3) := by decide +kernel
theorem dX8_restore_206 : decode cX8_restore 206 = .ok (.iconst 1, 1) := by decide +kernel
theorem dX8_restore_207 : decode cX8_restore 207 = .ok (.ireturn, 1) := by decide +kernel
set_option maxRecDepth 20000 in
theorem ggX8_told_X8_in : GoodIn wsX8_told wsX8_in := goodIn_r _ [8] (by decide +kernel) (by decide +kernel)
set_option maxRecDepth 20000 in
theorem gX8_told_X8_in : GoodIn wsX8_told (va_wsS RX8 57 yX8_in wsX8_in) := goodIn_app (goodIn_of _ (by decide +kernel)) ggX8_told_X8_in
theorem dX8_told_0 : decode cX8_told 0 = .ok (.iload_n 1, 1) := by decide +kernel
theorem dX8_told_1 : decode cX8_told 1 = .ok (.tableswitch 42 0 2 #[27, 32, 37], 27) := by decide +kernel
theorem dX8_told_28 : decode cX8_told 28 = .ok (.aload_n 0, 1) := by decide +kernel
theorem dX8_told_29 : decode cX8_told 29 = .ok (.getfield 61, 3) := by decide +kernel
theorem dX8_told_32 : decode cX8_told 32 = .ok (.ireturn, 1) := by decide +kernel
theorem dX8_told_33 : decode cX8_told 33 = .ok (.aload_n 0, 1) := by decide +kernel
theorem dX8_told_34 : decode cX8_told 34 = .ok (.getfield 69, 3) := by decide +kernel
theorem dX8_told_37 : decode cX8_told 37 = .ok (.ireturn, 1) := by decide +kernel
theorem dX8_told_38 : decode cX8_told 38 = .ok (.aload_n 0, 1) := by decide +kernel
theorem dX8_told_39 : decode cX8_told 39 = .ok (.getfield 78, 3) := by decide +kernel
theorem dX8_told_42 : decode cX8_told 42 = .ok (.ireturn, 1) := by decide +kernel
theorem dX8_told_43 : decode cX8_told 43 = .ok (.iload_n 1, 1) := by decide +kernel
theorem dX8_told_44 : decode cX8_told 44 = .ok (.bipush 10, 2) := by decide +kernel
theorem dX8_told_46 : decode cX8_told 46 = .ok (.bipush 9, 2) := by decide +kernel
theorem dX8_told_48 : decode cX8_told 48 = .ok (.aload_n 0, 1) := by decide +kernel
theorem dX8_told_49 : decode cX8_told 49 = .ok (.getfield 69, 3) := by decide +kernel
theorem dX8_told_52 : decode cX8_told 52 = .ok (.iadd, 1) := by decide +kernel
theorem dX8_told_53 : decode cX8_told 53 = .ok (.invokestatic 57, 3) := by decide +kernel
theorem dX8_told_56 : decode cX8_told 56 = .ok (.ifCond .eq 15, 3) := by decide +kernel
theorem dX8_told_59 : decode cX8_told 59 = .ok (.aload_n 0, 1) := by decide +kernel
theorem dX8_told_60 : decode cX8_told 60 = .ok (.getfield 25, 3) := by decide +kernel
theorem dX8_told_63 : decode cX8_told 63 = .ok (.iload_n 1, 1) := by decide +kernel
theorem dX8_told_64 : decode cX8_told 64 = .ok (.bipush 10, 2) := by decide +kernel
theorem dX8_told_66 : decode cX8_told 66 = .ok (.isub, 1) := by decide +kernel
theorem dX8_told_67 : decode cX8_told 67 = .ok (.iaload, 1) := by decide +kernel
theorem dX8_told_68 : decode cX8_told 68 = .ok (.goto 5, 3) := by decide +kernel
theorem dX8_told_71 : decode cX8_told 71 = .ok (.bipush (-2), 2) := by decide +kernel
theorem dX8_told_73 : decode cX8_told 73 = .ok (.ireturn, 1) := by decide +kernel
theorem dJ6_bitCount_0f7a4_0 : decode cJ6_bitCount_0f7a4 0 = .ok (.iload_n 0, 1) := by decide +kernel
theorem dJ6_bitCount_0f7a4_1 : decode cJ6_bitCount_0f7a4 1 = .ok (.iload_n 0, 1) := by decide +kernel
theorem dJ6_bitCount_0f7a4_2 : decode cJ6_bitCount_0f7a4 2 = .ok (.iconst 1, 1) := by decide +kernel
theorem dJ6_bitCount_0f7a4_3 : decode cJ6_bitCount_0f7a4 3 = .ok (.iushr, 1) := by decide +kernel
theorem dJ6_bitCount_0f7a4_4 : decode cJ6_bitCount_0f7a4 4 = .ok (.ldc_w 265, 3) := by decide +kernel
theorem dJ6_bitCount_0f7a4_7 : decode cJ6_bitCount_0f7a4 7 = .ok (.iand, 1) := by decide +kernel
theorem dJ6_bitCount_0f7a4_8 : decode cJ6_bitCount_0f7a4 8 = .ok (.isub, 1) := by decide +kernel
theorem dJ6_bitCount_0f7a4_9 : decode cJ6_bitCount_0f7a4 9 = .ok (.istore_n 0, 1) := by decide +kernel
theorem dJ6_bitCount_0f7a4_10 : decode cJ6_bitCount_0f7a4 10 = .ok (.iload_n 0, 1) := by decide +kernel
theorem dJ6_bitCount_0f7a4_11 : decode cJ6_bitCount_0f7a4 11 = .ok (.ldc_w 266, 3) := by decide +kernel
theorem dJ6_bitCount_0f7a4_14 : decode cJ6_bitCount_0f7a4 14 = .ok (.iand, 1) := by decide +kernel
theorem dJ6_bitCount_0f7a4_15 : decode cJ6_bitCount_0f7a4 15 = .ok (.iload_n 0, 1) := by decide +kernel
theorem dJ6_bitCount_0f7a4_16 : decode cJ6_bitCount_0f7a4 16 = .ok (.iconst 2, 1) := by decide +kernel
theorem dJ6_bitCount_0f7a4_17 : decode cJ6_bitCount_0f7a4 17 = .ok (.iushr, 1) := by decide +kernel
theorem dJ6_bitCount_0f7a4_18 : decode cJ6_bitCount_0f7a4 18 = .ok (.ldc_w 266, 3) := by decide +kernel
theorem dJ6_bitCount_0f7a4_21 : decode cJ6_bitCount_0f7a4 21 = .ok (.iand, 1) := by decide +kernel
theorem dJ6_bitCount_0f7a4_22 : decode cJ6_bitCount_0f7a4 22 = .ok (.iadd, 1) := by decide +kernel
theorem dJ6_bitCount_0f7a4_23 : decode cJ6_bitCount_0f7a4 23 = .ok (.istore_n 0, 1) := by decide +kernel
theorem dJ6_bitCount_0f7a4_24 : decode cJ6_bitCount_0f7a4 24 = .ok (.iload_n 0, 1) := by decide +kernel
theorem dJ6_bitCount_0f7a4_25 : decode cJ6_bitCount_0f7a4 25 = .ok (.iload_n 0, 1) := by decide +kernel
theorem dJ6_bitCount_0f7a4_26 : decode cJ6_bitCount_0f7a4 26 = .ok (.iconst 4, 1) := by decide +kernel
theorem dJ6_bitCount_0f7a4_27 : decode cJ6_bitCount_0f7a4 27 = .ok (.iushr, 1) := by decide +kernel
theorem dJ6_bitCount_0f7a4_28 : decode cJ6_bitCount_0f7a4 28 = .ok (.iadd, 1) := by decide +kernel
theorem dJ6_bitCount_0f7a4_29 : decode cJ6_bitCount_0f7a4 29 = .ok (.ldc_w 267, 3) := by decide +kernel
theorem dJ6_bitCount_0f7a4_32 : decode cJ6_bitCount_0f7a4 32 = .ok (.iand, 1) := by decide +kernel
theorem dJ6_bitCount_0f7a4_33 : decode cJ6_bitCount_0f7a4 33 = .ok (.istore_n 0, 1) := by decide +kernel
theorem dJ6_bitCount_0f7a4_34 : decode cJ6_bitCount_0f7a4 34 = .ok (.iload_n 0, 1) := by decide +kernel
theorem dJ6_bitCount_0f7a4_35 : decode cJ6_bitCount_0f7a4 35 = .ok (.iload_n 0, 1) := by decide +kernel
theorem dJ6_bitCount_0f7a4_36 : decode cJ6_bitCount_0f7a4 36 = .ok (.bipush 8, 2) := by decide +kernel
theorem dJ6_bitCount_0f7a4_38 : decode cJ6_bitCount_0f7a4 38 = .ok (.iushr, 1) := by decide +kernel
theorem dJ6_bitCount_0f7a4_39 : decode cJ6_bitCount_0f7a4 39 = .ok (.iadd, 1) := by decide +kernel
theorem dJ6_bitCount_0f7a4_40 : decode cJ6_bitCount_0f7a4 40 = .ok (.istore_n 0, 1) := by decide +kernel
theorem dJ6_bitCount_0f7a4_41 : decode cJ6_bitCount_0f7a4 41 = .ok (.iload_n 0, 1) := by decide +kernel
theorem dJ6_bitCount_0f7a4_42 : decode cJ6_bitCount_0f7a4 42 = .ok (.iload_n 0, 1) := by decide +kernel
theorem dJ6_bitCount_0f7a4_43 : decode cJ6_bitCount_0f7a4 43 = .ok (.bipush 16, 2) := by decide +kernel
theorem dJ6_bitCount_0f7a4_45 : decode cJ6_bitCount_0f7a4 45 = .ok (.iushr, 1) := by decide +kernel
theorem dJ6_bitCount_0f7a4_46 : decode cJ6_bitCount_0f7a4 46 = .ok (.iadd, 1) := by decide +kernel
theorem dJ6_bitCount_0f7a4_47 : decode cJ6_bitCount_0f7a4 47 = .ok (.istore_n 0, 1) := by decide +kernel
theorem dJ6_bitCount_0f7a4_48 : decode cJ6_bitCount_0f7a4 48 = .ok (.iload_n 0, 1) := by decide +kernel
theorem dJ6_bitCount_0f7a4_49 : decode cJ6_bitCount_0f7a4 49 = .ok (.bipush 63, 2) := by decide +kernel
theorem dJ6_bitCount_0f7a4_51 : decode cJ6_bitCount_0f7a4 51 = .ok (.iand, 1) := by decide +kernel
theorem dJ6_bitCount_0f7a4_52 : decode cJ6_bitCount_0f7a4 52 = .ok (.ireturn, 1) := by decide +kernel
theorem dJ9_abs_0f7a4_0 : decode cJ9_abs_0f7a4 0 = .ok (.iload_n 0, 1) := by decide +kernel
theorem dJ9_abs_0f7a4_1 : decode cJ9_abs_0f7a4 1 = .ok (.ifCond .ge 8, 3) := by decide +kernel
theorem dJ9_abs_0f7a4_4 : decode cJ9_abs_0f7a4 4 = .ok (.iload_n 0, 1) := by decide +kernel
theorem dJ9_abs_0f7a4_5 : decode cJ9_abs_0f7a4 5 = .ok (.ineg, 1) := by decide +kernel
theorem dJ9_abs_0f7a4_6 : decode cJ9_abs_0f7a4 6 = .ok (.goto 4, 3) := by decide +kernel
theorem dJ9_abs_0f7a4_9 : decode cJ9_abs_0f7a4 9 = .ok (.iload_n 0, 1) := by decide +kernel
theorem dJ9_abs_0f7a4_10 : decode cJ9_abs_0f7a4 10 = .ok (.ireturn, 1) := by decide +kernel
theorem dJ9_max_7cf53_0 : decode cJ9_max_7cf53 0 = .ok (.iload_n 0, 1) := by decide +kernel
theorem dJ9_max_7cf53_1 : decode cJ9_max_7cf53 1 = .ok (.iload_n 1, 1) := by decide +kernel
theorem dJ9_max_7cf53_2 : decode cJ9_max_7cf53 2 = .ok (.if_icmp .lt 7, 3) := by decide +kernel
theorem dJ9_max_7cf53_5 : decode cJ9_max_7cf53 5 = .ok (.iload_n 0, 1) := by decide +kernel
theorem dJ9_max_7cf53_6 : decode cJ9_max_7cf53 6 = .ok (.goto 4, 3) := by decide +kernel
theorem dJ9_max_7cf53_9 : decode cJ9_max_7cf53 9 = .ok (.iload_n 1, 1) := by decide +kernel
theorem dJ9_max_7cf53_10 : decode cJ9_max_7cf53 10 = .ok (.ireturn, 1) := by decide +kernel
theorem dJ9_min_7cf53_0 : decode cJ9_min_7cf53 0 = .ok (.iload_n 0, 1) := by decide +kernel
theorem dJ9_min_7cf53_1 : decode cJ9_min_7cf53 1 = .ok (.iload_n 1, 1) := by decide +kernel
theorem dJ9_min_7cf53_2 : decode cJ9_min_7cf53 2 = .ok (.if_icmp .gt 7, 3) := by decide +kernel
theorem dJ9_min_7cf53_5 : decode cJ9_min_7cf53 5 = .ok (.iload_n 0, 1) := by decide +kernel
theorem dJ9_min_7cf53_6 : decode cJ9_min_7cf53 6 = .ok (.goto 4, 3) := by decide +kernel
theorem dJ9_min_7cf53_9 : decode cJ9_min_7cf53 9 = .ok (.iload_n 1, 1) := by decide +kernel
theorem dJ9_min_7cf53_10 : decode cJ9_min_7cf53 10 = .ok (.ireturn, 1) := by decide +kernel
theorem dJ9_min_f86c9_0 : decode cJ9_min_f86c9 0 = .ok (.lload_n 0, 1) := by decide +kernel
theorem dJ9_min_f86c9_1 : decode cJ9_min_f86c9 1 = .ok (.lload_n 2, 1) := by decide +kernel
theorem dJ9_min_f86c9_2 : decode cJ9_min_f86c9 2 = .ok (.lcmp, 1) := by decide +kernel
theorem dJ9_min_f86c9_3 : decode cJ9_min_f86c9 3 = .ok (.ifCond .gt 7, 3) := by decide +kernel
theorem dJ9_min_f86c9_6 : decode cJ9_min_f86c9 6 = .ok (.lload_n 0, 1) := by decide +kernel
theorem dJ9_min_f86c9_7 : decode cJ9_min_f86c9 7 = .ok (.goto 4, 3) := by decide +kernel
theorem dJ9_min_f86c9_10 : decode cJ9_min_f86c9 10 = .ok (.lload_n 2, 1) := by decide +kernel
theorem dJ9_min_f86c9_11 : decode cJ9_min_f86c9 11 = .ok (.lreturn, 1) := by decide +kernel
set_option maxRecDepth 20000 in
theorem ggL_law_X7_init : GoodIn wsL_law wsX7_init := goodIn_r _ [8, 9, 10, 11, 12, 13, 14, 15, 16, 17, 18, 19, 20, 21, 22, 23, 24, 25, 26, 27, 28, 29, 30, 31, 32, 33, 34, 35, 36, 37, 38, 39, 40, 41, 42, 43, 44, 45, 46, 47, 48, 49, 50, 51, 52, 53, 54, 55, 56, 57, 58, 59, 60, 61, 62, 63, 64, 65, 66, 67, 68, 69, 70, 71, 72, 73, 74, 75, 76, 77, 78, 79, 80, 81, 82, 83, 84, 85, 86, 87, 88, 89, 627, 628, 629, 597, 598, 599, 600, 601, 602, 603, 604, 630, 631, 632, 633, 634, 635, 636, 637, 638, 639, 640, 641, 642, 643, 644, 645, 646, 647, 648, 649, 650, 651, 652, 653, 654, 655, 656, 657, 658, 659, 660, 661, 662, 663] (by decide +kernel) (by decide +kernel)
set_option maxRecDepth 20000 in
theorem gL_law_X7_init : GoodIn wsL_law (wsX7_init) := ggL_law_X7_init
set_option maxRecDepth 20000 in
theorem ggL_law_X8_init : GoodIn wsL_law wsX8_init := goodIn_r _ [92, 93, 10, 11, 45, 94, 95, 96, 97, 98, 99, 100, 101, 75, 102, 103, 104, 105, 106, 107, 108, 109, 605, 606, 607, 608, 609, 610, 611, 612, 613, 614, 615, 616, 617, 618, 619, 620, 621, 622, 623, 624, 625, 626] (by decide +kernel) (by decide +kernel)
set_option maxRecDepth 20000 in
theorem gL_law_X8_init : GoodIn wsL_law (wsX8_init) := ggL_law_X8_init
set_option maxRecDepth 20000 in
theorem ggL_law_X7_say : GoodIn wsL_law wsX7_say := goodIn_r _ [113, 15, 114, 115, 116, 117, 14, 118, 119, 46, 597, 598, 599, 600, 601, 602, 603, 604, 627, 628, 629] (by decide +kernel) (by decide +kernel)
set_option maxRecDepth 20000 in
theorem gL_law_X7_say : GoodIn wsL_law (wsV RL 13 RX7 yX7_say wsX7_say) := goodIn_app (goodIn_of _ (by decide +kernel)) ggL_law_X7_say
set_option maxRecDepth 20000 in
theorem ggL_law_X8_say : GoodIn wsL_law wsX8_say := goodIn_r _ [123, 124, 100, 125, 126, 5, 127, 605, 606, 607, 608, 609, 610, 611, 612, 613, 614, 615, 616, 617, 618, 619, 620, 621, 622, 623, 624, 625, 626] (by decide +kernel) (by decide +kernel)
set_option maxRecDepth 20000 in
theorem gL_law_X8_say : GoodIn wsL_law (wsV RL 17 RX8 yX8_say wsX8_say) := goodIn_app (goodIn_of _ (by decide +kernel)) ggL_law_X8_say
set_option maxRecDepth 20000 in
theorem ggL_law_X7_wipe : GoodIn wsL_law wsX7_wipe := goodIn_r _ [131, 15, 114, 597, 598, 599, 600, 601, 602, 603, 604, 627, 628, 629] (by decide +kernel) (by decide +kernel)
set_option maxRecDepth 20000 in
theorem gL_law_X7_wipe : GoodIn wsL_law (wsV RL 18 RX7 yX7_wipe wsX7_wipe) := goodIn_app (goodIn_of _ (by decide +kernel)) ggL_law_X7_wipe
set_option maxRecDepth 20000 in
theorem ggL_law_X8_wipe : GoodIn wsL_law wsX8_wipe := goodIn_r _ [135, 124, 605, 606, 607, 608, 609, 610, 611, 612, 613, 614, 615, 616, 617, 618, 619, 620, 621, 622, 623, 624, 625, 626] (by decide +kernel) (by decide +kernel)
set_option maxRecDepth 20000 in
theorem gL_law_X8_wipe : GoodIn wsL_law (wsV RL 22 RX8 yX8_wipe wsX8_wipe) := goodIn_app (goodIn_of _ (by decide +kernel)) ggL_law_X8_wipe
set_option maxRecDepth 20000 in
theorem ggL_law_X7_fault : GoodIn wsL_law wsX7_fault := goodIn_r _ [139, 15, 140, 141, 142, 14, 143, 44, 119, 46, 144, 145, 146, 147, 43, 148, 149, 150, 151, 152, 153, 154, 155, 156, 157, 158, 159, 160, 161, 162, 163, 164, 165, 50, 51, 52, 53, 56, 166, 2, 167, 168, 169, 170, 171, 172, 173, 174, 175, 54, 55, 597, 598, 599, 600, 601, 602, 603, 604, 627, 628, 629, 652, 653, 654, 655, 656, 657, 658, 659, 660, 661, 662, 663] (by decide +kernel) (by decide +kernel)
set_option maxRecDepth 20000 in
theorem gL_law_X7_fault : GoodIn wsL_law (wsV RL 23 RX7 yX7_fault wsX7_fault) := goodIn_app (goodIn_of _ (by decide +kernel)) ggL_law_X7_fault
set_option maxRecDepth 20000 in
theorem ggL_law_X8_fault : GoodIn wsL_law wsX8_fault := goodIn_r _ [179, 180, 181, 182, 5, 183, 124, 100, 101, 125, 126, 127, 605, 606, 607, 608, 609, 610, 611, 612, 613, 614, 615, 616, 617, 618, 619, 620, 621, 622, 623, 624, 625, 626] (by decide +kernel) (by decide +kernel)
set_option maxRecDepth 20000 in
theorem gL_law_X8_fault : GoodIn wsL_law (wsV RL 26 RX8 yX8_fault wsX8_fault) := goodIn_app (goodIn_of _ (by decide +kernel)) ggL_law_X8_fault
set_option maxRecDepth 20000 in
theorem ggL_law_X7_load : GoodIn wsL_law wsX7_load := goodIn_r _ [187, 15, 19, 188, 189, 114, 37, 190, 140, 141, 142, 14, 143, 44, 119, 46, 144, 145, 146, 147, 43, 148, 149, 150, 151, 152, 153, 154, 155, 156, 157, 158, 159, 160, 161, 162, 163, 164, 165, 50, 51, 52, 53, 56, 166, 2, 167, 168, 169, 170, 171, 172, 173, 174, 175, 54, 55, 191, 192, 193, 194, 195, 196, 197, 18, 198, 62, 597, 598, 599, 600, 601, 602, 603, 604, 630, 631, 632, 627, 628, 629, 652, 653, 654, 655, 656, 657, 658, 659, 660, 661, 662, 663] (by decide +kernel) (by decide +kernel)
set_option maxRecDepth 20000 in
theorem gL_law_X7_load : GoodIn wsL_law (wsV RL 27 RX7 yX7_load wsX7_load) := goodIn_app (goodIn_of _ (by decide +kernel)) ggL_law_X7_load
set_option maxRecDepth 20000 in
theorem ggL_law_X8_load : GoodIn wsL_law wsX8_load := goodIn_r _ [202, 203, 204, 94, 96, 97, 124, 100, 95, 98, 180, 181, 182, 5, 183, 101, 125, 126, 127, 205, 206, 207, 208, 99, 605, 606, 607, 608, 609, 610, 611, 612, 613, 614, 615, 616, 617, 618, 619, 620, 621, 622, 623, 624, 625, 626] (by decide +kernel) (by decide +kernel)
set_option maxRecDepth 20000 in
theorem gL_law_X8_load : GoodIn wsL_law (wsV RL 30 RX8 yX8_load wsX8_load) := goodIn_app (goodIn_of _ (by decide +kernel)) ggL_law_X8_load
set_option maxRecDepth 20000 in
theorem ggL_law_X7_target : GoodIn wsL_law wsX7_target := goodIn_r _ [212, 19, 213, 37, 195, 196, 197, 18, 198, 62, 597, 598, 599, 600, 601, 602, 603, 604, 630, 631, 632] (by decide +kernel) (by decide +kernel)
set_option maxRecDepth 20000 in
theorem gL_law_X7_target : GoodIn wsL_law (wsV RL 31 RX7 yX7_target wsX7_target) := goodIn_app (goodIn_of _ (by decide +kernel)) ggL_law_X7_target
set_option maxRecDepth 20000 in
theorem ggL_law_X8_target : GoodIn wsL_law wsX8_target := goodIn_r _ [217, 218, 125, 126, 5, 127, 205, 206, 207, 208, 99, 605, 606, 607, 608, 609, 610, 611, 612, 613, 614, 615, 616, 617, 618, 619, 620, 621, 622, 623, 624, 625, 626] (by decide +kernel) (by decide +kernel)
set_option maxRecDepth 20000 in
theorem gL_law_X8_target : GoodIn wsL_law (wsV RL 34 RX8 yX8_target wsX8_target) := goodIn_app (goodIn_of _ (by decide +kernel)) ggL_law_X8_target
set_option maxRecDepth 20000 in
theorem ggL_law_X7_link : GoodIn wsL_law wsX7_link := goodIn_r _ [222, 19, 188, 190, 213, 223, 37, 597, 598, 599, 600, 601, 602, 603, 604, 630, 631, 632, 652, 653, 654, 655, 656, 657, 658, 659, 660, 661, 662, 663] (by decide +kernel) (by decide +kernel)
set_option maxRecDepth 20000 in
theorem gL_law_X7_link : GoodIn wsL_law (wsV RL 35 RX7 yX7_link wsX7_link) := goodIn_app (goodIn_of _ (by decide +kernel)) ggL_law_X7_link
set_option maxRecDepth 20000 in
theorem ggL_law_X8_link : GoodIn wsL_law wsX8_link := goodIn_r _ [227, 203, 218, 99, 125, 126, 5, 127, 605, 606, 607, 608, 609, 610, 611, 612, 613, 614, 615, 616, 617, 618, 619, 620, 621, 622, 623, 624, 625, 626] (by decide +kernel) (by decide +kernel)
set_option maxRecDepth 20000 in
theorem gL_law_X8_link : GoodIn wsL_law (wsV RL 39 RX8 yX8_link wsX8_link) := goodIn_app (goodIn_of _ (by decide +kernel)) ggL_law_X8_link
set_option maxRecDepth 20000 in
theorem ggL_law_X7_pair : GoodIn wsL_law wsX7_pair := goodIn_r _ [231, 19, 188, 232, 233, 234, 235, 24, 236, 237, 28, 238, 239, 240, 241, 242, 166, 2, 167, 243, 244, 245, 246, 37, 213, 32, 36, 247, 248, 249, 23, 250, 251, 252, 253, 254, 68, 255, 256, 257, 258, 259, 260, 261, 66, 67, 262, 263, 264, 18, 265, 62, 266, 267, 268, 269, 270, 271, 272, 273, 274, 275, 276, 277, 278, 279, 27, 280, 281, 282, 283, 77, 284, 285, 286, 287, 76, 288, 289, 290, 291, 292, 293, 294, 295, 296, 297, 298, 299, 300, 301, 302, 303, 304, 305, 306, 307, 308, 78, 309, 310, 311, 312, 313, 314, 315, 316, 317, 318, 319, 320, 321, 322, 323, 324, 325, 326, 327, 328, 329, 330, 331, 332, 333, 334, 72, 73, 74, 335, 336, 337, 31, 338, 83, 339, 340, 341, 342, 84, 82, 343, 344, 345, 346, 347, 348, 349, 350, 351, 35, 352, 353, 354, 355, 356, 357, 358, 359, 360, 361, 362, 363, 364, 365, 366, 367, 368, 369, 370, 371, 372, 373, 374, 88, 375, 376, 377, 378, 89, 379, 380, 381, 43, 382, 53, 383, 384, 385, 386, 387, 388, 389, 390, 391, 392, 393, 394, 395, 396, 397, 398, 399, 400, 401, 402, 403, 404, 405, 406, 407, 408, 409, 597, 598, 599, 600, 601, 602, 603, 604, 630, 631, 632, 652, 653, 654, 655, 656, 657, 658, 659, 660, 661, 662, 663, 633, 634, 635, 636, 637, 638, 639, 640, 641, 642, 643, 644, 645, 646, 647, 648, 649, 650, 651] (by decide +kernel) (by decide +kernel)
set_option maxRecDepth 20000 in
theorem gL_law_X7_pair : GoodIn wsL_law (wsV RL 40 RX7 yX7_pair wsX7_pair) := goodIn_app (goodIn_of _ (by decide +kernel)) ggL_law_X7_pair
set_option maxRecDepth 20000 in
theorem ggL_law_X8_pair : GoodIn wsL_law wsX8_pair := goodIn_r _ [413, 94, 95, 96, 103, 104, 414, 415, 416, 5, 417, 125, 126, 127, 418, 419, 420, 421, 218, 102, 422, 423, 424, 425, 426, 427, 428, 429, 430, 431, 432, 433, 434, 435, 436, 437, 438, 439, 440, 441, 442, 443, 444, 445, 446, 447, 448, 449, 450, 451, 452, 453, 454, 455, 456, 457, 458, 459, 460, 461, 462, 99, 463, 464, 465, 466, 467, 468, 469, 470, 471, 472, 473, 474, 475, 476, 477, 478, 479, 480, 204, 481, 97, 98, 105, 482, 483, 484, 485, 605, 606, 607, 608, 609, 610, 611, 612, 613, 614, 615, 616, 617, 618, 619, 620, 621, 622, 623, 624, 625, 626] (by decide +kernel) (by decide +kernel)
set_option maxRecDepth 20000 in
theorem gL_law_X8_pair : GoodIn wsL_law (wsV RL 43 RX8 yX8_pair wsX8_pair) := goodIn_app (goodIn_of _ (by decide +kernel)) ggL_law_X8_pair
set_option maxRecDepth 20000 in
theorem ggL_law_X7_mark : GoodIn wsL_law wsX7_mark := goodIn_r _ [489, 19, 188, 490, 491, 24, 492, 32, 493, 242, 166, 2, 167, 243, 244, 245, 246, 37, 28, 213, 36, 247, 248, 249, 23, 250, 251, 252, 253, 254, 68, 255, 256, 257, 258, 259, 260, 261, 66, 67, 262, 263, 264, 18, 265, 62, 266, 267, 268, 269, 270, 271, 272, 273, 274, 275, 276, 277, 278, 279, 27, 280, 281, 282, 283, 77, 284, 285, 286, 287, 76, 288, 289, 290, 291, 292, 293, 294, 295, 296, 297, 298, 299, 300, 301, 302, 303, 304, 305, 306, 307, 308, 78, 309, 310, 311, 312, 313, 314, 315, 316, 317, 318, 319, 320, 321, 322, 323, 324, 325, 326, 327, 328, 329, 330, 331, 332, 333, 334, 72, 73, 74, 335, 336, 337, 31, 338, 83, 339, 340, 341, 342, 84, 82, 343, 344, 345, 346, 347, 348, 349, 350, 351, 35, 352, 353, 354, 355, 356, 357, 358, 359, 360, 361, 362, 363, 364, 365, 366, 367, 368, 369, 370, 371, 372, 373, 374, 88, 375, 376, 377, 378, 89, 379, 380, 381, 43, 382, 53, 383, 384, 385, 386, 387, 388, 389, 390, 391, 392, 393, 394, 395, 396, 397, 398, 399, 400, 401, 402, 403, 404, 405, 406, 407, 408, 597, 598, 599, 600, 601, 602, 603, 604, 630, 631, 632, 652, 653, 654, 655, 656, 657, 658, 659, 660, 661, 662, 663, 633, 634, 635, 636, 645, 646, 647, 648, 637, 638, 639, 640, 641, 642, 643, 644, 649, 650, 651] (by decide +kernel) (by decide +kernel)
set_option maxRecDepth 20000 in
theorem gL_law_X7_mark : GoodIn wsL_law (wsV RL 44 RX7 yX7_mark wsX7_mark) := goodIn_app (goodIn_of _ (by decide +kernel)) ggL_law_X7_mark
set_option maxRecDepth 20000 in
theorem ggL_law_X8_mark : GoodIn wsL_law wsX8_mark := goodIn_r _ [497, 97, 105, 125, 126, 5, 127, 418, 419, 420, 421, 218, 102, 422, 423, 424, 103, 104, 425, 426, 427, 428, 414, 415, 416, 417, 94, 429, 430, 431, 432, 433, 434, 435, 436, 437, 438, 439, 96, 440, 441, 442, 443, 444, 445, 446, 447, 448, 449, 450, 451, 452, 453, 454, 455, 456, 457, 458, 459, 460, 461, 462, 95, 99, 463, 464, 465, 466, 467, 468, 469, 470, 471, 472, 473, 474, 475, 476, 477, 478, 479, 480, 204, 481, 98, 605, 606, 607, 608, 609, 610, 611, 612, 613, 614, 615, 616, 617, 618, 619, 620, 621, 622, 623, 624, 625, 626] (by decide +kernel) (by decide +kernel)
set_option maxRecDepth 20000 in
theorem gL_law_X8_mark : GoodIn wsL_law (wsV RL 47 RX8 yX8_mark wsX8_mark) := goodIn_app (goodIn_of _ (by decide +kernel)) ggL_law_X8_mark
set_option maxRecDepth 20000 in
theorem ggL_law_X7_total : GoodIn wsL_law wsX7_total := goodIn_r _ [501, 28, 502, 32, 503, 19, 188, 232, 24, 241, 490, 243, 244, 245, 2, 246, 37, 213, 36, 247, 248, 249, 23, 250, 251, 252, 253, 254, 68, 255, 166, 167, 256, 257, 258, 259, 260, 261, 66, 67, 262, 263, 264, 18, 265, 62, 266, 267, 268, 269, 270, 271, 272, 273, 274, 275, 276, 277, 278, 279, 27, 280, 281, 282, 283, 77, 284, 285, 286, 287, 76, 288, 289, 290, 291, 292, 293, 294, 295, 296, 297, 298, 299, 300, 301, 302, 303, 304, 305, 306, 307, 308, 78, 309, 310, 311, 312, 313, 314, 315, 316, 317, 318, 319, 320, 321, 322, 323, 324, 325, 326, 327, 328, 329, 330, 331, 332, 333, 334, 72, 73, 74, 335, 336, 337, 31, 338, 83, 339, 340, 341, 342, 84, 82, 343, 344, 345, 346, 347, 348, 349, 350, 351, 35, 352, 353, 354, 355, 356, 357, 358, 359, 360, 361, 362, 363, 364, 365, 366, 367, 368, 369, 370, 371, 372, 373, 374, 88, 375, 376, 377, 378, 89, 379, 380, 381, 43, 382, 53, 383, 384, 385, 386, 387, 388, 389, 390, 391, 392, 393, 394, 395, 396, 397, 398, 399, 400, 401, 402, 403, 404, 405, 406, 407, 408, 504, 505, 506, 507, 508, 509, 510, 511, 512, 513, 514, 515, 516, 517, 518, 519, 520, 521, 522, 523, 524, 150, 52, 597, 598, 599, 600, 601, 602, 603, 604, 637, 638, 639, 640, 641, 642, 643, 644, 645, 646, 647, 648, 630, 631, 632, 652, 653, 654, 655, 656, 657, 658, 659, 660, 661, 662, 663, 633, 634, 635, 636, 649, 650, 651] (by decide +kernel) (by decide +kernel)
set_option maxRecDepth 20000 in
theorem gL_law_X7_total : GoodIn wsL_law (wsV RL 48 RX7 yX7_total wsX7_total) := goodIn_app (goodIn_of _ (by decide +kernel)) ggL_law_X7_total
set_option maxRecDepth 20000 in
theorem ggL_law_X8_total : GoodIn wsL_law wsX8_total := goodIn_r _ [528, 423, 481, 204, 98, 203, 99, 96, 125, 126, 5, 127, 418, 419, 420, 421, 218, 102, 422, 424, 103, 104, 425, 426, 427, 428, 414, 415, 416, 417, 94, 429, 430, 431, 432, 433, 434, 435, 436, 437, 438, 439, 440, 441, 442, 443, 444, 445, 446, 447, 448, 449, 450, 451, 452, 453, 454, 455, 456, 457, 458, 459, 460, 461, 462, 95, 463, 464, 465, 466, 467, 468, 469, 470, 471, 472, 473, 474, 475, 476, 477, 478, 479, 480, 97, 105, 529, 530, 531, 532, 533, 534, 535, 605, 606, 607, 608, 609, 610, 611, 612, 613, 614, 615, 616, 617, 618, 619, 620, 621, 622, 623, 624, 625, 626] (by decide +kernel) (by decide +kernel)
set_option maxRecDepth 20000 in
theorem gL_law_X8_total : GoodIn wsL_law (wsV RL 51 RX8 yX8_total wsX8_total) := goodIn_app (goodIn_of _ (by decide +kernel)) ggL_law_X8_total
set_option maxRecDepth 20000 in
theorem ggL_law_X7_sign : GoodIn wsL_law wsX7_sign := goodIn_r _ [539, 36, 540, 541, 243, 244, 245, 2, 246, 37, 24, 19, 28, 188, 213, 32, 247, 248, 249, 23, 250, 251, 252, 253, 254, 68, 255, 166, 167, 256, 257, 258, 259, 260, 261, 66, 67, 262, 263, 264, 18, 265, 62, 266, 267, 268, 269, 270, 271, 272, 273, 274, 275, 276, 277, 278, 279, 27, 280, 281, 282, 283, 77, 284, 285, 286, 287, 76, 288, 289, 290, 291, 292, 293, 294, 295, 296, 297, 298, 299, 300, 301, 302, 303, 304, 305, 306, 307, 308, 78, 309, 310, 311, 312, 313, 314, 315, 316, 317, 318, 319, 320, 321, 322, 323, 324, 325, 326, 327, 328, 329, 330, 331, 332, 333, 334, 72, 73, 74, 335, 336, 337, 31, 338, 83, 339, 340, 341, 342, 84, 82, 343, 344, 345, 346, 347, 348, 349, 350, 351, 35, 352, 353, 354, 355, 356, 357, 358, 359, 360, 361, 362, 363, 364, 365, 366, 367, 368, 369, 370, 371, 372, 373, 374, 88, 375, 376, 377, 378, 89, 379, 380, 381, 43, 382, 53, 383, 384, 385, 386, 387, 388, 389, 390, 391, 392, 393, 394, 395, 396, 397, 398, 399, 400, 401, 402, 403, 404, 405, 406, 407, 408, 597, 598, 599, 600, 601, 602, 603, 604, 649, 650, 651, 630, 631, 632, 633, 634, 635, 636, 652, 653, 654, 655, 656, 657, 658, 659, 660, 661, 662, 663, 637, 638, 639, 640, 641, 642, 643, 644, 645, 646, 647, 648] (by decide +kernel) (by decide +kernel)
set_option maxRecDepth 20000 in
theorem gL_law_X7_sign : GoodIn wsL_law (wsV RL 52 RX7 yX7_sign wsX7_sign) := goodIn_app (goodIn_of _ (by decide +kernel)) ggL_law_X7_sign
set_option maxRecDepth 20000 in
theorem ggL_law_X8_sign : GoodIn wsL_law wsX8_sign := goodIn_r _ [545, 546, 218, 204, 105, 98, 106, 418, 419, 420, 5, 421, 102, 422, 423, 424, 103, 104, 425, 426, 427, 428, 414, 415, 416, 417, 94, 125, 126, 127, 429, 430, 431, 432, 433, 434, 435, 436, 437, 438, 439, 96, 440, 441, 442, 443, 444, 445, 446, 447, 448, 449, 450, 451, 452, 453, 454, 455, 456, 457, 458, 459, 460, 461, 462, 95, 99, 463, 464, 465, 466, 467, 468, 469, 470, 471, 472, 473, 474, 475, 476, 477, 478, 479, 480, 481, 97, 547, 548, 549, 550, 551, 552, 553, 554, 555, 556, 557, 558, 559, 560, 561, 562, 482, 483, 484, 485, 563, 564, 565, 566, 605, 606, 607, 608, 609, 610, 611, 612, 613, 614, 615, 616, 617, 618, 619, 620, 621, 622, 623, 624, 625, 626] (by decide +kernel) (by decide +kernel)
set_option maxRecDepth 20000 in
theorem gL_law_X8_sign : GoodIn wsL_law (wsV RL 55 RX8 yX8_sign wsX8_sign) := goodIn_app (goodIn_of _ (by decide +kernel)) ggL_law_X8_sign
set_option maxRecDepth 20000 in
theorem ggL_law_X7_image : GoodIn wsL_law wsX7_image := goodIn_r _ [570, 20, 16, 17, 18, 19, 57, 58, 59, 10, 11, 60, 42, 43, 61, 45, 62, 47, 48, 49, 50, 51, 52, 53, 54, 55, 56, 571, 572, 573, 574, 575, 576, 192, 193, 194, 149, 150, 151, 152, 153, 597, 598, 599, 600, 601, 602, 603, 604, 630, 631, 632, 652, 653, 654, 655, 656, 657, 658, 659, 660, 661, 662, 663] (by decide +kernel) (by decide +kernel)
set_option maxRecDepth 20000 in
theorem gL_law_X7_image : GoodIn wsL_law (wsV RL 56 RX7 yX7_image wsX7_image) := goodIn_app (goodIn_of _ (by decide +kernel)) ggL_law_X7_image
set_option maxRecDepth 20000 in
theorem ggL_law_X8_image : GoodIn wsL_law wsX8_image := goodIn_r _ [580, 107, 94, 95, 96, 97, 98, 99, 203, 204, 218, 109, 125, 126, 5, 127, 605, 606, 607, 608, 609, 610, 611, 612, 613, 614, 615, 616, 617, 618, 619, 620, 621, 622, 623, 624, 625, 626] (by decide +kernel) (by decide +kernel)
set_option maxRecDepth 20000 in
theorem gL_law_X8_image : GoodIn wsL_law (wsV RL 59 RX8 yX8_image wsX8_image) := goodIn_app (goodIn_of _ (by decide +kernel)) ggL_law_X8_image
set_option maxRecDepth 20000 in
theorem ggL_law_X7_restore : GoodIn wsL_law wsX7_restore := goodIn_r _ [584, 20, 19, 37, 571, 572, 573, 18, 574, 61, 575, 62, 576, 192, 193, 43, 194, 149, 150, 151, 152, 153, 50, 51, 52, 53, 56, 54, 55, 597, 598, 599, 600, 601, 602, 603, 604, 630, 631, 632, 652, 653, 654, 655, 656, 657, 658, 659, 660, 661, 662, 663] (by decide +kernel) (by decide +kernel)
set_option maxRecDepth 20000 in
theorem gL_law_X7_restore : GoodIn wsL_law (wsV RL 60 RX7 yX7_restore wsX7_restore) := goodIn_app (goodIn_of _ (by decide +kernel)) ggL_law_X7_restore
set_option maxRecDepth 20000 in
theorem ggL_law_X8_restore : GoodIn wsL_law wsX8_restore := goodIn_r _ [588, 109, 94, 107, 95, 96, 97, 98, 99, 203, 204, 218, 125, 126, 5, 127, 605, 606, 607, 608, 609, 610, 611, 612, 613, 614, 615, 616, 617, 618, 619, 620, 621, 622, 623, 624, 625, 626] (by decide +kernel) (by decide +kernel)
set_option maxRecDepth 20000 in
theorem gL_law_X8_restore : GoodIn wsL_law (wsV RL 63 RX8 yX8_restore wsX8_restore) := goodIn_app (goodIn_of _ (by decide +kernel)) ggL_law_X8_restore
set_option maxRecDepth 20000 in
theorem ggL_law_X7_told : GoodIn wsL_law wsX7_told := goodIn_r _ [592, 19, 188, 190, 223, 15, 114, 213, 597, 598, 599, 600, 601, 602, 603, 604, 630, 631, 632, 652, 653, 654, 655, 656, 657, 658, 659, 660, 661, 662, 663, 627, 628, 629] (by decide +kernel) (by decide +kernel)
set_option maxRecDepth 20000 in
theorem gL_law_X7_told : GoodIn wsL_law (wsV RL 64 RX7 yX7_told wsX7_told) := goodIn_app (goodIn_of _ (by decide +kernel)) ggL_law_X7_told
set_option maxRecDepth 20000 in
theorem ggL_law_X8_told : GoodIn wsL_law wsX8_told := goodIn_r _ [596, 124, 203, 218, 99, 125, 126, 5, 127, 605, 606, 607, 608, 609, 610, 611, 612, 613, 614, 615, 616, 617, 618, 619, 620, 621, 622, 623, 624, 625, 626] (by decide +kernel) (by decide +kernel)
set_option maxRecDepth 20000 in
theorem gL_law_X8_told : GoodIn wsL_law (wsV RL 67 RX8 yX8_told wsX8_told) := goodIn_app (goodIn_of _ (by decide +kernel)) ggL_law_X8_told
theorem dL_law_0 : decode cL_law 0 = .ok (.new 7, 3) := by decide +kernel
theorem dL_law_3 : decode cL_law 3 = .ok (.dup, 1) := by decide +kernel
theorem dL_law_4 : decode cL_law 4 = .ok (.invokespecial 9, 3) := by decide +kernel
theorem dL_law_7 : decode cL_law 7 = .ok (.astore_n 1, 1) := by decide +kernel
theorem dL_law_8 : decode cL_law 8 = .ok (.new 10, 3) := by decide +kernel
theorem dL_law_11 : decode cL_law 11 = .ok (.dup, 1) := by decide +kernel
theorem dL_law_12 : decode cL_law 12 = .ok (.invokespecial 12, 3) := by decide +kernel
theorem dL_law_15 : decode cL_law 15 = .ok (.astore_n 2, 1) := by decide +kernel
theorem dL_law_16 : decode cL_law 16 = .ok (.iconst 0, 1) := by decide +kernel
theorem dL_law_17 : decode cL_law 17 = .ok (.istore_n 3, 1) := by decide +kernel
theorem dL_law_18 : decode cL_law 18 = .ok (.iload_n 3, 1) := by decide +kernel
theorem dL_law_19 : decode cL_law 19 = .ok (.aload_n 0, 1) := by decide +kernel
theorem dL_law_20 : decode cL_law 20 = .ok (.arraylength, 1) := by decide +kernel
theorem dL_law_21 : decode cL_law 21 = .ok (.iconst 3, 1) := by decide +kernel
theorem dL_law_22 : decode cL_law 22 = .ok (.isub, 1) := by decide +kernel
theorem dL_law_23 : decode cL_law 23 = .ok (.if_icmp .gt 382, 3) := by decide +kernel
theorem dL_law_26 : decode cL_law 26 = .ok (.aload_n 0, 1) := by decide +kernel
theorem dL_law_27 : decode cL_law 27 = .ok (.iload_n 3, 1) := by decide +kernel
theorem dL_law_28 : decode cL_law 28 = .ok (.iaload, 1) := by decide +kernel
theorem dL_law_29 : decode cL_law 29 = .ok (.bipush 15, 2) := by decide +kernel
theorem dL_law_31 : decode cL_law 31 = .ok (.iand, 1) := by decide +kernel
theorem dL_law_32 : decode cL_law 32 = .ok (.tableswitch 367 0 12 #[68, 91, 104, 117, 130, 153, 186, 219, 252, 275, 298, 321, 344], 68) := by decide +kernel
theorem dL_law_100 : decode cL_law 100 = .ok (.aload_n 1, 1) := by decide +kernel
theorem dL_law_101 : decode cL_law 101 = .ok (.aload_n 0, 1) := by decide +kernel
theorem dL_law_102 : decode cL_law 102 = .ok (.iload_n 3, 1) := by decide +kernel
theorem dL_law_103 : decode cL_law 103 = .ok (.iconst 1, 1) := by decide +kernel
theorem dL_law_104 : decode cL_law 104 = .ok (.iadd, 1) := by decide +kernel
theorem dL_law_105 : decode cL_law 105 = .ok (.iaload, 1) := by decide +kernel
theorem dL_law_106 : decode cL_law 106 = .ok (.invokevirtual 13, 3) := by decide +kernel
theorem dL_law_109 : decode cL_law 109 = .ok (.aload_n 2, 1) := by decide +kernel
theorem dL_law_110 : decode cL_law 110 = .ok (.aload_n 0, 1) := by decide +kernel
theorem dL_law_111 : decode cL_law 111 = .ok (.iload_n 3, 1) := by decide +kernel
theorem dL_law_112 : decode cL_law 112 = .ok (.iconst 1, 1) := by decide +kernel
theorem dL_law_113 : decode cL_law 113 = .ok (.iadd, 1) := by decide +kernel
theorem dL_law_114 : decode cL_law 114 = .ok (.iaload, 1) := by decide +kernel
theorem dL_law_115 : decode cL_law 115 = .ok (.invokevirtual 17, 3) := by decide +kernel
theorem dL_law_118 : decode cL_law 118 = .ok (.if_icmp .eq 281, 3) := by decide +kernel
theorem dL_law_121 : decode cL_law 121 = .ok (.iconst 0, 1) := by decide +kernel
theorem dL_law_122 : decode cL_law 122 = .ok (.ireturn, 1) := by decide +kernel
theorem dL_law_123 : decode cL_law 123 = .ok (.aload_n 1, 1) := by decide +kernel
theorem dL_law_124 : decode cL_law 124 = .ok (.invokevirtual 18, 3) := by decide +kernel
theorem dL_law_127 : decode cL_law 127 = .ok (.aload_n 2, 1) := by decide +kernel
theorem dL_law_128 : decode cL_law 128 = .ok (.invokevirtual 22, 3) := by decide +kernel
theorem dL_law_131 : decode cL_law 131 = .ok (.if_icmp .eq 268, 3) := by decide +kernel
theorem dL_law_134 : decode cL_law 134 = .ok (.iconst 0, 1) := by decide +kernel
theorem dL_law_135 : decode cL_law 135 = .ok (.ireturn, 1) := by decide +kernel
theorem dL_law_136 : decode cL_law 136 = .ok (.aload_n 1, 1) := by decide +kernel
theorem dL_law_137 : decode cL_law 137 = .ok (.invokevirtual 23, 3) := by decide +kernel
theorem dL_law_140 : decode cL_law 140 = .ok (.aload_n 2, 1) := by decide +kernel
theorem dL_law_141 : decode cL_law 141 = .ok (.invokevirtual 26, 3) := by decide +kernel
theorem dL_law_144 : decode cL_law 144 = .ok (.if_icmp .eq 255, 3) := by decide +kernel
theorem dL_law_147 : decode cL_law 147 = .ok (.iconst 0, 1) := by decide +kernel
theorem dL_law_148 : decode cL_law 148 = .ok (.ireturn, 1) := by decide +kernel
theorem dL_law_149 : decode cL_law 149 = .ok (.aload_n 1, 1) := by decide +kernel
theorem dL_law_150 : decode cL_law 150 = .ok (.invokevirtual 27, 3) := by decide +kernel
theorem dL_law_153 : decode cL_law 153 = .ok (.aload_n 2, 1) := by decide +kernel
theorem dL_law_154 : decode cL_law 154 = .ok (.invokevirtual 30, 3) := by decide +kernel
theorem dL_law_157 : decode cL_law 157 = .ok (.if_icmp .eq 242, 3) := by decide +kernel
theorem dL_law_160 : decode cL_law 160 = .ok (.iconst 0, 1) := by decide +kernel
theorem dL_law_161 : decode cL_law 161 = .ok (.ireturn, 1) := by decide +kernel
theorem dL_law_162 : decode cL_law 162 = .ok (.aload_n 1, 1) := by decide +kernel
theorem dL_law_163 : decode cL_law 163 = .ok (.aload_n 0, 1) := by decide +kernel
theorem dL_law_164 : decode cL_law 164 = .ok (.iload_n 3, 1) := by decide +kernel
theorem dL_law_165 : decode cL_law 165 = .ok (.iconst 1, 1) := by decide +kernel
theorem dL_law_166 : decode cL_law 166 = .ok (.iadd, 1) := by decide +kernel
theorem dL_law_167 : decode cL_law 167 = .ok (.iaload, 1) := by decide +kernel
theorem dL_law_168 : decode cL_law 168 = .ok (.invokevirtual 31, 3) := by decide +kernel
theorem dL_law_171 : decode cL_law 171 = .ok (.aload_n 2, 1) := by decide +kernel
theorem dL_law_172 : decode cL_law 172 = .ok (.aload_n 0, 1) := by decide +kernel
theorem dL_law_173 : decode cL_law 173 = .ok (.iload_n 3, 1) := by decide +kernel
theorem dL_law_174 : decode cL_law 174 = .ok (.iconst 1, 1) := by decide +kernel
theorem dL_law_175 : decode cL_law 175 = .ok (.iadd, 1) := by decide +kernel
theorem dL_law_176 : decode cL_law 176 = .ok (.iaload, 1) := by decide +kernel
theorem dL_law_177 : decode cL_law 177 = .ok (.invokevirtual 34, 3) := by decide +kernel
theorem dL_law_180 : decode cL_law 180 = .ok (.if_icmp .eq 219, 3) := by decide +kernel
theorem dL_law_183 : decode cL_law 183 = .ok (.iconst 0, 1) := by decide +kernel
theorem dL_law_184 : decode cL_law 184 = .ok (.ireturn, 1) := by decide +kernel
theorem dL_law_185 : decode cL_law 185 = .ok (.aload_n 1, 1) := by decide +kernel
theorem dL_law_186 : decode cL_law 186 = .ok (.aload_n 0, 1) := by decide +kernel
theorem dL_law_187 : decode cL_law 187 = .ok (.iload_n 3, 1) := by decide +kernel
theorem dL_law_188 : decode cL_law 188 = .ok (.iconst 1, 1) := by decide +kernel
theorem dL_law_189 : decode cL_law 189 = .ok (.iadd, 1) := by decide +kernel
theorem dL_law_190 : decode cL_law 190 = .ok (.iaload, 1) := by decide +kernel
theorem dL_law_191 : decode cL_law 191 = .ok (.aload_n 0, 1) := by decide +kernel
theorem dL_law_192 : decode cL_law 192 = .ok (.iload_n 3, 1) := by decide +kernel
theorem dL_law_193 : decode cL_law 193 = .ok (.iconst 2, 1) := by decide +kernel
theorem dL_law_194 : decode cL_law 194 = .ok (.iadd, 1) := by decide +kernel
theorem dL_law_195 : decode cL_law 195 = .ok (.iaload, 1) := by decide +kernel
theorem dL_law_196 : decode cL_law 196 = .ok (.invokevirtual 35, 3) := by decide +kernel
theorem dL_law_199 : decode cL_law 199 = .ok (.aload_n 2, 1) := by decide +kernel
theorem dL_law_200 : decode cL_law 200 = .ok (.aload_n 0, 1) := by decide +kernel
theorem dL_law_201 : decode cL_law 201 = .ok (.iload_n 3, 1) := by decide +kernel
theorem dL_law_202 : decode cL_law 202 = .ok (.iconst 1, 1) := by decide +kernel
theorem dL_law_203 : decode cL_law 203 = .ok (.iadd, 1) := by decide +kernel
theorem dL_law_204 : decode cL_law 204 = .ok (.iaload, 1) := by decide +kernel
theorem dL_law_205 : decode cL_law 205 = .ok (.aload_n 0, 1) := by decide +kernel
theorem dL_law_206 : decode cL_law 206 = .ok (.iload_n 3, 1) := by decide +kernel
theorem dL_law_207 : decode cL_law 207 = .ok (.iconst 2, 1) := by decide +kernel
theorem dL_law_208 : decode cL_law 208 = .ok (.iadd, 1) := by decide +kernel
theorem dL_law_209 : decode cL_law 209 = .ok (.iaload, 1) := by decide +kernel
theorem dL_law_210 : decode cL_law 210 = .ok (.invokevirtual 39, 3) := by decide +kernel
theorem dL_law_213 : decode cL_law 213 = .ok (.if_icmp .eq 186, 3) := by decide +kernel
theorem dL_law_216 : decode cL_law 216 = .ok (.iconst 0, 1) := by decide +kernel
theorem dL_law_217 : decode cL_law 217 = .ok (.ireturn, 1) := by decide +kernel
theorem dL_law_218 : decode cL_law 218 = .ok (.aload_n 1, 1) := by decide +kernel
theorem dL_law_219 : decode cL_law 219 = .ok (.aload_n 0, 1) := by decide +kernel
theorem dL_law_220 : decode cL_law 220 = .ok (.iload_n 3, 1) := by decide +kernel
theorem dL_law_221 : decode cL_law 221 = .ok (.iconst 1, 1) := by decide +kernel
theorem dL_law_222 : decode cL_law 222 = .ok (.iadd, 1) := by decide +kernel
theorem dL_law_223 : decode cL_law 223 = .ok (.iaload, 1) := by decide +kernel
theorem dL_law_224 : decode cL_law 224 = .ok (.aload_n 0, 1) := by decide +kernel
theorem dL_law_225 : decode cL_law 225 = .ok (.iload_n 3, 1) := by decide +kernel
theorem dL_law_226 : decode cL_law 226 = .ok (.iconst 2, 1) := by decide +kernel
theorem dL_law_227 : decode cL_law 227 = .ok (.iadd, 1) := by decide +kernel
theorem dL_law_228 : decode cL_law 228 = .ok (.iaload, 1) := by decide +kernel
theorem dL_law_229 : decode cL_law 229 = .ok (.invokevirtual 40, 3) := by decide +kernel
theorem dL_law_232 : decode cL_law 232 = .ok (.aload_n 2, 1) := by decide +kernel
theorem dL_law_233 : decode cL_law 233 = .ok (.aload_n 0, 1) := by decide +kernel
theorem dL_law_234 : decode cL_law 234 = .ok (.iload_n 3, 1) := by decide +kernel
theorem dL_law_235 : decode cL_law 235 = .ok (.iconst 1, 1) := by decide +kernel
theorem dL_law_236 : decode cL_law 236 = .ok (.iadd, 1) := by decide +kernel
theorem dL_law_237 : decode cL_law 237 = .ok (.iaload, 1) := by decide +kernel
theorem dL_law_238 : decode cL_law 238 = .ok (.aload_n 0, 1) := by decide +kernel
theorem dL_law_239 : decode cL_law 239 = .ok (.iload_n 3, 1) := by decide +kernel
theorem dL_law_240 : decode cL_law 240 = .ok (.iconst 2, 1) := by decide +kernel
theorem dL_law_241 : decode cL_law 241 = .ok (.iadd, 1) := by decide +kernel
theorem dL_law_242 : decode cL_law 242 = .ok (.iaload, 1) := by decide +kernel
theorem dL_law_243 : decode cL_law 243 = .ok (.invokevirtual 43, 3) := by decide +kernel
theorem dL_law_246 : decode cL_law 246 = .ok (.if_icmp .eq 153, 3) := by decide +kernel
theorem dL_law_249 : decode cL_law 249 = .ok (.iconst 0, 1) := by decide +kernel
theorem dL_law_250 : decode cL_law 250 = .ok (.ireturn, 1) := by decide +kernel
theorem dL_law_251 : decode cL_law 251 = .ok (.aload_n 1, 1) := by decide +kernel
theorem dL_law_252 : decode cL_law 252 = .ok (.aload_n 0, 1) := by decide +kernel
theorem dL_law_253 : decode cL_law 253 = .ok (.iload_n 3, 1) := by decide +kernel
theorem dL_law_254 : decode cL_law 254 = .ok (.iconst 1, 1) := by decide +kernel
theorem dL_law_255 : decode cL_law 255 = .ok (.iadd, 1) := by decide +kernel
theorem dL_law_256 : decode cL_law 256 = .ok (.iaload, 1) := by decide +kernel
theorem dL_law_257 : decode cL_law 257 = .ok (.aload_n 0, 1) := by decide +kernel
theorem dL_law_258 : decode cL_law 258 = .ok (.iload_n 3, 1) := by decide +kernel
theorem dL_law_259 : decode cL_law 259 = .ok (.iconst 2, 1) := by decide +kernel
theorem dL_law_260 : decode cL_law 260 = .ok (.iadd, 1) := by decide +kernel
theorem dL_law_261 : decode cL_law 261 = .ok (.iaload, 1) := by decide +kernel
theorem dL_law_262 : decode cL_law 262 = .ok (.invokevirtual 44, 3) := by decide +kernel
theorem dL_law_265 : decode cL_law 265 = .ok (.aload_n 2, 1) := by decide +kernel
theorem dL_law_266 : decode cL_law 266 = .ok (.aload_n 0, 1) := by decide +kernel
theorem dL_law_267 : decode cL_law 267 = .ok (.iload_n 3, 1) := by decide +kernel
theorem dL_law_268 : decode cL_law 268 = .ok (.iconst 1, 1) := by decide +kernel
theorem dL_law_269 : decode cL_law 269 = .ok (.iadd, 1) := by decide +kernel
theorem dL_law_270 : decode cL_law 270 = .ok (.iaload, 1) := by decide +kernel
theorem dL_law_271 : decode cL_law 271 = .ok (.aload_n 0, 1) := by decide +kernel
theorem dL_law_272 : decode cL_law 272 = .ok (.iload_n 3, 1) := by decide +kernel
theorem dL_law_273 : decode cL_law 273 = .ok (.iconst 2, 1) := by decide +kernel
theorem dL_law_274 : decode cL_law 274 = .ok (.iadd, 1) := by decide +kernel
theorem dL_law_275 : decode cL_law 275 = .ok (.iaload, 1) := by decide +kernel
theorem dL_law_276 : decode cL_law 276 = .ok (.invokevirtual 47, 3) := by decide +kernel
theorem dL_law_279 : decode cL_law 279 = .ok (.if_icmp .eq 120, 3) := by decide +kernel
theorem dL_law_282 : decode cL_law 282 = .ok (.iconst 0, 1) := by decide +kernel
theorem dL_law_283 : decode cL_law 283 = .ok (.ireturn, 1) := by decide +kernel
theorem dL_law_284 : decode cL_law 284 = .ok (.aload_n 1, 1) := by decide +kernel
theorem dL_law_285 : decode cL_law 285 = .ok (.aload_n 0, 1) := by decide +kernel
theorem dL_law_286 : decode cL_law 286 = .ok (.iload_n 3, 1) := by decide +kernel
theorem dL_law_287 : decode cL_law 287 = .ok (.iconst 1, 1) := by decide +kernel
theorem dL_law_288 : decode cL_law 288 = .ok (.iadd, 1) := by decide +kernel
theorem dL_law_289 : decode cL_law 289 = .ok (.iaload, 1) := by decide +kernel
theorem dL_law_290 : decode cL_law 290 = .ok (.invokevirtual 48, 3) := by decide +kernel
theorem dL_law_293 : decode cL_law 293 = .ok (.aload_n 2, 1) := by decide +kernel
theorem dL_law_294 : decode cL_law 294 = .ok (.aload_n 0, 1) := by decide +kernel
theorem dL_law_295 : decode cL_law 295 = .ok (.iload_n 3, 1) := by decide +kernel
theorem dL_law_296 : decode cL_law 296 = .ok (.iconst 1, 1) := by decide +kernel
theorem dL_law_297 : decode cL_law 297 = .ok (.iadd, 1) := by decide +kernel
theorem dL_law_298 : decode cL_law 298 = .ok (.iaload, 1) := by decide +kernel
theorem dL_law_299 : decode cL_law 299 = .ok (.invokevirtual 51, 3) := by decide +kernel
theorem dL_law_302 : decode cL_law 302 = .ok (.if_icmp .eq 97, 3) := by decide +kernel
theorem dL_law_305 : decode cL_law 305 = .ok (.iconst 0, 1) := by decide +kernel
theorem dL_law_306 : decode cL_law 306 = .ok (.ireturn, 1) := by decide +kernel
theorem dL_law_307 : decode cL_law 307 = .ok (.aload_n 1, 1) := by decide +kernel
theorem dL_law_308 : decode cL_law 308 = .ok (.aload_n 0, 1) := by decide +kernel
theorem dL_law_309 : decode cL_law 309 = .ok (.iload_n 3, 1) := by decide +kernel
theorem dL_law_310 : decode cL_law 310 = .ok (.iconst 1, 1) := by decide +kernel
theorem dL_law_311 : decode cL_law 311 = .ok (.iadd, 1) := by decide +kernel
theorem dL_law_312 : decode cL_law 312 = .ok (.iaload, 1) := by decide +kernel
theorem dL_law_313 : decode cL_law 313 = .ok (.invokevirtual 52, 3) := by decide +kernel
theorem dL_law_316 : decode cL_law 316 = .ok (.aload_n 2, 1) := by decide +kernel
theorem dL_law_317 : decode cL_law 317 = .ok (.aload_n 0, 1) := by decide +kernel
theorem dL_law_318 : decode cL_law 318 = .ok (.iload_n 3, 1) := by decide +kernel
theorem dL_law_319 : decode cL_law 319 = .ok (.iconst 1, 1) := by decide +kernel
theorem dL_law_320 : decode cL_law 320 = .ok (.iadd, 1) := by decide +kernel
theorem dL_law_321 : decode cL_law 321 = .ok (.iaload, 1) := by decide +kernel
theorem dL_law_322 : decode cL_law 322 = .ok (.invokevirtual 55, 3) := by decide +kernel
theorem dL_law_325 : decode cL_law 325 = .ok (.if_icmp .eq 74, 3) := by decide +kernel
theorem dL_law_328 : decode cL_law 328 = .ok (.iconst 0, 1) := by decide +kernel
theorem dL_law_329 : decode cL_law 329 = .ok (.ireturn, 1) := by decide +kernel
theorem dL_law_330 : decode cL_law 330 = .ok (.aload_n 1, 1) := by decide +kernel
theorem dL_law_331 : decode cL_law 331 = .ok (.aload_n 0, 1) := by decide +kernel
theorem dL_law_332 : decode cL_law 332 = .ok (.iload_n 3, 1) := by decide +kernel
theorem dL_law_333 : decode cL_law 333 = .ok (.iconst 1, 1) := by decide +kernel
theorem dL_law_334 : decode cL_law 334 = .ok (.iadd, 1) := by decide +kernel
theorem dL_law_335 : decode cL_law 335 = .ok (.iaload, 1) := by decide +kernel
theorem dL_law_336 : decode cL_law 336 = .ok (.invokevirtual 56, 3) := by decide +kernel
theorem dL_law_339 : decode cL_law 339 = .ok (.aload_n 2, 1) := by decide +kernel
theorem dL_law_340 : decode cL_law 340 = .ok (.aload_n 0, 1) := by decide +kernel
theorem dL_law_341 : decode cL_law 341 = .ok (.iload_n 3, 1) := by decide +kernel
theorem dL_law_342 : decode cL_law 342 = .ok (.iconst 1, 1) := by decide +kernel
theorem dL_law_343 : decode cL_law 343 = .ok (.iadd, 1) := by decide +kernel
theorem dL_law_344 : decode cL_law 344 = .ok (.iaload, 1) := by decide +kernel
theorem dL_law_345 : decode cL_law 345 = .ok (.invokevirtual 59, 3) := by decide +kernel
theorem dL_law_348 : decode cL_law 348 = .ok (.if_icmp .eq 51, 3) := by decide +kernel
theorem dL_law_351 : decode cL_law 351 = .ok (.iconst 0, 1) := by decide +kernel
theorem dL_law_352 : decode cL_law 352 = .ok (.ireturn, 1) := by decide +kernel
theorem dL_law_353 : decode cL_law 353 = .ok (.aload_n 1, 1) := by decide +kernel
theorem dL_law_354 : decode cL_law 354 = .ok (.aload_n 0, 1) := by decide +kernel
theorem dL_law_355 : decode cL_law 355 = .ok (.iload_n 3, 1) := by decide +kernel
theorem dL_law_356 : decode cL_law 356 = .ok (.iconst 1, 1) := by decide +kernel
theorem dL_law_357 : decode cL_law 357 = .ok (.iadd, 1) := by decide +kernel
theorem dL_law_358 : decode cL_law 358 = .ok (.iaload, 1) := by decide +kernel
theorem dL_law_359 : decode cL_law 359 = .ok (.invokevirtual 60, 3) := by decide +kernel
theorem dL_law_362 : decode cL_law 362 = .ok (.aload_n 2, 1) := by decide +kernel
theorem dL_law_363 : decode cL_law 363 = .ok (.aload_n 0, 1) := by decide +kernel
theorem dL_law_364 : decode cL_law 364 = .ok (.iload_n 3, 1) := by decide +kernel
theorem dL_law_365 : decode cL_law 365 = .ok (.iconst 1, 1) := by decide +kernel
theorem dL_law_366 : decode cL_law 366 = .ok (.iadd, 1) := by decide +kernel
theorem dL_law_367 : decode cL_law 367 = .ok (.iaload, 1) := by decide +kernel
theorem dL_law_368 : decode cL_law 368 = .ok (.invokevirtual 63, 3) := by decide +kernel
theorem dL_law_371 : decode cL_law 371 = .ok (.if_icmp .eq 28, 3) := by decide +kernel
theorem dL_law_374 : decode cL_law 374 = .ok (.iconst 0, 1) := by decide +kernel
theorem dL_law_375 : decode cL_law 375 = .ok (.ireturn, 1) := by decide +kernel
theorem dL_law_376 : decode cL_law 376 = .ok (.aload_n 1, 1) := by decide +kernel
theorem dL_law_377 : decode cL_law 377 = .ok (.aload_n 0, 1) := by decide +kernel
theorem dL_law_378 : decode cL_law 378 = .ok (.iload_n 3, 1) := by decide +kernel
theorem dL_law_379 : decode cL_law 379 = .ok (.iconst 1, 1) := by decide +kernel
theorem dL_law_380 : decode cL_law 380 = .ok (.iadd, 1) := by decide +kernel
theorem dL_law_381 : decode cL_law 381 = .ok (.iaload, 1) := by decide +kernel
theorem dL_law_382 : decode cL_law 382 = .ok (.invokevirtual 64, 3) := by decide +kernel
theorem dL_law_385 : decode cL_law 385 = .ok (.aload_n 2, 1) := by decide +kernel
theorem dL_law_386 : decode cL_law 386 = .ok (.aload_n 0, 1) := by decide +kernel
theorem dL_law_387 : decode cL_law 387 = .ok (.iload_n 3, 1) := by decide +kernel
theorem dL_law_388 : decode cL_law 388 = .ok (.iconst 1, 1) := by decide +kernel
theorem dL_law_389 : decode cL_law 389 = .ok (.iadd, 1) := by decide +kernel
theorem dL_law_390 : decode cL_law 390 = .ok (.iaload, 1) := by decide +kernel
theorem dL_law_391 : decode cL_law 391 = .ok (.invokevirtual 67, 3) := by decide +kernel
theorem dL_law_394 : decode cL_law 394 = .ok (.if_icmp .eq 5, 3) := by decide +kernel
theorem dL_law_397 : decode cL_law 397 = .ok (.iconst 0, 1) := by decide +kernel
theorem dL_law_398 : decode cL_law 398 = .ok (.ireturn, 1) := by decide +kernel
theorem dL_law_399 : decode cL_law 399 = .ok (.iinc 3 3, 3) := by decide +kernel
theorem dL_law_402 : decode cL_law 402 = .ok (.goto (-384), 3) := by decide +kernel
theorem dL_law_405 : decode cL_law 405 = .ok (.iconst 1, 1) := by decide +kernel
theorem dL_law_406 : decode cL_law 406 = .ok (.ireturn, 1) := by decide +kernel
abbrev vwCl : List vw_C := [(RX0, TX0, 4), (RX1, TX1, 3), (RX2, TX2, 8), (RX3, TX3, 3), (RX4, TX4, 12), (RX5, TX5, 4), (RX6, TX6, 3), (RX7, TX7, 8), (RX8, TX8, 22)]
