theorem dX0_init_0 : decode cX0_init 0 = .ok (.aload_n 0, 1) := by decide +kernel
theorem dX0_init_1 : decode cX0_init 1 = .ok (.invokespecial 3, 3) := by decide +kernel
theorem dX0_init_4 : decode cX0_init 4 = .ok (.aload_n 0, 1) := by decide +kernel
theorem dX0_init_5 : decode cX0_init 5 = .ok (.iconst 3, 1) := by decide +kernel
theorem dX0_init_6 : decode cX0_init 6 = .ok (.newarray .int, 2) := by decide +kernel
theorem dX0_init_8 : decode cX0_init 8 = .ok (.putfield 9, 3) := by decide +kernel
theorem dX0_init_11 : decode cX0_init 11 = .ok (.aload_n 0, 1) := by decide +kernel
theorem dX0_init_12 : decode cX0_init 12 = .ok (.bipush 36, 2) := by decide +kernel
theorem dX0_init_14 : decode cX0_init 14 = .ok (.newarray .int, 2) := by decide +kernel
theorem dX0_init_16 : decode cX0_init 16 = .ok (.putfield 15, 3) := by decide +kernel
theorem dX0_init_19 : decode cX0_init 19 = .ok (.aload_n 0, 1) := by decide +kernel
theorem dX0_init_20 : decode cX0_init 20 = .ok (.bipush 27, 2) := by decide +kernel
theorem dX0_init_22 : decode cX0_init 22 = .ok (.newarray .int, 2) := by decide +kernel
theorem dX0_init_24 : decode cX0_init 24 = .ok (.putfield 18, 3) := by decide +kernel
theorem dX0_init_27 : decode cX0_init 27 = .ok (.return_, 1) := by decide +kernel
set_option maxRecDepth 20000 in
theorem ggX0_place_X0_findMoves : GoodIn wsX0_place wsX0_findMoves := goodIn_r _ [12, 13, 14, 15, 16, 17, 1, 6, 18, 19, 20, 21] (by decide +kernel) (by decide +kernel)
set_option maxRecDepth 20000 in
theorem gX0_place_X0_findMoves : GoodIn wsX0_place (wsV RX0 35 RX0 yX0_findMoves wsX0_findMoves) := goodIn_app (goodIn_of _ (by decide +kernel)) ggX0_place_X0_findMoves
theorem dX0_place_0 : decode cX0_place 0 = .ok (.iconst 0, 1) := by decide +kernel
theorem dX0_place_1 : decode cX0_place 1 = .ok (.istore 4, 2) := by decide +kernel
theorem dX0_place_3 : decode cX0_place 3 = .ok (.iload 4, 2) := by decide +kernel
theorem dX0_place_5 : decode cX0_place 5 = .ok (.bipush 9, 2) := by decide +kernel
theorem dX0_place_7 : decode cX0_place 7 = .ok (.if_icmp .ge 25, 3) := by decide +kernel
theorem dX0_place_10 : decode cX0_place 10 = .ok (.aload_n 0, 1) := by decide +kernel
theorem dX0_place_11 : decode cX0_place 11 = .ok (.getfield 15, 3) := by decide +kernel
theorem dX0_place_14 : decode cX0_place 14 = .ok (.aload_n 1, 1) := by decide +kernel
theorem dX0_place_15 : decode cX0_place 15 = .ok (.getfield 21, 3) := by decide +kernel
theorem dX0_place_18 : decode cX0_place 18 = .ok (.bipush 9, 2) := by decide +kernel
theorem dX0_place_20 : decode cX0_place 20 = .ok (.imul, 1) := by decide +kernel
theorem dX0_place_21 : decode cX0_place 21 = .ok (.iload 4, 2) := by decide +kernel
theorem dX0_place_23 : decode cX0_place 23 = .ok (.iadd, 1) := by decide +kernel
theorem dX0_place_24 : decode cX0_place 24 = .ok (.iconst 0, 1) := by decide +kernel
theorem dX0_place_25 : decode cX0_place 25 = .ok (.iastore, 1) := by decide +kernel
theorem dX0_place_26 : decode cX0_place 26 = .ok (.iinc 4 1, 3) := by decide +kernel
theorem dX0_place_29 : decode cX0_place 29 = .ok (.goto (-26), 3) := by decide +kernel
theorem dX0_place_32 : decode cX0_place 32 = .ok (.aload_n 1, 1) := by decide +kernel
theorem dX0_place_33 : decode cX0_place 33 = .ok (.getfield 21, 3) := by decide +kernel
theorem dX0_place_36 : decode cX0_place 36 = .ok (.iconst 1, 1) := by decide +kernel
theorem dX0_place_37 : decode cX0_place 37 = .ok (.isub, 1) := by decide +kernel
theorem dX0_place_38 : decode cX0_place 38 = .ok (.istore 4, 2) := by decide +kernel
theorem dX0_place_40 : decode cX0_place 40 = .ok (.iload 4, 2) := by decide +kernel
theorem dX0_place_42 : decode cX0_place 42 = .ok (.ifCond .lt 28, 3) := by decide +kernel
theorem dX0_place_45 : decode cX0_place 45 = .ok (.aload_n 0, 1) := by decide +kernel
theorem dX0_place_46 : decode cX0_place 46 = .ok (.iload 4, 2) := by decide +kernel
theorem dX0_place_48 : decode cX0_place 48 = .ok (.aload_n 2, 1) := by decide +kernel
theorem dX0_place_49 : decode cX0_place 49 = .ok (.getfield 27, 3) := by decide +kernel
theorem dX0_place_52 : decode cX0_place 52 = .ok (.aload_n 1, 1) := by decide +kernel
theorem dX0_place_53 : decode cX0_place 53 = .ok (.getfield 32, 3) := by decide +kernel
theorem dX0_place_56 : decode cX0_place 56 = .ok (.iload 4, 2) := by decide +kernel
theorem dX0_place_58 : decode cX0_place 58 = .ok (.iaload, 1) := by decide +kernel
theorem dX0_place_59 : decode cX0_place 59 = .ok (.iaload, 1) := by decide +kernel
theorem dX0_place_60 : decode cX0_place 60 = .ok (.iload_n 3, 1) := by decide +kernel
theorem dX0_place_61 : decode cX0_place 61 = .ok (.invokevirtual 35, 3) := by decide +kernel
theorem dX0_place_64 : decode cX0_place 64 = .ok (.iinc 4 (-1), 3) := by decide +kernel
theorem dX0_place_67 : decode cX0_place 67 = .ok (.goto (-27), 3) := by decide +kernel
theorem dX0_place_70 : decode cX0_place 70 = .ok (.aload_n 0, 1) := by decide +kernel
theorem dX0_place_71 : decode cX0_place 71 = .ok (.aload_n 0, 1) := by decide +kernel
theorem dX0_place_72 : decode cX0_place 72 = .ok (.getfield 15, 3) := by decide +kernel
theorem dX0_place_75 : decode cX0_place 75 = .ok (.iconst 0, 1) := by decide +kernel
theorem dX0_place_76 : decode cX0_place 76 = .ok (.iaload, 1) := by decide +kernel
theorem dX0_place_77 : decode cX0_place 77 = .ok (.putfield 39, 3) := by decide +kernel
theorem dX0_place_80 : decode cX0_place 80 = .ok (.iconst 0, 1) := by decide +kernel
theorem dX0_place_81 : decode cX0_place 81 = .ok (.istore 4, 2) := by decide +kernel
theorem dX0_place_83 : decode cX0_place 83 = .ok (.iconst 0, 1) := by decide +kernel
theorem dX0_place_84 : decode cX0_place 84 = .ok (.istore 5, 2) := by decide +kernel
theorem dX0_place_86 : decode cX0_place 86 = .ok (.iload 5, 2) := by decide +kernel
theorem dX0_place_88 : decode cX0_place 88 = .ok (.aload_n 1, 1) := by decide +kernel
theorem dX0_place_89 : decode cX0_place 89 = .ok (.getfield 21, 3) := by decide +kernel
theorem dX0_place_92 : decode cX0_place 92 = .ok (.if_icmp .ge 38, 3) := by decide +kernel
theorem dX0_place_95 : decode cX0_place 95 = .ok (.aload_n 0, 1) := by decide +kernel
theorem dX0_place_96 : decode cX0_place 96 = .ok (.getfield 18, 3) := by decide +kernel
theorem dX0_place_99 : decode cX0_place 99 = .ok (.iload 5, 2) := by decide +kernel
theorem dX0_place_101 : decode cX0_place 101 = .ok (.bipush 9, 2) := by decide +kernel
theorem dX0_place_103 : decode cX0_place 103 = .ok (.imul, 1) := by decide +kernel
theorem dX0_place_104 : decode cX0_place 104 = .ok (.iload 4, 2) := by decide +kernel
theorem dX0_place_106 : decode cX0_place 106 = .ok (.iadd, 1) := by decide +kernel
theorem dX0_place_107 : decode cX0_place 107 = .ok (.iaload, 1) := by decide +kernel
theorem dX0_place_108 : decode cX0_place 108 = .ok (.istore 4, 2) := by decide +kernel
theorem dX0_place_110 : decode cX0_place 110 = .ok (.aload_n 0, 1) := by decide +kernel
theorem dX0_place_111 : decode cX0_place 111 = .ok (.getfield 9, 3) := by decide +kernel
theorem dX0_place_114 : decode cX0_place 114 = .ok (.aload_n 1, 1) := by decide +kernel
theorem dX0_place_115 : decode cX0_place 115 = .ok (.getfield 32, 3) := by decide +kernel
theorem dX0_place_118 : decode cX0_place 118 = .ok (.iload 5, 2) := by decide +kernel
theorem dX0_place_120 : decode cX0_place 120 = .ok (.iaload, 1) := by decide +kernel
theorem dX0_place_121 : decode cX0_place 121 = .ok (.iload 4, 2) := by decide +kernel
theorem dX0_place_123 : decode cX0_place 123 = .ok (.iastore, 1) := by decide +kernel
theorem dX0_place_124 : decode cX0_place 124 = .ok (.iinc 5 1, 3) := by decide +kernel
theorem dX0_place_127 : decode cX0_place 127 = .ok (.goto (-41), 3) := by decide +kernel
theorem dX0_place_130 : decode cX0_place 130 = .ok (.return_, 1) := by decide +kernel
theorem dX0_findMoves_0 : decode cX0_findMoves 0 = .ok (.ldc 42, 2) := by decide +kernel
theorem dX0_findMoves_2 : decode cX0_findMoves 2 = .ok (.istore 4, 2) := by decide +kernel
theorem dX0_findMoves_4 : decode cX0_findMoves 4 = .ok (.iload_n 3, 1) := by decide +kernel
theorem dX0_findMoves_5 : decode cX0_findMoves 5 = .ok (.istore 5, 2) := by decide +kernel
theorem dX0_findMoves_7 : decode cX0_findMoves 7 = .ok (.iload_n 3, 1) := by decide +kernel
theorem dX0_findMoves_8 : decode cX0_findMoves 8 = .ok (.istore 6, 2) := by decide +kernel
theorem dX0_findMoves_10 : decode cX0_findMoves 10 = .ok (.iload 6, 2) := by decide +kernel
theorem dX0_findMoves_12 : decode cX0_findMoves 12 = .ok (.ifCond .lt 76, 3) := by decide +kernel
theorem dX0_findMoves_15 : decode cX0_findMoves 15 = .ok (.iload 6, 2) := by decide +kernel
theorem dX0_findMoves_17 : decode cX0_findMoves 17 = .ok (.iload_n 2, 1) := by decide +kernel
theorem dX0_findMoves_18 : decode cX0_findMoves 18 = .ok (.isub, 1) := by decide +kernel
theorem dX0_findMoves_19 : decode cX0_findMoves 19 = .ok (.invokestatic 43, 3) := by decide +kernel
theorem dX0_findMoves_22 : decode cX0_findMoves 22 = .ok (.aload_n 0, 1) := by decide +kernel
theorem dX0_findMoves_23 : decode cX0_findMoves 23 = .ok (.getfield 15, 3) := by decide +kernel
theorem dX0_findMoves_26 : decode cX0_findMoves 26 = .ok (.iload_n 1, 1) := by decide +kernel
theorem dX0_findMoves_27 : decode cX0_findMoves 27 = .ok (.iconst 1, 1) := by decide +kernel
theorem dX0_findMoves_28 : decode cX0_findMoves 28 = .ok (.iadd, 1) := by decide +kernel
theorem dX0_findMoves_29 : decode cX0_findMoves 29 = .ok (.bipush 9, 2) := by decide +kernel
theorem dX0_findMoves_31 : decode cX0_findMoves 31 = .ok (.imul, 1) := by decide +kernel
theorem dX0_findMoves_32 : decode cX0_findMoves 32 = .ok (.iload 6, 2) := by decide +kernel
theorem dX0_findMoves_34 : decode cX0_findMoves 34 = .ok (.iadd, 1) := by decide +kernel
theorem dX0_findMoves_35 : decode cX0_findMoves 35 = .ok (.iaload, 1) := by decide +kernel
theorem dX0_findMoves_36 : decode cX0_findMoves 36 = .ok (.iadd, 1) := by decide +kernel
theorem dX0_findMoves_37 : decode cX0_findMoves 37 = .ok (.istore 7, 2) := by decide +kernel
theorem dX0_findMoves_39 : decode cX0_findMoves 39 = .ok (.iload 7, 2) := by decide +kernel
theorem dX0_findMoves_41 : decode cX0_findMoves 41 = .ok (.iload 4, 2) := by decide +kernel
theorem dX0_findMoves_43 : decode cX0_findMoves 43 = .ok (.if_icmp .gt 11, 3) := by decide +kernel
theorem dX0_findMoves_46 : decode cX0_findMoves 46 = .ok (.iload 7, 2) := by decide +kernel
theorem dX0_findMoves_48 : decode cX0_findMoves 48 = .ok (.istore 4, 2) := by decide +kernel
theorem dX0_findMoves_50 : decode cX0_findMoves 50 = .ok (.iload 6, 2) := by decide +kernel
theorem dX0_findMoves_52 : decode cX0_findMoves 52 = .ok (.istore 5, 2) := by decide +kernel
theorem dX0_findMoves_54 : decode cX0_findMoves 54 = .ok (.aload_n 0, 1) := by decide +kernel
theorem dX0_findMoves_55 : decode cX0_findMoves 55 = .ok (.getfield 15, 3) := by decide +kernel
theorem dX0_findMoves_58 : decode cX0_findMoves 58 = .ok (.iload_n 1, 1) := by decide +kernel
theorem dX0_findMoves_59 : decode cX0_findMoves 59 = .ok (.bipush 9, 2) := by decide +kernel
theorem dX0_findMoves_61 : decode cX0_findMoves 61 = .ok (.imul, 1) := by decide +kernel
theorem dX0_findMoves_62 : decode cX0_findMoves 62 = .ok (.iload 6, 2) := by decide +kernel
theorem dX0_findMoves_64 : decode cX0_findMoves 64 = .ok (.iadd, 1) := by decide +kernel
theorem dX0_findMoves_65 : decode cX0_findMoves 65 = .ok (.iload 4, 2) := by decide +kernel
theorem dX0_findMoves_67 : decode cX0_findMoves 67 = .ok (.iastore, 1) := by decide +kernel
theorem dX0_findMoves_68 : decode cX0_findMoves 68 = .ok (.aload_n 0, 1) := by decide +kernel
theorem dX0_findMoves_69 : decode cX0_findMoves 69 = .ok (.getfield 18, 3) := by decide +kernel
theorem dX0_findMoves_72 : decode cX0_findMoves 72 = .ok (.iload_n 1, 1) := by decide +kernel
theorem dX0_findMoves_73 : decode cX0_findMoves 73 = .ok (.bipush 9, 2) := by decide +kernel
theorem dX0_findMoves_75 : decode cX0_findMoves 75 = .ok (.imul, 1) := by decide +kernel
theorem dX0_findMoves_76 : decode cX0_findMoves 76 = .ok (.iload 6, 2) := by decide +kernel
theorem dX0_findMoves_78 : decode cX0_findMoves 78 = .ok (.iadd, 1) := by decide +kernel
theorem dX0_findMoves_79 : decode cX0_findMoves 79 = .ok (.iload 5, 2) := by decide +kernel
theorem dX0_findMoves_81 : decode cX0_findMoves 81 = .ok (.iastore, 1) := by decide +kernel
theorem dX0_findMoves_82 : decode cX0_findMoves 82 = .ok (.iinc 6 (-1), 3) := by decide +kernel
theorem dX0_findMoves_85 : decode cX0_findMoves 85 = .ok (.goto (-75), 3) := by decide +kernel
theorem dX0_findMoves_88 : decode cX0_findMoves 88 = .ok (.return_, 1) := by decide +kernel
set_option maxRecDepth 20000 in
theorem ggX1_init_X4_init : GoodIn wsX1_init wsX4_init := goodIn_r _ [11, 12, 2, 3, 8, 13, 14, 15, 16, 17, 18, 19, 20, 21, 22, 23, 24, 25, 26, 27, 28, 29, 30, 31] (by decide +kernel) (by decide +kernel)
set_option maxRecDepth 20000 in
theorem gX1_init_X4_init_n11 : GoodIn wsX1_init (wsX4_init) := ggX1_init_X4_init
theorem dX1_init_0 : decode cX1_init 0 = .ok (.aload_n 0, 1) := by decide +kernel
theorem dX1_init_1 : decode cX1_init 1 = .ok (.invokespecial 3, 3) := by decide +kernel
theorem dX1_init_4 : decode cX1_init 4 = .ok (.aload_n 0, 1) := by decide +kernel
theorem dX1_init_5 : decode cX1_init 5 = .ok (.new 9, 3) := by decide +kernel
theorem dX1_init_8 : decode cX1_init 8 = .ok (.dup, 1) := by decide +kernel
theorem dX1_init_9 : decode cX1_init 9 = .ok (.invokespecial 11, 3) := by decide +kernel
theorem dX1_init_12 : decode cX1_init 12 = .ok (.putfield 12, 3) := by decide +kernel
theorem dX1_init_15 : decode cX1_init 15 = .ok (.aload_n 0, 1) := by decide +kernel
theorem dX1_init_16 : decode cX1_init 16 = .ok (.bipush 30, 2) := by decide +kernel
theorem dX1_init_18 : decode cX1_init 18 = .ok (.newarray .int, 2) := by decide +kernel
theorem dX1_init_20 : decode cX1_init 20 = .ok (.putfield 18, 3) := by decide +kernel
theorem dX1_init_23 : decode cX1_init 23 = .ok (.return_, 1) := by decide +kernel
theorem dX1_add_0 : decode cX1_add 0 = .ok (.aload_n 0, 1) := by decide +kernel
theorem dX1_add_1 : decode cX1_add 1 = .ok (.getfield 22, 3) := by decide +kernel
theorem dX1_add_4 : decode cX1_add 4 = .ok (.bipush 30, 2) := by decide +kernel
theorem dX1_add_6 : decode cX1_add 6 = .ok (.if_icmp .lt 5, 3) := by decide +kernel
theorem dX1_add_9 : decode cX1_add 9 = .ok (.iconst 0, 1) := by decide +kernel
theorem dX1_add_10 : decode cX1_add 10 = .ok (.ireturn, 1) := by decide +kernel
theorem dX1_add_11 : decode cX1_add 11 = .ok (.aload_n 0, 1) := by decide +kernel
theorem dX1_add_12 : decode cX1_add 12 = .ok (.getfield 18, 3) := by decide +kernel
theorem dX1_add_15 : decode cX1_add 15 = .ok (.aload_n 0, 1) := by decide +kernel
theorem dX1_add_16 : decode cX1_add 16 = .ok (.getfield 22, 3) := by decide +kernel
theorem dX1_add_19 : decode cX1_add 19 = .ok (.iload_n 1, 1) := by decide +kernel
theorem dX1_add_20 : decode cX1_add 20 = .ok (.iastore, 1) := by decide +kernel
theorem dX1_add_21 : decode cX1_add 21 = .ok (.aload_n 0, 1) := by decide +kernel
theorem dX1_add_22 : decode cX1_add 22 = .ok (.dup, 1) := by decide +kernel
theorem dX1_add_23 : decode cX1_add 23 = .ok (.getfield 22, 3) := by decide +kernel
theorem dX1_add_26 : decode cX1_add 26 = .ok (.iconst 1, 1) := by decide +kernel
theorem dX1_add_27 : decode cX1_add 27 = .ok (.iadd, 1) := by decide +kernel
theorem dX1_add_28 : decode cX1_add 28 = .ok (.putfield 22, 3) := by decide +kernel
theorem dX1_add_31 : decode cX1_add 31 = .ok (.iconst 1, 1) := by decide +kernel
theorem dX1_add_32 : decode cX1_add 32 = .ok (.ireturn, 1) := by decide +kernel
set_option maxRecDepth 20000 in
theorem ggX1_read_X4_clear : GoodIn wsX1_read wsX4_clear := goodIn_r _ [9, 10, 11, 12, 13, 14, 48, 49, 50, 51, 52, 53, 54, 55, 56, 57, 58, 59] (by decide +kernel) (by decide +kernel)
set_option maxRecDepth 20000 in
theorem gX1_read_X4_clear : GoodIn wsX1_read (wsV RX1 26 RX4 yX4_clear wsX4_clear) := goodIn_app (goodIn_of _ (by decide +kernel)) ggX1_read_X4_clear
set_option maxRecDepth 20000 in
theorem ggX1_read_X4_take : GoodIn wsX1_read wsX4_take := goodIn_r _ [18, 19, 20, 21, 8, 22, 10, 23, 24, 25, 26, 11, 14, 27, 28, 29, 30, 31, 32, 33, 34, 35, 36, 37, 38, 39, 40, 41, 42, 12, 13, 43, 44, 48, 49, 50, 51, 52, 53, 54, 55, 56, 57, 58, 59] (by decide +kernel) (by decide +kernel)
set_option maxRecDepth 20000 in
theorem gX1_read_X4_take : GoodIn wsX1_read (wsV RX1 29 RX4 yX4_take wsX4_take) := goodIn_app (goodIn_of _ (by decide +kernel)) ggX1_read_X4_take
theorem dX1_read_0 : decode cX1_read 0 = .ok (.aload_n 0, 1) := by decide +kernel
theorem dX1_read_1 : decode cX1_read 1 = .ok (.getfield 12, 3) := by decide +kernel
theorem dX1_read_4 : decode cX1_read 4 = .ok (.invokevirtual 26, 3) := by decide +kernel
theorem dX1_read_7 : decode cX1_read 7 = .ok (.iconst 0, 1) := by decide +kernel
theorem dX1_read_8 : decode cX1_read 8 = .ok (.istore_n 1, 1) := by decide +kernel
theorem dX1_read_9 : decode cX1_read 9 = .ok (.iload_n 1, 1) := by decide +kernel
theorem dX1_read_10 : decode cX1_read 10 = .ok (.aload_n 0, 1) := by decide +kernel
theorem dX1_read_11 : decode cX1_read 11 = .ok (.getfield 22, 3) := by decide +kernel
theorem dX1_read_14 : decode cX1_read 14 = .ok (.if_icmp .ge 33, 3) := by decide +kernel
theorem dX1_read_17 : decode cX1_read 17 = .ok (.iload_n 1, 1) := by decide +kernel
theorem dX1_read_18 : decode cX1_read 18 = .ok (.bipush 30, 2) := by decide +kernel
theorem dX1_read_20 : decode cX1_read 20 = .ok (.if_icmp .ge 27, 3) := by decide +kernel
theorem dX1_read_23 : decode cX1_read 23 = .ok (.aload_n 0, 1) := by decide +kernel
theorem dX1_read_24 : decode cX1_read 24 = .ok (.getfield 12, 3) := by decide +kernel
theorem dX1_read_27 : decode cX1_read 27 = .ok (.aload_n 0, 1) := by decide +kernel
theorem dX1_read_28 : decode cX1_read 28 = .ok (.getfield 18, 3) := by decide +kernel
theorem dX1_read_31 : decode cX1_read 31 = .ok (.iload_n 1, 1) := by decide +kernel
theorem dX1_read_32 : decode cX1_read 32 = .ok (.iaload, 1) := by decide +kernel
theorem dX1_read_33 : decode cX1_read 33 = .ok (.invokevirtual 29, 3) := by decide +kernel
theorem dX1_read_36 : decode cX1_read 36 = .ok (.ifCond .ne 5, 3) := by decide +kernel
theorem dX1_read_39 : decode cX1_read 39 = .ok (.iload_n 1, 1) := by decide +kernel
theorem dX1_read_40 : decode cX1_read 40 = .ok (.ireturn, 1) := by decide +kernel
theorem dX1_read_41 : decode cX1_read 41 = .ok (.iinc 1 1, 3) := by decide +kernel
theorem dX1_read_44 : decode cX1_read 44 = .ok (.goto (-35), 3) := by decide +kernel
theorem dX1_read_47 : decode cX1_read 47 = .ok (.aload_n 0, 1) := by decide +kernel
theorem dX1_read_48 : decode cX1_read 48 = .ok (.getfield 12, 3) := by decide +kernel
theorem dX1_read_51 : decode cX1_read 51 = .ok (.getfield 33, 3) := by decide +kernel
theorem dX1_read_54 : decode cX1_read 54 = .ok (.ifCond .le 10, 3) := by decide +kernel
theorem dX1_read_57 : decode cX1_read 57 = .ok (.aload_n 0, 1) := by decide +kernel
theorem dX1_read_58 : decode cX1_read 58 = .ok (.getfield 22, 3) := by decide +kernel
theorem dX1_read_61 : decode cX1_read 61 = .ok (.goto 5, 3) := by decide +kernel
theorem dX1_read_64 : decode cX1_read 64 = .ok (.bipush (-6), 2) := by decide +kernel
theorem dX1_read_66 : decode cX1_read 66 = .ok (.ireturn, 1) := by decide +kernel
theorem dX2_init_0 : decode cX2_init 0 = .ok (.aload_n 0, 1) := by decide +kernel
theorem dX2_init_1 : decode cX2_init 1 = .ok (.invokespecial 5, 3) := by decide +kernel
theorem dX2_init_4 : decode cX2_init 4 = .ok (.aload_n 0, 1) := by decide +kernel
theorem dX2_init_5 : decode cX2_init 5 = .ok (.iconst 5, 1) := by decide +kernel
theorem dX2_init_6 : decode cX2_init 6 = .ok (.newarray .int, 2) := by decide +kernel
theorem dX2_init_8 : decode cX2_init 8 = .ok (.putfield 11, 3) := by decide +kernel
theorem dX2_init_11 : decode cX2_init 11 = .ok (.aload_n 0, 1) := by decide +kernel
theorem dX2_init_12 : decode cX2_init 12 = .ok (.iconst 5, 1) := by decide +kernel
theorem dX2_init_13 : decode cX2_init 13 = .ok (.newarray .int, 2) := by decide +kernel
theorem dX2_init_15 : decode cX2_init 15 = .ok (.putfield 15, 3) := by decide +kernel
theorem dX2_init_18 : decode cX2_init 18 = .ok (.aload_n 0, 1) := by decide +kernel
theorem dX2_init_19 : decode cX2_init 19 = .ok (.iconst 5, 1) := by decide +kernel
theorem dX2_init_20 : decode cX2_init 20 = .ok (.newarray .int, 2) := by decide +kernel
theorem dX2_init_22 : decode cX2_init 22 = .ok (.putfield 18, 3) := by decide +kernel
theorem dX2_init_25 : decode cX2_init 25 = .ok (.aload_n 0, 1) := by decide +kernel
theorem dX2_init_26 : decode cX2_init 26 = .ok (.sipush 405, 3) := by decide +kernel
theorem dX2_init_29 : decode cX2_init 29 = .ok (.newarray .long, 2) := by decide +kernel
theorem dX2_init_31 : decode cX2_init 31 = .ok (.putfield 21, 3) := by decide +kernel
theorem dX2_init_34 : decode cX2_init 34 = .ok (.aload_n 0, 1) := by decide +kernel
theorem dX2_init_35 : decode cX2_init 35 = .ok (.sipush 2592, 3) := by decide +kernel
theorem dX2_init_38 : decode cX2_init 38 = .ok (.newarray .long, 2) := by decide +kernel
theorem dX2_init_40 : decode cX2_init 40 = .ok (.putfield 25, 3) := by decide +kernel
theorem dX2_init_43 : decode cX2_init 43 = .ok (.aload_n 0, 1) := by decide +kernel
theorem dX2_init_44 : decode cX2_init 44 = .ok (.bipush 32, 2) := by decide +kernel
theorem dX2_init_46 : decode cX2_init 46 = .ok (.newarray .int, 2) := by decide +kernel
theorem dX2_init_48 : decode cX2_init 48 = .ok (.putfield 28, 3) := by decide +kernel
theorem dX2_init_51 : decode cX2_init 51 = .ok (.return_, 1) := by decide +kernel
set_option maxRecDepth 20000 in
theorem ggX2_place_X7_has : GoodIn wsX2_place wsX7_has := goodIn_r _ [7] (by decide +kernel) (by decide +kernel)
set_option maxRecDepth 20000 in
theorem gX2_place_X7_has_n37 : GoodIn wsX2_place (wsX7_has) := ggX2_place_X7_has
set_option maxRecDepth 20000 in
theorem ggX2_place_X2_findPrices : GoodIn wsX2_place wsX2_findPrices := goodIn_r _ [12, 13, 14, 15, 11, 16, 17, 18, 19, 20, 21, 22, 23, 24, 25, 26, 27, 28, 29, 81, 82, 83, 84, 85, 86, 87, 88] (by decide +kernel) (by decide +kernel)
set_option maxRecDepth 20000 in
theorem gX2_place_X2_findPrices : GoodIn wsX2_place (wsV RX2 45 RX2 yX2_findPrices wsX2_findPrices) := goodIn_app (goodIn_of _ (by decide +kernel)) ggX2_place_X2_findPrices
set_option maxRecDepth 20000 in
theorem ggX2_place_X2_findParts : GoodIn wsX2_place wsX2_findParts := goodIn_r _ [33, 34, 35, 36, 37, 11, 38, 39, 40, 5, 6, 7, 81, 82, 83, 84, 85, 86, 87, 88, 65, 66, 67, 68, 69, 70, 71, 72, 73, 74, 75, 76] (by decide +kernel) (by decide +kernel)
set_option maxRecDepth 20000 in
theorem gX2_place_X2_findParts : GoodIn wsX2_place (wsV RX2 49 RX2 yX2_findParts wsX2_findParts) := goodIn_app (goodIn_of _ (by decide +kernel)) ggX2_place_X2_findParts
set_option maxRecDepth 20000 in
theorem ggX2_place_X2_findSums : GoodIn wsX2_place wsX2_findSums := goodIn_r _ [44, 4, 45, 46, 22, 47, 48, 49, 50, 11, 51, 52, 40, 13, 5, 6, 7, 53, 54, 55, 56, 34, 35, 81, 82, 83, 84, 85, 86, 87, 88, 65, 66, 67, 68, 69, 70, 71, 72, 73, 74, 75, 76] (by decide +kernel) (by decide +kernel)
set_option maxRecDepth 20000 in
theorem gX2_place_X2_findSums : GoodIn wsX2_place (wsV RX2 53 RX2 yX2_findSums wsX2_findSums) := goodIn_app (goodIn_of _ (by decide +kernel)) ggX2_place_X2_findSums
set_option maxRecDepth 20000 in
theorem ggX2_place_X2_readSpans : GoodIn wsX2_place wsX2_readSpans := goodIn_r _ [60, 61, 62, 63, 64, 2, 3, 5, 6, 7, 14, 15, 11, 16, 17, 18, 19, 20, 21, 22, 23, 24, 25, 26, 27, 28, 29, 81, 82, 83, 84, 85, 86, 87, 88, 77, 78, 79, 80] (by decide +kernel) (by decide +kernel)
set_option maxRecDepth 20000 in
theorem gX2_place_X2_readSpans : GoodIn wsX2_place (wsV RX2 57 RX2 yX2_readSpans wsX2_readSpans) := goodIn_app (goodIn_of _ (by decide +kernel)) ggX2_place_X2_readSpans
theorem dX2_place_0 : decode cX2_place 0 = .ok (.iconst 0, 1) := by decide +kernel
theorem dX2_place_1 : decode cX2_place 1 = .ok (.istore 4, 2) := by decide +kernel
theorem dX2_place_3 : decode cX2_place 3 = .ok (.iload 4, 2) := by decide +kernel
theorem dX2_place_5 : decode cX2_place 5 = .ok (.iconst 5, 1) := by decide +kernel
theorem dX2_place_6 : decode cX2_place 6 = .ok (.if_icmp .ge 42, 3) := by decide +kernel
theorem dX2_place_9 : decode cX2_place 9 = .ok (.aload_n 1, 1) := by decide +kernel
theorem dX2_place_10 : decode cX2_place 10 = .ok (.getfield 31, 3) := by decide +kernel
theorem dX2_place_13 : decode cX2_place 13 = .ok (.iload 4, 2) := by decide +kernel
theorem dX2_place_15 : decode cX2_place 15 = .ok (.invokestatic 37, 3) := by decide +kernel
theorem dX2_place_18 : decode cX2_place 18 = .ok (.ifCond .eq 24, 3) := by decide +kernel
theorem dX2_place_21 : decode cX2_place 21 = .ok (.aload_n 0, 1) := by decide +kernel
theorem dX2_place_22 : decode cX2_place 22 = .ok (.iload 4, 2) := by decide +kernel
theorem dX2_place_24 : decode cX2_place 24 = .ok (.aload_n 2, 1) := by decide +kernel
theorem dX2_place_25 : decode cX2_place 25 = .ok (.getfield 41, 3) := by decide +kernel
theorem dX2_place_28 : decode cX2_place 28 = .ok (.iload 4, 2) := by decide +kernel
theorem dX2_place_30 : decode cX2_place 30 = .ok (.iaload, 1) := by decide +kernel
theorem dX2_place_31 : decode cX2_place 31 = .ok (.aload_n 2, 1) := by decide +kernel
theorem dX2_place_32 : decode cX2_place 32 = .ok (.getfield 44, 3) := by decide +kernel
theorem dX2_place_35 : decode cX2_place 35 = .ok (.iload 4, 2) := by decide +kernel
theorem dX2_place_37 : decode cX2_place 37 = .ok (.iaload, 1) := by decide +kernel
theorem dX2_place_38 : decode cX2_place 38 = .ok (.iload_n 3, 1) := by decide +kernel
theorem dX2_place_39 : decode cX2_place 39 = .ok (.invokevirtual 45, 3) := by decide +kernel
theorem dX2_place_42 : decode cX2_place 42 = .ok (.iinc 4 1, 3) := by decide +kernel
theorem dX2_place_45 : decode cX2_place 45 = .ok (.goto (-42), 3) := by decide +kernel
theorem dX2_place_48 : decode cX2_place 48 = .ok (.iconst 1, 1) := by decide +kernel
theorem dX2_place_49 : decode cX2_place 49 = .ok (.istore 4, 2) := by decide +kernel
theorem dX2_place_51 : decode cX2_place 51 = .ok (.iload 4, 2) := by decide +kernel
theorem dX2_place_53 : decode cX2_place 53 = .ok (.bipush 32, 2) := by decide +kernel
theorem dX2_place_55 : decode cX2_place 55 = .ok (.if_icmp .ge 36, 3) := by decide +kernel
theorem dX2_place_58 : decode cX2_place 58 = .ok (.iload 4, 2) := by decide +kernel
theorem dX2_place_60 : decode cX2_place 60 = .ok (.aload_n 1, 1) := by decide +kernel
theorem dX2_place_61 : decode cX2_place 61 = .ok (.getfield 31, 3) := by decide +kernel
theorem dX2_place_64 : decode cX2_place 64 = .ok (.iconst (-1), 1) := by decide +kernel
theorem dX2_place_65 : decode cX2_place 65 = .ok (.ixor, 1) := by decide +kernel
theorem dX2_place_66 : decode cX2_place 66 = .ok (.iand, 1) := by decide +kernel
theorem dX2_place_67 : decode cX2_place 67 = .ok (.ifCond .ne 18, 3) := by decide +kernel
theorem dX2_place_70 : decode cX2_place 70 = .ok (.aload_n 0, 1) := by decide +kernel
theorem dX2_place_71 : decode cX2_place 71 = .ok (.aload_n 1, 1) := by decide +kernel
theorem dX2_place_72 : decode cX2_place 72 = .ok (.iload 4, 2) := by decide +kernel
theorem dX2_place_74 : decode cX2_place 74 = .ok (.invokevirtual 49, 3) := by decide +kernel
theorem dX2_place_77 : decode cX2_place 77 = .ok (.aload_n 0, 1) := by decide +kernel
theorem dX2_place_78 : decode cX2_place 78 = .ok (.aload_n 1, 1) := by decide +kernel
theorem dX2_place_79 : decode cX2_place 79 = .ok (.iload 4, 2) := by decide +kernel
theorem dX2_place_81 : decode cX2_place 81 = .ok (.iload_n 3, 1) := by decide +kernel
theorem dX2_place_82 : decode cX2_place 82 = .ok (.invokevirtual 53, 3) := by decide +kernel
theorem dX2_place_85 : decode cX2_place 85 = .ok (.iinc 4 1, 3) := by decide +kernel
theorem dX2_place_88 : decode cX2_place 88 = .ok (.goto (-37), 3) := by decide +kernel
theorem dX2_place_91 : decode cX2_place 91 = .ok (.aload_n 0, 1) := by decide +kernel
theorem dX2_place_92 : decode cX2_place 92 = .ok (.aload_n 1, 1) := by decide +kernel
theorem dX2_place_93 : decode cX2_place 93 = .ok (.getfield 31, 3) := by decide +kernel
theorem dX2_place_96 : decode cX2_place 96 = .ok (.aload_n 2, 1) := by decide +kernel
theorem dX2_place_97 : decode cX2_place 97 = .ok (.aload_n 0, 1) := by decide +kernel
theorem dX2_place_98 : decode cX2_place 98 = .ok (.getfield 25, 3) := by decide +kernel
theorem dX2_place_101 : decode cX2_place 101 = .ok (.aload_n 1, 1) := by decide +kernel
theorem dX2_place_102 : decode cX2_place 102 = .ok (.getfield 31, 3) := by decide +kernel
theorem dX2_place_105 : decode cX2_place 105 = .ok (.bipush 81, 2) := by decide +kernel
theorem dX2_place_107 : decode cX2_place 107 = .ok (.imul, 1) := by decide +kernel
theorem dX2_place_108 : decode cX2_place 108 = .ok (.iload_n 3, 1) := by decide +kernel
theorem dX2_place_109 : decode cX2_place 109 = .ok (.iadd, 1) := by decide +kernel
theorem dX2_place_110 : decode cX2_place 110 = .ok (.laload, 1) := by decide +kernel
theorem dX2_place_111 : decode cX2_place 111 = .ok (.invokevirtual 57, 3) := by decide +kernel
theorem dX2_place_114 : decode cX2_place 114 = .ok (.return_, 1) := by decide +kernel
set_option maxRecDepth 20000 in
theorem ggX2_findPrices_X2_shiftOf : GoodIn wsX2_findPrices wsX2_shiftOf := goodIn_r _ [5] (by decide +kernel) (by decide +kernel)
set_option maxRecDepth 20000 in
theorem gX2_findPrices_X2_shiftOf : GoodIn wsX2_findPrices (va_wsS RX2 61 yX2_shiftOf wsX2_shiftOf) := goodIn_app (goodIn_of _ (by decide +kernel)) ggX2_findPrices_X2_shiftOf
set_option maxRecDepth 20000 in
theorem ggX2_findPrices_X2_costOf : GoodIn wsX2_findPrices wsX2_costOf := goodIn_r _ [8, 9, 10, 11, 12, 13, 14, 15, 16, 17, 18] (by decide +kernel) (by decide +kernel)
set_option maxRecDepth 20000 in
theorem gX2_findPrices_X2_costOf : GoodIn wsX2_findPrices (va_wsS RX2 65 yX2_costOf wsX2_costOf) := goodIn_app (goodIn_of _ (by decide +kernel)) ggX2_findPrices_X2_costOf
theorem dX2_findPrices_0 : decode cX2_findPrices 0 = .ok (.iload_n 1, 1) := by decide +kernel
theorem dX2_findPrices_1 : decode cX2_findPrices 1 = .ok (.invokestatic 61, 3) := by decide +kernel
theorem dX2_findPrices_4 : decode cX2_findPrices 4 = .ok (.istore 5, 2) := by decide +kernel
theorem dX2_findPrices_6 : decode cX2_findPrices 6 = .ok (.iconst 0, 1) := by decide +kernel
theorem dX2_findPrices_7 : decode cX2_findPrices 7 = .ok (.istore 6, 2) := by decide +kernel
theorem dX2_findPrices_9 : decode cX2_findPrices 9 = .ok (.iload 6, 2) := by decide +kernel
theorem dX2_findPrices_11 : decode cX2_findPrices 11 = .ok (.iload 4, 2) := by decide +kernel
theorem dX2_findPrices_13 : decode cX2_findPrices 13 = .ok (.if_icmp .gt 78, 3) := by decide +kernel
theorem dX2_findPrices_16 : decode cX2_findPrices 16 = .ok (.iload 6, 2) := by decide +kernel
theorem dX2_findPrices_18 : decode cX2_findPrices 18 = .ok (.istore 7, 2) := by decide +kernel
theorem dX2_findPrices_20 : decode cX2_findPrices 20 = .ok (.iload 7, 2) := by decide +kernel
theorem dX2_findPrices_22 : decode cX2_findPrices 22 = .ok (.iload 4, 2) := by decide +kernel
theorem dX2_findPrices_24 : decode cX2_findPrices 24 = .ok (.if_icmp .gt 61, 3) := by decide +kernel
theorem dX2_findPrices_27 : decode cX2_findPrices 27 = .ok (.iload_n 1, 1) := by decide +kernel
theorem dX2_findPrices_28 : decode cX2_findPrices 28 = .ok (.iload_n 2, 1) := by decide +kernel
theorem dX2_findPrices_29 : decode cX2_findPrices 29 = .ok (.iload_n 3, 1) := by decide +kernel
theorem dX2_findPrices_30 : decode cX2_findPrices 30 = .ok (.iload 6, 2) := by decide +kernel
theorem dX2_findPrices_32 : decode cX2_findPrices 32 = .ok (.iload 7, 2) := by decide +kernel
theorem dX2_findPrices_34 : decode cX2_findPrices 34 = .ok (.invokestatic 65, 3) := by decide +kernel
theorem dX2_findPrices_37 : decode cX2_findPrices 37 = .ok (.i2l, 1) := by decide +kernel
theorem dX2_findPrices_38 : decode cX2_findPrices 38 = .ok (.lstore 8, 2) := by decide +kernel
theorem dX2_findPrices_40 : decode cX2_findPrices 40 = .ok (.iload 6, 2) := by decide +kernel
theorem dX2_findPrices_42 : decode cX2_findPrices 42 = .ok (.iconst 4, 1) := by decide +kernel
theorem dX2_findPrices_43 : decode cX2_findPrices 43 = .ok (.ishl, 1) := by decide +kernel
theorem dX2_findPrices_44 : decode cX2_findPrices 44 = .ok (.iload 7, 2) := by decide +kernel
theorem dX2_findPrices_46 : decode cX2_findPrices 46 = .ok (.ior, 1) := by decide +kernel
theorem dX2_findPrices_47 : decode cX2_findPrices 47 = .ok (.i2l, 1) := by decide +kernel
theorem dX2_findPrices_48 : decode cX2_findPrices 48 = .ok (.lstore 10, 2) := by decide +kernel
theorem dX2_findPrices_50 : decode cX2_findPrices 50 = .ok (.aload_n 0, 1) := by decide +kernel
theorem dX2_findPrices_51 : decode cX2_findPrices 51 = .ok (.getfield 21, 3) := by decide +kernel
theorem dX2_findPrices_54 : decode cX2_findPrices 54 = .ok (.iload_n 1, 1) := by decide +kernel
theorem dX2_findPrices_55 : decode cX2_findPrices 55 = .ok (.bipush 81, 2) := by decide +kernel
theorem dX2_findPrices_57 : decode cX2_findPrices 57 = .ok (.imul, 1) := by decide +kernel
theorem dX2_findPrices_58 : decode cX2_findPrices 58 = .ok (.iload 6, 2) := by decide +kernel
theorem dX2_findPrices_60 : decode cX2_findPrices 60 = .ok (.bipush 9, 2) := by decide +kernel
theorem dX2_findPrices_62 : decode cX2_findPrices 62 = .ok (.imul, 1) := by decide +kernel
theorem dX2_findPrices_63 : decode cX2_findPrices 63 = .ok (.iadd, 1) := by decide +kernel
theorem dX2_findPrices_64 : decode cX2_findPrices 64 = .ok (.iload 7, 2) := by decide +kernel
theorem dX2_findPrices_66 : decode cX2_findPrices 66 = .ok (.iadd, 1) := by decide +kernel
theorem dX2_findPrices_67 : decode cX2_findPrices 67 = .ok (.lload 8, 2) := by decide +kernel
theorem dX2_findPrices_69 : decode cX2_findPrices 69 = .ok (.bipush 40, 2) := by decide +kernel
theorem dX2_findPrices_71 : decode cX2_findPrices 71 = .ok (.lshl, 1) := by decide +kernel
theorem dX2_findPrices_72 : decode cX2_findPrices 72 = .ok (.lload 10, 2) := by decide +kernel
theorem dX2_findPrices_74 : decode cX2_findPrices 74 = .ok (.iload 5, 2) := by decide +kernel
theorem dX2_findPrices_76 : decode cX2_findPrices 76 = .ok (.lshl, 1) := by decide +kernel
theorem dX2_findPrices_77 : decode cX2_findPrices 77 = .ok (.lor, 1) := by decide +kernel
theorem dX2_findPrices_78 : decode cX2_findPrices 78 = .ok (.lastore, 1) := by decide +kernel
theorem dX2_findPrices_79 : decode cX2_findPrices 79 = .ok (.iinc 7 1, 3) := by decide +kernel
theorem dX2_findPrices_82 : decode cX2_findPrices 82 = .ok (.goto (-62), 3) := by decide +kernel
theorem dX2_findPrices_85 : decode cX2_findPrices 85 = .ok (.iinc 6 1, 3) := by decide +kernel
theorem dX2_findPrices_88 : decode cX2_findPrices 88 = .ok (.goto (-79), 3) := by decide +kernel
theorem dX2_findPrices_91 : decode cX2_findPrices 91 = .ok (.return_, 1) := by decide +kernel
theorem dX2_shiftOf_0 : decode cX2_shiftOf 0 = .ok (.bipush 8, 2) := by decide +kernel
theorem dX2_shiftOf_2 : decode cX2_shiftOf 2 = .ok (.iconst 4, 1) := by decide +kernel
theorem dX2_shiftOf_3 : decode cX2_shiftOf 3 = .ok (.iload_n 0, 1) := by decide +kernel
theorem dX2_shiftOf_4 : decode cX2_shiftOf 4 = .ok (.isub, 1) := by decide +kernel
theorem dX2_shiftOf_5 : decode cX2_shiftOf 5 = .ok (.imul, 1) := by decide +kernel
theorem dX2_shiftOf_6 : decode cX2_shiftOf 6 = .ok (.ireturn, 1) := by decide +kernel
theorem dX2_costOf_0 : decode cX2_costOf 0 = .ok (.iload_n 3, 1) := by decide +kernel
theorem dX2_costOf_1 : decode cX2_costOf 1 = .ok (.iload_n 1, 1) := by decide +kernel
theorem dX2_costOf_2 : decode cX2_costOf 2 = .ok (.isub, 1) := by decide +kernel
theorem dX2_costOf_3 : decode cX2_costOf 3 = .ok (.invokestatic 69, 3) := by decide +kernel
theorem dX2_costOf_6 : decode cX2_costOf 6 = .ok (.istore 5, 2) := by decide +kernel
theorem dX2_costOf_8 : decode cX2_costOf 8 = .ok (.iload 4, 2) := by decide +kernel
theorem dX2_costOf_10 : decode cX2_costOf 10 = .ok (.iload_n 2, 1) := by decide +kernel
theorem dX2_costOf_11 : decode cX2_costOf 11 = .ok (.isub, 1) := by decide +kernel
theorem dX2_costOf_12 : decode cX2_costOf 12 = .ok (.invokestatic 69, 3) := by decide +kernel
theorem dX2_costOf_15 : decode cX2_costOf 15 = .ok (.istore 6, 2) := by decide +kernel
theorem dX2_costOf_17 : decode cX2_costOf 17 = .ok (.iload_n 0, 1) := by decide +kernel
theorem dX2_costOf_18 : decode cX2_costOf 18 = .ok (.iconst 4, 1) := by decide +kernel
theorem dX2_costOf_19 : decode cX2_costOf 19 = .ok (.if_icmp .ne 13, 3) := by decide +kernel
theorem dX2_costOf_22 : decode cX2_costOf 22 = .ok (.iconst 2, 1) := by decide +kernel
theorem dX2_costOf_23 : decode cX2_costOf 23 = .ok (.iload 5, 2) := by decide +kernel
theorem dX2_costOf_25 : decode cX2_costOf 25 = .ok (.iload 6, 2) := by decide +kernel
theorem dX2_costOf_27 : decode cX2_costOf 27 = .ok (.invokestatic 74, 3) := by decide +kernel
theorem dX2_costOf_30 : decode cX2_costOf 30 = .ok (.imul, 1) := by decide +kernel
theorem dX2_costOf_31 : decode cX2_costOf 31 = .ok (.ireturn, 1) := by decide +kernel
theorem dX2_costOf_32 : decode cX2_costOf 32 = .ok (.iload_n 0, 1) := by decide +kernel
theorem dX2_costOf_33 : decode cX2_costOf 33 = .ok (.iconst 2, 1) := by decide +kernel
theorem dX2_costOf_34 : decode cX2_costOf 34 = .ok (.if_icmp .ge 9, 3) := by decide +kernel
theorem dX2_costOf_37 : decode cX2_costOf 37 = .ok (.iload 5, 2) := by decide +kernel
theorem dX2_costOf_39 : decode cX2_costOf 39 = .ok (.iload 6, 2) := by decide +kernel
theorem dX2_costOf_41 : decode cX2_costOf 41 = .ok (.iadd, 1) := by decide +kernel
theorem dX2_costOf_42 : decode cX2_costOf 42 = .ok (.ireturn, 1) := by decide +kernel
theorem dX2_costOf_43 : decode cX2_costOf 43 = .ok (.iconst 0, 1) := by decide +kernel
theorem dX2_costOf_44 : decode cX2_costOf 44 = .ok (.iload 4, 2) := by decide +kernel
theorem dX2_costOf_46 : decode cX2_costOf 46 = .ok (.iload_n 2, 1) := by decide +kernel
theorem dX2_costOf_47 : decode cX2_costOf 47 = .ok (.invokestatic 78, 3) := by decide +kernel
theorem dX2_costOf_50 : decode cX2_costOf 50 = .ok (.iload_n 3, 1) := by decide +kernel
theorem dX2_costOf_51 : decode cX2_costOf 51 = .ok (.iload_n 1, 1) := by decide +kernel
theorem dX2_costOf_52 : decode cX2_costOf 52 = .ok (.invokestatic 74, 3) := by decide +kernel
theorem dX2_costOf_55 : decode cX2_costOf 55 = .ok (.isub, 1) := by decide +kernel
theorem dX2_costOf_56 : decode cX2_costOf 56 = .ok (.invokestatic 74, 3) := by decide +kernel
theorem dX2_costOf_59 : decode cX2_costOf 59 = .ok (.istore 7, 2) := by decide +kernel
theorem dX2_costOf_61 : decode cX2_costOf 61 = .ok (.iload 5, 2) := by decide +kernel
theorem dX2_costOf_63 : decode cX2_costOf 63 = .ok (.iload 6, 2) := by decide +kernel
theorem dX2_costOf_65 : decode cX2_costOf 65 = .ok (.iadd, 1) := by decide +kernel
theorem dX2_costOf_66 : decode cX2_costOf 66 = .ok (.iconst 2, 1) := by decide +kernel
theorem dX2_costOf_67 : decode cX2_costOf 67 = .ok (.iload_n 2, 1) := by decide +kernel
theorem dX2_costOf_68 : decode cX2_costOf 68 = .ok (.iload_n 1, 1) := by decide +kernel
theorem dX2_costOf_69 : decode cX2_costOf 69 = .ok (.isub, 1) := by decide +kernel
theorem dX2_costOf_70 : decode cX2_costOf 70 = .ok (.iload 7, 2) := by decide +kernel
theorem dX2_costOf_72 : decode cX2_costOf 72 = .ok (.isub, 1) := by decide +kernel
theorem dX2_costOf_73 : decode cX2_costOf 73 = .ok (.imul, 1) := by decide +kernel
theorem dX2_costOf_74 : decode cX2_costOf 74 = .ok (.iadd, 1) := by decide +kernel
theorem dX2_costOf_75 : decode cX2_costOf 75 = .ok (.ireturn, 1) := by decide +kernel
set_option maxRecDepth 20000 in
theorem ggX2_findParts_X2_apart : GoodIn wsX2_findParts wsX2_apart := goodIn_r _ [6, 7, 8, 9, 10, 11, 20, 21, 22, 23, 24, 25, 26, 27, 28, 29, 30, 31] (by decide +kernel) (by decide +kernel)
set_option maxRecDepth 20000 in
theorem gX2_findParts_X2_apart : GoodIn wsX2_findParts (va_wsS RX2 84 yX2_apart wsX2_apart) := goodIn_app (goodIn_of _ (by decide +kernel)) ggX2_findParts_X2_apart
theorem dX2_findParts_0 : decode cX2_findParts 0 = .ok (.aload_n 0, 1) := by decide +kernel
theorem dX2_findParts_1 : decode cX2_findParts 1 = .ok (.iconst 0, 1) := by decide +kernel
theorem dX2_findParts_2 : decode cX2_findParts 2 = .ok (.putfield 81, 3) := by decide +kernel
theorem dX2_findParts_5 : decode cX2_findParts 5 = .ok (.iconst 1, 1) := by decide +kernel
theorem dX2_findParts_6 : decode cX2_findParts 6 = .ok (.istore_n 3, 1) := by decide +kernel
theorem dX2_findParts_7 : decode cX2_findParts 7 = .ok (.iload_n 3, 1) := by decide +kernel
theorem dX2_findParts_8 : decode cX2_findParts 8 = .ok (.iload_n 2, 1) := by decide +kernel
theorem dX2_findParts_9 : decode cX2_findParts 9 = .ok (.if_icmp .ge 50, 3) := by decide +kernel
theorem dX2_findParts_12 : decode cX2_findParts 12 = .ok (.iload_n 3, 1) := by decide +kernel
theorem dX2_findParts_13 : decode cX2_findParts 13 = .ok (.iload_n 2, 1) := by decide +kernel
theorem dX2_findParts_14 : decode cX2_findParts 14 = .ok (.iconst (-1), 1) := by decide +kernel
theorem dX2_findParts_15 : decode cX2_findParts 15 = .ok (.ixor, 1) := by decide +kernel
theorem dX2_findParts_16 : decode cX2_findParts 16 = .ok (.iand, 1) := by decide +kernel
theorem dX2_findParts_17 : decode cX2_findParts 17 = .ok (.ifCond .ne 36, 3) := by decide +kernel
theorem dX2_findParts_20 : decode cX2_findParts 20 = .ok (.aload_n 1, 1) := by decide +kernel
theorem dX2_findParts_21 : decode cX2_findParts 21 = .ok (.iload_n 3, 1) := by decide +kernel
theorem dX2_findParts_22 : decode cX2_findParts 22 = .ok (.iload_n 2, 1) := by decide +kernel
theorem dX2_findParts_23 : decode cX2_findParts 23 = .ok (.iload_n 3, 1) := by decide +kernel
theorem dX2_findParts_24 : decode cX2_findParts 24 = .ok (.iconst (-1), 1) := by decide +kernel
theorem dX2_findParts_25 : decode cX2_findParts 25 = .ok (.ixor, 1) := by decide +kernel
theorem dX2_findParts_26 : decode cX2_findParts 26 = .ok (.iand, 1) := by decide +kernel
theorem dX2_findParts_27 : decode cX2_findParts 27 = .ok (.invokestatic 84, 3) := by decide +kernel
theorem dX2_findParts_30 : decode cX2_findParts 30 = .ok (.ifCond .eq 23, 3) := by decide +kernel
theorem dX2_findParts_33 : decode cX2_findParts 33 = .ok (.aload_n 0, 1) := by decide +kernel
theorem dX2_findParts_34 : decode cX2_findParts 34 = .ok (.getfield 28, 3) := by decide +kernel
theorem dX2_findParts_37 : decode cX2_findParts 37 = .ok (.aload_n 0, 1) := by decide +kernel
theorem dX2_findParts_38 : decode cX2_findParts 38 = .ok (.getfield 81, 3) := by decide +kernel
theorem dX2_findParts_41 : decode cX2_findParts 41 = .ok (.iload_n 3, 1) := by decide +kernel
theorem dX2_findParts_42 : decode cX2_findParts 42 = .ok (.iastore, 1) := by decide +kernel
theorem dX2_findParts_43 : decode cX2_findParts 43 = .ok (.aload_n 0, 1) := by decide +kernel
theorem dX2_findParts_44 : decode cX2_findParts 44 = .ok (.dup, 1) := by decide +kernel
theorem dX2_findParts_45 : decode cX2_findParts 45 = .ok (.getfield 81, 3) := by decide +kernel
theorem dX2_findParts_48 : decode cX2_findParts 48 = .ok (.iconst 1, 1) := by decide +kernel
theorem dX2_findParts_49 : decode cX2_findParts 49 = .ok (.iadd, 1) := by decide +kernel
theorem dX2_findParts_50 : decode cX2_findParts 50 = .ok (.putfield 81, 3) := by decide +kernel
theorem dX2_findParts_53 : decode cX2_findParts 53 = .ok (.iinc 3 1, 3) := by decide +kernel
theorem dX2_findParts_56 : decode cX2_findParts 56 = .ok (.goto (-49), 3) := by decide +kernel
theorem dX2_findParts_59 : decode cX2_findParts 59 = .ok (.return_, 1) := by decide +kernel
set_option maxRecDepth 20000 in
theorem ggX2_apart_X7_has : GoodIn wsX2_apart wsX7_has := goodIn_r _ [5] (by decide +kernel) (by decide +kernel)
set_option maxRecDepth 20000 in
theorem gX2_apart_X7_has_n37 : GoodIn wsX2_apart (wsX7_has) := ggX2_apart_X7_has
theorem dX2_apart_0 : decode cX2_apart 0 = .ok (.iconst 0, 1) := by decide +kernel
theorem dX2_apart_1 : decode cX2_apart 1 = .ok (.istore_n 3, 1) := by decide +kernel
theorem dX2_apart_2 : decode cX2_apart 2 = .ok (.iload_n 3, 1) := by decide +kernel
theorem dX2_apart_3 : decode cX2_apart 3 = .ok (.iconst 5, 1) := by decide +kernel
theorem dX2_apart_4 : decode cX2_apart 4 = .ok (.if_icmp .ge 37, 3) := by decide +kernel
theorem dX2_apart_7 : decode cX2_apart 7 = .ok (.iload_n 1, 1) := by decide +kernel
theorem dX2_apart_8 : decode cX2_apart 8 = .ok (.iload_n 3, 1) := by decide +kernel
theorem dX2_apart_9 : decode cX2_apart 9 = .ok (.invokestatic 37, 3) := by decide +kernel
theorem dX2_apart_12 : decode cX2_apart 12 = .ok (.ifCond .eq 23, 3) := by decide +kernel
theorem dX2_apart_15 : decode cX2_apart 15 = .ok (.aload_n 0, 1) := by decide +kernel
theorem dX2_apart_16 : decode cX2_apart 16 = .ok (.getfield 88, 3) := by decide +kernel
theorem dX2_apart_19 : decode cX2_apart 19 = .ok (.iload_n 3, 1) := by decide +kernel
theorem dX2_apart_20 : decode cX2_apart 20 = .ok (.iaload, 1) := by decide +kernel
theorem dX2_apart_21 : decode cX2_apart 21 = .ok (.aload_n 0, 1) := by decide +kernel
theorem dX2_apart_22 : decode cX2_apart 22 = .ok (.getfield 91, 3) := by decide +kernel
theorem dX2_apart_25 : decode cX2_apart 25 = .ok (.iload_n 3, 1) := by decide +kernel
theorem dX2_apart_26 : decode cX2_apart 26 = .ok (.iaload, 1) := by decide +kernel
theorem dX2_apart_27 : decode cX2_apart 27 = .ok (.ior, 1) := by decide +kernel
theorem dX2_apart_28 : decode cX2_apart 28 = .ok (.iload_n 2, 1) := by decide +kernel
theorem dX2_apart_29 : decode cX2_apart 29 = .ok (.iand, 1) := by decide +kernel
theorem dX2_apart_30 : decode cX2_apart 30 = .ok (.ifCond .eq 5, 3) := by decide +kernel
theorem dX2_apart_33 : decode cX2_apart 33 = .ok (.iconst 0, 1) := by decide +kernel
theorem dX2_apart_34 : decode cX2_apart 34 = .ok (.ireturn, 1) := by decide +kernel
theorem dX2_apart_35 : decode cX2_apart 35 = .ok (.iinc 3 1, 3) := by decide +kernel
theorem dX2_apart_38 : decode cX2_apart 38 = .ok (.goto (-36), 3) := by decide +kernel
theorem dX2_apart_41 : decode cX2_apart 41 = .ok (.iconst 1, 1) := by decide +kernel
theorem dX2_apart_42 : decode cX2_apart 42 = .ok (.ireturn, 1) := by decide +kernel
set_option maxRecDepth 20000 in
theorem ggX2_findSums_X2_filled : GoodIn wsX2_findSums wsX2_filled := goodIn_r _ [10, 11, 12, 13, 1, 2, 3, 4, 5, 14, 15, 16, 31, 32, 33, 34, 35, 36, 37, 38, 39, 40, 41, 42, 23, 24, 25, 26, 27, 28, 29, 30] (by decide +kernel) (by decide +kernel)
set_option maxRecDepth 20000 in
theorem gX2_findSums_X2_filled : GoodIn wsX2_findSums (wsV RX2 94 RX2 yX2_filled wsX2_filled) := goodIn_app (goodIn_of _ (by decide +kernel)) ggX2_findSums_X2_filled
set_option maxRecDepth 20000 in
theorem ggX2_findSums_X2_parted : GoodIn wsX2_findSums wsX2_parted := goodIn_r _ [20, 11, 21, 22, 1, 2, 3, 4, 5, 23, 24, 25, 26, 27, 28, 29, 30] (by decide +kernel) (by decide +kernel)
set_option maxRecDepth 20000 in
theorem gX2_findSums_X2_parted : GoodIn wsX2_findSums (wsV RX2 101 RX2 yX2_parted wsX2_parted) := goodIn_app (goodIn_of _ (by decide +kernel)) ggX2_findSums_X2_parted
theorem dX2_findSums_0 : decode cX2_findSums 0 = .ok (.iconst 0, 1) := by decide +kernel
theorem dX2_findSums_1 : decode cX2_findSums 1 = .ok (.istore 4, 2) := by decide +kernel
theorem dX2_findSums_3 : decode cX2_findSums 3 = .ok (.iload 4, 2) := by decide +kernel
theorem dX2_findSums_5 : decode cX2_findSums 5 = .ok (.iload_n 3, 1) := by decide +kernel
theorem dX2_findSums_6 : decode cX2_findSums 6 = .ok (.if_icmp .gt 145, 3) := by decide +kernel
theorem dX2_findSums_9 : decode cX2_findSums 9 = .ok (.iconst 0, 1) := by decide +kernel
theorem dX2_findSums_10 : decode cX2_findSums 10 = .ok (.istore 5, 2) := by decide +kernel
theorem dX2_findSums_12 : decode cX2_findSums 12 = .ok (.iload 5, 2) := by decide +kernel
theorem dX2_findSums_14 : decode cX2_findSums 14 = .ok (.iload 4, 2) := by decide +kernel
theorem dX2_findSums_16 : decode cX2_findSums 16 = .ok (.iadd, 1) := by decide +kernel
theorem dX2_findSums_17 : decode cX2_findSums 17 = .ok (.iload_n 3, 1) := by decide +kernel
theorem dX2_findSums_18 : decode cX2_findSums 18 = .ok (.if_icmp .gt 127, 3) := by decide +kernel
theorem dX2_findSums_21 : decode cX2_findSums 21 = .ok (.iload 5, 2) := by decide +kernel
theorem dX2_findSums_23 : decode cX2_findSums 23 = .ok (.iload 4, 2) := by decide +kernel
theorem dX2_findSums_25 : decode cX2_findSums 25 = .ok (.iadd, 1) := by decide +kernel
theorem dX2_findSums_26 : decode cX2_findSums 26 = .ok (.istore 6, 2) := by decide +kernel
theorem dX2_findSums_28 : decode cX2_findSums 28 = .ok (.aload_n 0, 1) := by decide +kernel
theorem dX2_findSums_29 : decode cX2_findSums 29 = .ok (.aload_n 1, 1) := by decide +kernel
theorem dX2_findSums_30 : decode cX2_findSums 30 = .ok (.iload_n 2, 1) := by decide +kernel
theorem dX2_findSums_31 : decode cX2_findSums 31 = .ok (.iload 5, 2) := by decide +kernel
theorem dX2_findSums_33 : decode cX2_findSums 33 = .ok (.bipush 9, 2) := by decide +kernel
theorem dX2_findSums_35 : decode cX2_findSums 35 = .ok (.imul, 1) := by decide +kernel
theorem dX2_findSums_36 : decode cX2_findSums 36 = .ok (.iload 6, 2) := by decide +kernel
theorem dX2_findSums_38 : decode cX2_findSums 38 = .ok (.iadd, 1) := by decide +kernel
theorem dX2_findSums_39 : decode cX2_findSums 39 = .ok (.invokevirtual 94, 3) := by decide +kernel
theorem dX2_findSums_42 : decode cX2_findSums 42 = .ok (.lstore 7, 2) := by decide +kernel
theorem dX2_findSums_44 : decode cX2_findSums 44 = .ok (.iload 4, 2) := by decide +kernel
theorem dX2_findSums_46 : decode cX2_findSums 46 = .ok (.ifCond .le 73, 3) := by decide +kernel
theorem dX2_findSums_49 : decode cX2_findSums 49 = .ok (.lload 7, 2) := by decide +kernel
theorem dX2_findSums_51 : decode cX2_findSums 51 = .ok (.aload_n 0, 1) := by decide +kernel
theorem dX2_findSums_52 : decode cX2_findSums 52 = .ok (.getfield 25, 3) := by decide +kernel
theorem dX2_findSums_55 : decode cX2_findSums 55 = .ok (.iload_n 2, 1) := by decide +kernel
theorem dX2_findSums_56 : decode cX2_findSums 56 = .ok (.bipush 81, 2) := by decide +kernel
theorem dX2_findSums_58 : decode cX2_findSums 58 = .ok (.imul, 1) := by decide +kernel
theorem dX2_findSums_59 : decode cX2_findSums 59 = .ok (.iload 5, 2) := by decide +kernel
theorem dX2_findSums_61 : decode cX2_findSums 61 = .ok (.iconst 1, 1) := by decide +kernel
theorem dX2_findSums_62 : decode cX2_findSums 62 = .ok (.iadd, 1) := by decide +kernel
theorem dX2_findSums_63 : decode cX2_findSums 63 = .ok (.bipush 9, 2) := by decide +kernel
theorem dX2_findSums_65 : decode cX2_findSums 65 = .ok (.imul, 1) := by decide +kernel
theorem dX2_findSums_66 : decode cX2_findSums 66 = .ok (.iadd, 1) := by decide +kernel
theorem dX2_findSums_67 : decode cX2_findSums 67 = .ok (.iload 6, 2) := by decide +kernel
theorem dX2_findSums_69 : decode cX2_findSums 69 = .ok (.iadd, 1) := by decide +kernel
theorem dX2_findSums_70 : decode cX2_findSums 70 = .ok (.laload, 1) := by decide +kernel
theorem dX2_findSums_71 : decode cX2_findSums 71 = .ok (.invokestatic 98, 3) := by decide +kernel
theorem dX2_findSums_74 : decode cX2_findSums 74 = .ok (.lstore 7, 2) := by decide +kernel
theorem dX2_findSums_76 : decode cX2_findSums 76 = .ok (.lload 7, 2) := by decide +kernel
theorem dX2_findSums_78 : decode cX2_findSums 78 = .ok (.aload_n 0, 1) := by decide +kernel
theorem dX2_findSums_79 : decode cX2_findSums 79 = .ok (.getfield 25, 3) := by decide +kernel
theorem dX2_findSums_82 : decode cX2_findSums 82 = .ok (.iload_n 2, 1) := by decide +kernel
theorem dX2_findSums_83 : decode cX2_findSums 83 = .ok (.bipush 81, 2) := by decide +kernel
theorem dX2_findSums_85 : decode cX2_findSums 85 = .ok (.imul, 1) := by decide +kernel
theorem dX2_findSums_86 : decode cX2_findSums 86 = .ok (.iload 5, 2) := by decide +kernel
theorem dX2_findSums_88 : decode cX2_findSums 88 = .ok (.bipush 9, 2) := by decide +kernel
theorem dX2_findSums_90 : decode cX2_findSums 90 = .ok (.imul, 1) := by decide +kernel
theorem dX2_findSums_91 : decode cX2_findSums 91 = .ok (.iadd, 1) := by decide +kernel
theorem dX2_findSums_92 : decode cX2_findSums 92 = .ok (.iload 6, 2) := by decide +kernel
theorem dX2_findSums_94 : decode cX2_findSums 94 = .ok (.iadd, 1) := by decide +kernel
theorem dX2_findSums_95 : decode cX2_findSums 95 = .ok (.iconst 1, 1) := by decide +kernel
theorem dX2_findSums_96 : decode cX2_findSums 96 = .ok (.isub, 1) := by decide +kernel
theorem dX2_findSums_97 : decode cX2_findSums 97 = .ok (.laload, 1) := by decide +kernel
theorem dX2_findSums_98 : decode cX2_findSums 98 = .ok (.invokestatic 98, 3) := by decide +kernel
theorem dX2_findSums_101 : decode cX2_findSums 101 = .ok (.lstore 7, 2) := by decide +kernel
theorem dX2_findSums_103 : decode cX2_findSums 103 = .ok (.lload 7, 2) := by decide +kernel
theorem dX2_findSums_105 : decode cX2_findSums 105 = .ok (.aload_n 0, 1) := by decide +kernel
theorem dX2_findSums_106 : decode cX2_findSums 106 = .ok (.iload_n 2, 1) := by decide +kernel
theorem dX2_findSums_107 : decode cX2_findSums 107 = .ok (.iload 5, 2) := by decide +kernel
theorem dX2_findSums_109 : decode cX2_findSums 109 = .ok (.iload 6, 2) := by decide +kernel
theorem dX2_findSums_111 : decode cX2_findSums 111 = .ok (.invokevirtual 101, 3) := by decide +kernel
theorem dX2_findSums_114 : decode cX2_findSums 114 = .ok (.invokestatic 98, 3) := by decide +kernel
theorem dX2_findSums_117 : decode cX2_findSums 117 = .ok (.lstore 7, 2) := by decide +kernel
theorem dX2_findSums_119 : decode cX2_findSums 119 = .ok (.aload_n 0, 1) := by decide +kernel
theorem dX2_findSums_120 : decode cX2_findSums 120 = .ok (.getfield 25, 3) := by decide +kernel
theorem dX2_findSums_123 : decode cX2_findSums 123 = .ok (.iload_n 2, 1) := by decide +kernel
theorem dX2_findSums_124 : decode cX2_findSums 124 = .ok (.bipush 81, 2) := by decide +kernel
theorem dX2_findSums_126 : decode cX2_findSums 126 = .ok (.imul, 1) := by decide +kernel
theorem dX2_findSums_127 : decode cX2_findSums 127 = .ok (.iload 5, 2) := by decide +kernel
theorem dX2_findSums_129 : decode cX2_findSums 129 = .ok (.bipush 9, 2) := by decide +kernel
theorem dX2_findSums_131 : decode cX2_findSums 131 = .ok (.imul, 1) := by decide +kernel
theorem dX2_findSums_132 : decode cX2_findSums 132 = .ok (.iadd, 1) := by decide +kernel
theorem dX2_findSums_133 : decode cX2_findSums 133 = .ok (.iload 6, 2) := by decide +kernel
theorem dX2_findSums_135 : decode cX2_findSums 135 = .ok (.iadd, 1) := by decide +kernel
theorem dX2_findSums_136 : decode cX2_findSums 136 = .ok (.lload 7, 2) := by decide +kernel
theorem dX2_findSums_138 : decode cX2_findSums 138 = .ok (.lastore, 1) := by decide +kernel
theorem dX2_findSums_139 : decode cX2_findSums 139 = .ok (.iinc 5 1, 3) := by decide +kernel
theorem dX2_findSums_142 : decode cX2_findSums 142 = .ok (.goto (-130), 3) := by decide +kernel
theorem dX2_findSums_145 : decode cX2_findSums 145 = .ok (.iinc 4 1, 3) := by decide +kernel
theorem dX2_findSums_148 : decode cX2_findSums 148 = .ok (.goto (-145), 3) := by decide +kernel
theorem dX2_findSums_151 : decode cX2_findSums 151 = .ok (.return_, 1) := by decide +kernel
set_option maxRecDepth 20000 in
theorem ggX2_filled_X7_has : GoodIn wsX2_filled wsX7_has := goodIn_r _ [11] (by decide +kernel) (by decide +kernel)
set_option maxRecDepth 20000 in
theorem gX2_filled_X7_has_n37 : GoodIn wsX2_filled (wsX7_has) := ggX2_filled_X7_has
theorem dX2_filled_0 : decode cX2_filled 0 = .ok (.ldc2_w 105, 3) := by decide +kernel
theorem dX2_filled_3 : decode cX2_filled 3 = .ok (.lstore 4, 2) := by decide +kernel
theorem dX2_filled_5 : decode cX2_filled 5 = .ok (.iconst 0, 1) := by decide +kernel
theorem dX2_filled_6 : decode cX2_filled 6 = .ok (.istore 6, 2) := by decide +kernel
theorem dX2_filled_8 : decode cX2_filled 8 = .ok (.iload 6, 2) := by decide +kernel
theorem dX2_filled_10 : decode cX2_filled 10 = .ok (.iconst 5, 1) := by decide +kernel
theorem dX2_filled_11 : decode cX2_filled 11 = .ok (.if_icmp .ge 72, 3) := by decide +kernel
theorem dX2_filled_14 : decode cX2_filled 14 = .ok (.iload_n 2, 1) := by decide +kernel
theorem dX2_filled_15 : decode cX2_filled 15 = .ok (.iload 6, 2) := by decide +kernel
theorem dX2_filled_17 : decode cX2_filled 17 = .ok (.invokestatic 37, 3) := by decide +kernel
theorem dX2_filled_20 : decode cX2_filled 20 = .ok (.ifCond .eq 57, 3) := by decide +kernel
theorem dX2_filled_23 : decode cX2_filled 23 = .ok (.aload_n 1, 1) := by decide +kernel
theorem dX2_filled_24 : decode cX2_filled 24 = .ok (.getfield 91, 3) := by decide +kernel
theorem dX2_filled_27 : decode cX2_filled 27 = .ok (.iload 6, 2) := by decide +kernel
theorem dX2_filled_29 : decode cX2_filled 29 = .ok (.iaload, 1) := by decide +kernel
theorem dX2_filled_30 : decode cX2_filled 30 = .ok (.iload_n 2, 1) := by decide +kernel
theorem dX2_filled_31 : decode cX2_filled 31 = .ok (.iand, 1) := by decide +kernel
theorem dX2_filled_32 : decode cX2_filled 32 = .ok (.ifCond .ne 45, 3) := by decide +kernel
theorem dX2_filled_35 : decode cX2_filled 35 = .ok (.iload_n 2, 1) := by decide +kernel
theorem dX2_filled_36 : decode cX2_filled 36 = .ok (.iconst 1, 1) := by decide +kernel
theorem dX2_filled_37 : decode cX2_filled 37 = .ok (.iload 6, 2) := by decide +kernel
theorem dX2_filled_39 : decode cX2_filled 39 = .ok (.ishl, 1) := by decide +kernel
theorem dX2_filled_40 : decode cX2_filled 40 = .ok (.iconst (-1), 1) := by decide +kernel
theorem dX2_filled_41 : decode cX2_filled 41 = .ok (.ixor, 1) := by decide +kernel
theorem dX2_filled_42 : decode cX2_filled 42 = .ok (.iand, 1) := by decide +kernel
theorem dX2_filled_43 : decode cX2_filled 43 = .ok (.istore 7, 2) := by decide +kernel
theorem dX2_filled_45 : decode cX2_filled 45 = .ok (.lload 4, 2) := by decide +kernel
theorem dX2_filled_47 : decode cX2_filled 47 = .ok (.aload_n 0, 1) := by decide +kernel
theorem dX2_filled_48 : decode cX2_filled 48 = .ok (.getfield 21, 3) := by decide +kernel
theorem dX2_filled_51 : decode cX2_filled 51 = .ok (.iload 6, 2) := by decide +kernel
theorem dX2_filled_53 : decode cX2_filled 53 = .ok (.bipush 81, 2) := by decide +kernel
theorem dX2_filled_55 : decode cX2_filled 55 = .ok (.imul, 1) := by decide +kernel
theorem dX2_filled_56 : decode cX2_filled 56 = .ok (.iload_n 3, 1) := by decide +kernel
theorem dX2_filled_57 : decode cX2_filled 57 = .ok (.iadd, 1) := by decide +kernel
theorem dX2_filled_58 : decode cX2_filled 58 = .ok (.laload, 1) := by decide +kernel
theorem dX2_filled_59 : decode cX2_filled 59 = .ok (.aload_n 0, 1) := by decide +kernel
theorem dX2_filled_60 : decode cX2_filled 60 = .ok (.getfield 25, 3) := by decide +kernel
theorem dX2_filled_63 : decode cX2_filled 63 = .ok (.iload 7, 2) := by decide +kernel
theorem dX2_filled_65 : decode cX2_filled 65 = .ok (.bipush 81, 2) := by decide +kernel
theorem dX2_filled_67 : decode cX2_filled 67 = .ok (.imul, 1) := by decide +kernel
theorem dX2_filled_68 : decode cX2_filled 68 = .ok (.iload_n 3, 1) := by decide +kernel
theorem dX2_filled_69 : decode cX2_filled 69 = .ok (.iadd, 1) := by decide +kernel
theorem dX2_filled_70 : decode cX2_filled 70 = .ok (.laload, 1) := by decide +kernel
theorem dX2_filled_71 : decode cX2_filled 71 = .ok (.ladd, 1) := by decide +kernel
theorem dX2_filled_72 : decode cX2_filled 72 = .ok (.invokestatic 98, 3) := by decide +kernel
theorem dX2_filled_75 : decode cX2_filled 75 = .ok (.lstore 4, 2) := by decide +kernel
theorem dX2_filled_77 : decode cX2_filled 77 = .ok (.iinc 6 1, 3) := by decide +kernel
theorem dX2_filled_80 : decode cX2_filled 80 = .ok (.goto (-72), 3) := by decide +kernel
theorem dX2_filled_83 : decode cX2_filled 83 = .ok (.lload 4, 2) := by decide +kernel
theorem dX2_filled_85 : decode cX2_filled 85 = .ok (.lreturn, 1) := by decide +kernel
theorem dX2_parted_0 : decode cX2_parted 0 = .ok (.ldc2_w 105, 3) := by decide +kernel
theorem dX2_parted_3 : decode cX2_parted 3 = .ok (.lstore 4, 2) := by decide +kernel
theorem dX2_parted_5 : decode cX2_parted 5 = .ok (.iconst 0, 1) := by decide +kernel
theorem dX2_parted_6 : decode cX2_parted 6 = .ok (.istore 6, 2) := by decide +kernel
theorem dX2_parted_8 : decode cX2_parted 8 = .ok (.iload 6, 2) := by decide +kernel
theorem dX2_parted_10 : decode cX2_parted 10 = .ok (.aload_n 0, 1) := by decide +kernel
theorem dX2_parted_11 : decode cX2_parted 11 = .ok (.getfield 81, 3) := by decide +kernel
theorem dX2_parted_14 : decode cX2_parted 14 = .ok (.if_icmp .ge 90, 3) := by decide +kernel
theorem dX2_parted_17 : decode cX2_parted 17 = .ok (.aload_n 0, 1) := by decide +kernel
theorem dX2_parted_18 : decode cX2_parted 18 = .ok (.getfield 28, 3) := by decide +kernel
theorem dX2_parted_21 : decode cX2_parted 21 = .ok (.iload 6, 2) := by decide +kernel
theorem dX2_parted_23 : decode cX2_parted 23 = .ok (.iaload, 1) := by decide +kernel
theorem dX2_parted_24 : decode cX2_parted 24 = .ok (.bipush 81, 2) := by decide +kernel
theorem dX2_parted_26 : decode cX2_parted 26 = .ok (.imul, 1) := by decide +kernel
theorem dX2_parted_27 : decode cX2_parted 27 = .ok (.iload_n 2, 1) := by decide +kernel
theorem dX2_parted_28 : decode cX2_parted 28 = .ok (.bipush 9, 2) := by decide +kernel
theorem dX2_parted_30 : decode cX2_parted 30 = .ok (.imul, 1) := by decide +kernel
theorem dX2_parted_31 : decode cX2_parted 31 = .ok (.iadd, 1) := by decide +kernel
theorem dX2_parted_32 : decode cX2_parted 32 = .ok (.istore 7, 2) := by decide +kernel
theorem dX2_parted_34 : decode cX2_parted 34 = .ok (.iload_n 1, 1) := by decide +kernel
theorem dX2_parted_35 : decode cX2_parted 35 = .ok (.aload_n 0, 1) := by decide +kernel
theorem dX2_parted_36 : decode cX2_parted 36 = .ok (.getfield 28, 3) := by decide +kernel
theorem dX2_parted_39 : decode cX2_parted 39 = .ok (.iload 6, 2) := by decide +kernel
theorem dX2_parted_41 : decode cX2_parted 41 = .ok (.iaload, 1) := by decide +kernel
theorem dX2_parted_42 : decode cX2_parted 42 = .ok (.iconst (-1), 1) := by decide +kernel
theorem dX2_parted_43 : decode cX2_parted 43 = .ok (.ixor, 1) := by decide +kernel
theorem dX2_parted_44 : decode cX2_parted 44 = .ok (.iand, 1) := by decide +kernel
theorem dX2_parted_45 : decode cX2_parted 45 = .ok (.bipush 81, 2) := by decide +kernel
theorem dX2_parted_47 : decode cX2_parted 47 = .ok (.imul, 1) := by decide +kernel
theorem dX2_parted_48 : decode cX2_parted 48 = .ok (.iload_n 3, 1) := by decide +kernel
theorem dX2_parted_49 : decode cX2_parted 49 = .ok (.iadd, 1) := by decide +kernel
theorem dX2_parted_50 : decode cX2_parted 50 = .ok (.istore 8, 2) := by decide +kernel
theorem dX2_parted_52 : decode cX2_parted 52 = .ok (.iload_n 2, 1) := by decide +kernel
theorem dX2_parted_53 : decode cX2_parted 53 = .ok (.istore 9, 2) := by decide +kernel
theorem dX2_parted_55 : decode cX2_parted 55 = .ok (.iload 9, 2) := by decide +kernel
theorem dX2_parted_57 : decode cX2_parted 57 = .ok (.iload_n 3, 1) := by decide +kernel
theorem dX2_parted_58 : decode cX2_parted 58 = .ok (.if_icmp .ge 40, 3) := by decide +kernel
theorem dX2_parted_61 : decode cX2_parted 61 = .ok (.lload 4, 2) := by decide +kernel
theorem dX2_parted_63 : decode cX2_parted 63 = .ok (.aload_n 0, 1) := by decide +kernel
theorem dX2_parted_64 : decode cX2_parted 64 = .ok (.getfield 25, 3) := by decide +kernel
theorem dX2_parted_67 : decode cX2_parted 67 = .ok (.iload 7, 2) := by decide +kernel
theorem dX2_parted_69 : decode cX2_parted 69 = .ok (.iload 9, 2) := by decide +kernel
theorem dX2_parted_71 : decode cX2_parted 71 = .ok (.iadd, 1) := by decide +kernel
theorem dX2_parted_72 : decode cX2_parted 72 = .ok (.laload, 1) := by decide +kernel
theorem dX2_parted_73 : decode cX2_parted 73 = .ok (.aload_n 0, 1) := by decide +kernel
theorem dX2_parted_74 : decode cX2_parted 74 = .ok (.getfield 25, 3) := by decide +kernel
theorem dX2_parted_77 : decode cX2_parted 77 = .ok (.iload 8, 2) := by decide +kernel
theorem dX2_parted_79 : decode cX2_parted 79 = .ok (.iload 9, 2) := by decide +kernel
theorem dX2_parted_81 : decode cX2_parted 81 = .ok (.bipush 9, 2) := by decide +kernel
theorem dX2_parted_83 : decode cX2_parted 83 = .ok (.imul, 1) := by decide +kernel
theorem dX2_parted_84 : decode cX2_parted 84 = .ok (.iadd, 1) := by decide +kernel
theorem dX2_parted_85 : decode cX2_parted 85 = .ok (.laload, 1) := by decide +kernel
theorem dX2_parted_86 : decode cX2_parted 86 = .ok (.ladd, 1) := by decide +kernel
theorem dX2_parted_87 : decode cX2_parted 87 = .ok (.invokestatic 98, 3) := by decide +kernel
theorem dX2_parted_90 : decode cX2_parted 90 = .ok (.lstore 4, 2) := by decide +kernel
theorem dX2_parted_92 : decode cX2_parted 92 = .ok (.iinc 9 1, 3) := by decide +kernel
theorem dX2_parted_95 : decode cX2_parted 95 = .ok (.goto (-40), 3) := by decide +kernel
theorem dX2_parted_98 : decode cX2_parted 98 = .ok (.iinc 6 1, 3) := by decide +kernel
theorem dX2_parted_101 : decode cX2_parted 101 = .ok (.goto (-93), 3) := by decide +kernel
theorem dX2_parted_104 : decode cX2_parted 104 = .ok (.lload 4, 2) := by decide +kernel
theorem dX2_parted_106 : decode cX2_parted 106 = .ok (.lreturn, 1) := by decide +kernel
set_option maxRecDepth 20000 in
theorem ggX2_readSpans_X7_has : GoodIn wsX2_readSpans wsX7_has := goodIn_r _ [9] (by decide +kernel) (by decide +kernel)
set_option maxRecDepth 20000 in
theorem gX2_readSpans_X7_has_n37 : GoodIn wsX2_readSpans (wsX7_has) := ggX2_readSpans_X7_has
set_option maxRecDepth 20000 in
theorem ggX2_readSpans_X2_shiftOf : GoodIn wsX2_readSpans wsX2_shiftOf := goodIn_r _ [13] (by decide +kernel) (by decide +kernel)
set_option maxRecDepth 20000 in
theorem gX2_readSpans_X2_shiftOf : GoodIn wsX2_readSpans (va_wsS RX2 61 yX2_shiftOf wsX2_shiftOf) := goodIn_app (goodIn_of _ (by decide +kernel)) ggX2_readSpans_X2_shiftOf
set_option maxRecDepth 20000 in
theorem ggX2_readSpans_X2_costOf : GoodIn wsX2_readSpans wsX2_costOf := goodIn_r _ [16, 17, 18, 19, 20, 21, 22, 23, 24, 25, 26] (by decide +kernel) (by decide +kernel)
set_option maxRecDepth 20000 in
theorem gX2_readSpans_X2_costOf : GoodIn wsX2_readSpans (va_wsS RX2 65 yX2_costOf wsX2_costOf) := goodIn_app (goodIn_of _ (by decide +kernel)) ggX2_readSpans_X2_costOf
theorem dX2_readSpans_0 : decode cX2_readSpans 0 = .ok (.aload_n 0, 1) := by decide +kernel
theorem dX2_readSpans_1 : decode cX2_readSpans 1 = .ok (.lload_n 3, 1) := by decide +kernel
theorem dX2_readSpans_2 : decode cX2_readSpans 2 = .ok (.bipush 40, 2) := by decide +kernel
theorem dX2_readSpans_4 : decode cX2_readSpans 4 = .ok (.lshr, 1) := by decide +kernel
theorem dX2_readSpans_5 : decode cX2_readSpans 5 = .ok (.l2i, 1) := by decide +kernel
theorem dX2_readSpans_6 : decode cX2_readSpans 6 = .ok (.putfield 107, 3) := by decide +kernel
theorem dX2_readSpans_9 : decode cX2_readSpans 9 = .ok (.iconst 0, 1) := by decide +kernel
theorem dX2_readSpans_10 : decode cX2_readSpans 10 = .ok (.istore 5, 2) := by decide +kernel
theorem dX2_readSpans_12 : decode cX2_readSpans 12 = .ok (.iload 5, 2) := by decide +kernel
theorem dX2_readSpans_14 : decode cX2_readSpans 14 = .ok (.iconst 5, 1) := by decide +kernel
theorem dX2_readSpans_15 : decode cX2_readSpans 15 = .ok (.if_icmp .ge 94, 3) := by decide +kernel
theorem dX2_readSpans_18 : decode cX2_readSpans 18 = .ok (.iload_n 1, 1) := by decide +kernel
theorem dX2_readSpans_19 : decode cX2_readSpans 19 = .ok (.iload 5, 2) := by decide +kernel
theorem dX2_readSpans_21 : decode cX2_readSpans 21 = .ok (.invokestatic 37, 3) := by decide +kernel
theorem dX2_readSpans_24 : decode cX2_readSpans 24 = .ok (.ifCond .eq 79, 3) := by decide +kernel
theorem dX2_readSpans_27 : decode cX2_readSpans 27 = .ok (.lload_n 3, 1) := by decide +kernel
theorem dX2_readSpans_28 : decode cX2_readSpans 28 = .ok (.iload 5, 2) := by decide +kernel
theorem dX2_readSpans_30 : decode cX2_readSpans 30 = .ok (.invokestatic 61, 3) := by decide +kernel
theorem dX2_readSpans_33 : decode cX2_readSpans 33 = .ok (.lshr, 1) := by decide +kernel
theorem dX2_readSpans_34 : decode cX2_readSpans 34 = .ok (.l2i, 1) := by decide +kernel
theorem dX2_readSpans_35 : decode cX2_readSpans 35 = .ok (.istore 6, 2) := by decide +kernel
theorem dX2_readSpans_37 : decode cX2_readSpans 37 = .ok (.aload_n 0, 1) := by decide +kernel
theorem dX2_readSpans_38 : decode cX2_readSpans 38 = .ok (.getfield 11, 3) := by decide +kernel
theorem dX2_readSpans_41 : decode cX2_readSpans 41 = .ok (.iload 5, 2) := by decide +kernel
theorem dX2_readSpans_43 : decode cX2_readSpans 43 = .ok (.iload 6, 2) := by decide +kernel
theorem dX2_readSpans_45 : decode cX2_readSpans 45 = .ok (.iconst 4, 1) := by decide +kernel
theorem dX2_readSpans_46 : decode cX2_readSpans 46 = .ok (.ishr, 1) := by decide +kernel
theorem dX2_readSpans_47 : decode cX2_readSpans 47 = .ok (.bipush 15, 2) := by decide +kernel
theorem dX2_readSpans_49 : decode cX2_readSpans 49 = .ok (.iand, 1) := by decide +kernel
theorem dX2_readSpans_50 : decode cX2_readSpans 50 = .ok (.iastore, 1) := by decide +kernel
theorem dX2_readSpans_51 : decode cX2_readSpans 51 = .ok (.aload_n 0, 1) := by decide +kernel
theorem dX2_readSpans_52 : decode cX2_readSpans 52 = .ok (.getfield 15, 3) := by decide +kernel
theorem dX2_readSpans_55 : decode cX2_readSpans 55 = .ok (.iload 5, 2) := by decide +kernel
theorem dX2_readSpans_57 : decode cX2_readSpans 57 = .ok (.iload 6, 2) := by decide +kernel
theorem dX2_readSpans_59 : decode cX2_readSpans 59 = .ok (.bipush 15, 2) := by decide +kernel
theorem dX2_readSpans_61 : decode cX2_readSpans 61 = .ok (.iand, 1) := by decide +kernel
theorem dX2_readSpans_62 : decode cX2_readSpans 62 = .ok (.iastore, 1) := by decide +kernel
theorem dX2_readSpans_63 : decode cX2_readSpans 63 = .ok (.aload_n 0, 1) := by decide +kernel
theorem dX2_readSpans_64 : decode cX2_readSpans 64 = .ok (.getfield 18, 3) := by decide +kernel
theorem dX2_readSpans_67 : decode cX2_readSpans 67 = .ok (.iload 5, 2) := by decide +kernel
theorem dX2_readSpans_69 : decode cX2_readSpans 69 = .ok (.iload 5, 2) := by decide +kernel
theorem dX2_readSpans_71 : decode cX2_readSpans 71 = .ok (.aload_n 2, 1) := by decide +kernel
theorem dX2_readSpans_72 : decode cX2_readSpans 72 = .ok (.getfield 41, 3) := by decide +kernel
theorem dX2_readSpans_75 : decode cX2_readSpans 75 = .ok (.iload 5, 2) := by decide +kernel
theorem dX2_readSpans_77 : decode cX2_readSpans 77 = .ok (.iaload, 1) := by decide +kernel
theorem dX2_readSpans_78 : decode cX2_readSpans 78 = .ok (.aload_n 2, 1) := by decide +kernel
theorem dX2_readSpans_79 : decode cX2_readSpans 79 = .ok (.getfield 44, 3) := by decide +kernel
theorem dX2_readSpans_82 : decode cX2_readSpans 82 = .ok (.iload 5, 2) := by decide +kernel
theorem dX2_readSpans_84 : decode cX2_readSpans 84 = .ok (.iaload, 1) := by decide +kernel
theorem dX2_readSpans_85 : decode cX2_readSpans 85 = .ok (.aload_n 0, 1) := by decide +kernel
theorem dX2_readSpans_86 : decode cX2_readSpans 86 = .ok (.getfield 11, 3) := by decide +kernel
theorem dX2_readSpans_89 : decode cX2_readSpans 89 = .ok (.iload 5, 2) := by decide +kernel
theorem dX2_readSpans_91 : decode cX2_readSpans 91 = .ok (.iaload, 1) := by decide +kernel
theorem dX2_readSpans_92 : decode cX2_readSpans 92 = .ok (.aload_n 0, 1) := by decide +kernel
theorem dX2_readSpans_93 : decode cX2_readSpans 93 = .ok (.getfield 15, 3) := by decide +kernel
theorem dX2_readSpans_96 : decode cX2_readSpans 96 = .ok (.iload 5, 2) := by decide +kernel
theorem dX2_readSpans_98 : decode cX2_readSpans 98 = .ok (.iaload, 1) := by decide +kernel
theorem dX2_readSpans_99 : decode cX2_readSpans 99 = .ok (.invokestatic 65, 3) := by decide +kernel
theorem dX2_readSpans_102 : decode cX2_readSpans 102 = .ok (.iastore, 1) := by decide +kernel
theorem dX2_readSpans_103 : decode cX2_readSpans 103 = .ok (.iinc 5 1, 3) := by decide +kernel
theorem dX2_readSpans_106 : decode cX2_readSpans 106 = .ok (.goto (-94), 3) := by decide +kernel
theorem dX2_readSpans_109 : decode cX2_readSpans 109 = .ok (.return_, 1) := by decide +kernel
set_option maxRecDepth 20000 in
theorem ggX3_init_X4_init : GoodIn wsX3_init wsX4_init := goodIn_r _ [11, 12, 2, 3, 8, 13, 14, 15, 16, 17, 18, 19, 20, 21, 22, 23, 24, 25, 26, 27, 28, 29, 30, 31] (by decide +kernel) (by decide +kernel)
set_option maxRecDepth 20000 in
theorem gX3_init_X4_init_n11 : GoodIn wsX3_init (wsX4_init) := ggX3_init_X4_init
theorem dX3_init_0 : decode cX3_init 0 = .ok (.aload_n 0, 1) := by decide +kernel
theorem dX3_init_1 : decode cX3_init 1 = .ok (.invokespecial 3, 3) := by decide +kernel
theorem dX3_init_4 : decode cX3_init 4 = .ok (.aload_n 0, 1) := by decide +kernel
theorem dX3_init_5 : decode cX3_init 5 = .ok (.new 9, 3) := by decide +kernel
theorem dX3_init_8 : decode cX3_init 8 = .ok (.dup, 1) := by decide +kernel
theorem dX3_init_9 : decode cX3_init 9 = .ok (.invokespecial 11, 3) := by decide +kernel
theorem dX3_init_12 : decode cX3_init 12 = .ok (.putfield 12, 3) := by decide +kernel
theorem dX3_init_15 : decode cX3_init 15 = .ok (.aload_n 0, 1) := by decide +kernel
theorem dX3_init_16 : decode cX3_init 16 = .ok (.bipush 12, 2) := by decide +kernel
theorem dX3_init_18 : decode cX3_init 18 = .ok (.newarray .int, 2) := by decide +kernel
theorem dX3_init_20 : decode cX3_init 20 = .ok (.putfield 18, 3) := by decide +kernel
theorem dX3_init_23 : decode cX3_init 23 = .ok (.return_, 1) := by decide +kernel
set_option maxRecDepth 20000 in
theorem ggX3_copy_X4_copy : GoodIn wsX3_copy wsX4_copy := goodIn_r _ [8, 9, 10, 11, 12, 13, 14, 15, 16, 17, 18, 19, 20, 24, 25, 26, 27, 28, 29, 30, 31, 32, 33, 34, 35] (by decide +kernel) (by decide +kernel)
set_option maxRecDepth 20000 in
theorem gX3_copy_X4_copy : GoodIn wsX3_copy (wsV RX3 22 RX4 yX4_copy wsX4_copy) := goodIn_app (goodIn_of _ (by decide +kernel)) ggX3_copy_X4_copy
theorem dX3_copy_0 : decode cX3_copy 0 = .ok (.aload_n 0, 1) := by decide +kernel
theorem dX3_copy_1 : decode cX3_copy 1 = .ok (.getfield 12, 3) := by decide +kernel
theorem dX3_copy_4 : decode cX3_copy 4 = .ok (.aload_n 1, 1) := by decide +kernel
theorem dX3_copy_5 : decode cX3_copy 5 = .ok (.getfield 12, 3) := by decide +kernel
theorem dX3_copy_8 : decode cX3_copy 8 = .ok (.invokevirtual 22, 3) := by decide +kernel
theorem dX3_copy_11 : decode cX3_copy 11 = .ok (.aload_n 0, 1) := by decide +kernel
theorem dX3_copy_12 : decode cX3_copy 12 = .ok (.aload_n 1, 1) := by decide +kernel
theorem dX3_copy_13 : decode cX3_copy 13 = .ok (.getfield 26, 3) := by decide +kernel
theorem dX3_copy_16 : decode cX3_copy 16 = .ok (.putfield 26, 3) := by decide +kernel
theorem dX3_copy_19 : decode cX3_copy 19 = .ok (.iconst 0, 1) := by decide +kernel
theorem dX3_copy_20 : decode cX3_copy 20 = .ok (.istore_n 2, 1) := by decide +kernel
theorem dX3_copy_21 : decode cX3_copy 21 = .ok (.iload_n 2, 1) := by decide +kernel
theorem dX3_copy_22 : decode cX3_copy 22 = .ok (.bipush 12, 2) := by decide +kernel
theorem dX3_copy_24 : decode cX3_copy 24 = .ok (.if_icmp .ge 21, 3) := by decide +kernel
theorem dX3_copy_27 : decode cX3_copy 27 = .ok (.aload_n 0, 1) := by decide +kernel
theorem dX3_copy_28 : decode cX3_copy 28 = .ok (.getfield 18, 3) := by decide +kernel
theorem dX3_copy_31 : decode cX3_copy 31 = .ok (.iload_n 2, 1) := by decide +kernel
theorem dX3_copy_32 : decode cX3_copy 32 = .ok (.aload_n 1, 1) := by decide +kernel
theorem dX3_copy_33 : decode cX3_copy 33 = .ok (.getfield 18, 3) := by decide +kernel
theorem dX3_copy_36 : decode cX3_copy 36 = .ok (.iload_n 2, 1) := by decide +kernel
theorem dX3_copy_37 : decode cX3_copy 37 = .ok (.iaload, 1) := by decide +kernel
theorem dX3_copy_38 : decode cX3_copy 38 = .ok (.iastore, 1) := by decide +kernel
theorem dX3_copy_39 : decode cX3_copy 39 = .ok (.iinc 2 1, 3) := by decide +kernel
theorem dX3_copy_42 : decode cX3_copy 42 = .ok (.goto (-21), 3) := by decide +kernel
theorem dX3_copy_45 : decode cX3_copy 45 = .ok (.return_, 1) := by decide +kernel
theorem dX3_dropLinks_0 : decode cX3_dropLinks 0 = .ok (.iconst 0, 1) := by decide +kernel
theorem dX3_dropLinks_1 : decode cX3_dropLinks 1 = .ok (.istore_n 1, 1) := by decide +kernel
theorem dX3_dropLinks_2 : decode cX3_dropLinks 2 = .ok (.iload_n 1, 1) := by decide +kernel
theorem dX3_dropLinks_3 : decode cX3_dropLinks 3 = .ok (.bipush 12, 2) := by decide +kernel
theorem dX3_dropLinks_5 : decode cX3_dropLinks 5 = .ok (.if_icmp .ge 16, 3) := by decide +kernel
theorem dX3_dropLinks_8 : decode cX3_dropLinks 8 = .ok (.aload_n 0, 1) := by decide +kernel
theorem dX3_dropLinks_9 : decode cX3_dropLinks 9 = .ok (.getfield 18, 3) := by decide +kernel
theorem dX3_dropLinks_12 : decode cX3_dropLinks 12 = .ok (.iload_n 1, 1) := by decide +kernel
theorem dX3_dropLinks_13 : decode cX3_dropLinks 13 = .ok (.iconst 0, 1) := by decide +kernel
theorem dX3_dropLinks_14 : decode cX3_dropLinks 14 = .ok (.iastore, 1) := by decide +kernel
theorem dX3_dropLinks_15 : decode cX3_dropLinks 15 = .ok (.iinc 1 1, 3) := by decide +kernel
theorem dX3_dropLinks_18 : decode cX3_dropLinks 18 = .ok (.goto (-16), 3) := by decide +kernel
theorem dX3_dropLinks_21 : decode cX3_dropLinks 21 = .ok (.return_, 1) := by decide +kernel
set_option maxRecDepth 20000 in
theorem ggX3_countLinks_J6_bitCount_0f7a4 : GoodIn wsX3_countLinks wsJ6_bitCount_0f7a4 := goodIn_r _ [5, 6, 7, 8] (by decide +kernel) (by decide +kernel)
set_option maxRecDepth 20000 in
theorem gX3_countLinks_J6_bitCount_0f7a4 : GoodIn wsX3_countLinks (va_wsS RX3 30 yJ6_bitCount_0f7a4 wsJ6_bitCount_0f7a4) := goodIn_app (goodIn_of _ (by decide +kernel)) ggX3_countLinks_J6_bitCount_0f7a4
theorem dX3_countLinks_0 : decode cX3_countLinks 0 = .ok (.iconst 0, 1) := by decide +kernel
theorem dX3_countLinks_1 : decode cX3_countLinks 1 = .ok (.istore_n 1, 1) := by decide +kernel
theorem dX3_countLinks_2 : decode cX3_countLinks 2 = .ok (.iconst 0, 1) := by decide +kernel
theorem dX3_countLinks_3 : decode cX3_countLinks 3 = .ok (.istore_n 2, 1) := by decide +kernel
theorem dX3_countLinks_4 : decode cX3_countLinks 4 = .ok (.iload_n 2, 1) := by decide +kernel
theorem dX3_countLinks_5 : decode cX3_countLinks 5 = .ok (.bipush 12, 2) := by decide +kernel
theorem dX3_countLinks_7 : decode cX3_countLinks 7 = .ok (.if_icmp .ge 21, 3) := by decide +kernel
theorem dX3_countLinks_10 : decode cX3_countLinks 10 = .ok (.iload_n 1, 1) := by decide +kernel
theorem dX3_countLinks_11 : decode cX3_countLinks 11 = .ok (.aload_n 0, 1) := by decide +kernel
theorem dX3_countLinks_12 : decode cX3_countLinks 12 = .ok (.getfield 18, 3) := by decide +kernel
theorem dX3_countLinks_15 : decode cX3_countLinks 15 = .ok (.iload_n 2, 1) := by decide +kernel
theorem dX3_countLinks_16 : decode cX3_countLinks 16 = .ok (.iaload, 1) := by decide +kernel
theorem dX3_countLinks_17 : decode cX3_countLinks 17 = .ok (.invokestatic 30, 3) := by decide +kernel
theorem dX3_countLinks_20 : decode cX3_countLinks 20 = .ok (.iadd, 1) := by decide +kernel
theorem dX3_countLinks_21 : decode cX3_countLinks 21 = .ok (.istore_n 1, 1) := by decide +kernel
theorem dX3_countLinks_22 : decode cX3_countLinks 22 = .ok (.iinc 2 1, 3) := by decide +kernel
theorem dX3_countLinks_25 : decode cX3_countLinks 25 = .ok (.goto (-21), 3) := by decide +kernel
theorem dX3_countLinks_28 : decode cX3_countLinks 28 = .ok (.iload_n 1, 1) := by decide +kernel
theorem dX3_countLinks_29 : decode cX3_countLinks 29 = .ok (.ireturn, 1) := by decide +kernel
theorem dX3_linkedBetween_0 : decode cX3_linkedBetween 0 = .ok (.iconst 0, 1) := by decide +kernel
theorem dX3_linkedBetween_1 : decode cX3_linkedBetween 1 = .ok (.istore_n 3, 1) := by decide +kernel
theorem dX3_linkedBetween_2 : decode cX3_linkedBetween 2 = .ok (.iconst 0, 1) := by decide +kernel
theorem dX3_linkedBetween_3 : decode cX3_linkedBetween 3 = .ok (.istore 4, 2) := by decide +kernel
theorem dX3_linkedBetween_5 : decode cX3_linkedBetween 5 = .ok (.iload 4, 2) := by decide +kernel
theorem dX3_linkedBetween_7 : decode cX3_linkedBetween 7 = .ok (.bipush 12, 2) := by decide +kernel
theorem dX3_linkedBetween_9 : decode cX3_linkedBetween 9 = .ok (.if_icmp .ge 31, 3) := by decide +kernel
theorem dX3_linkedBetween_12 : decode cX3_linkedBetween 12 = .ok (.iload 4, 2) := by decide +kernel
theorem dX3_linkedBetween_14 : decode cX3_linkedBetween 14 = .ok (.iload_n 1, 1) := by decide +kernel
theorem dX3_linkedBetween_15 : decode cX3_linkedBetween 15 = .ok (.if_icmp .lt 19, 3) := by decide +kernel
theorem dX3_linkedBetween_18 : decode cX3_linkedBetween 18 = .ok (.iload 4, 2) := by decide +kernel
theorem dX3_linkedBetween_20 : decode cX3_linkedBetween 20 = .ok (.iload_n 2, 1) := by decide +kernel
theorem dX3_linkedBetween_21 : decode cX3_linkedBetween 21 = .ok (.if_icmp .ge 13, 3) := by decide +kernel
theorem dX3_linkedBetween_24 : decode cX3_linkedBetween 24 = .ok (.iload_n 3, 1) := by decide +kernel
theorem dX3_linkedBetween_25 : decode cX3_linkedBetween 25 = .ok (.aload_n 0, 1) := by decide +kernel
theorem dX3_linkedBetween_26 : decode cX3_linkedBetween 26 = .ok (.getfield 18, 3) := by decide +kernel
theorem dX3_linkedBetween_29 : decode cX3_linkedBetween 29 = .ok (.iload 4, 2) := by decide +kernel
theorem dX3_linkedBetween_31 : decode cX3_linkedBetween 31 = .ok (.iaload, 1) := by decide +kernel
theorem dX3_linkedBetween_32 : decode cX3_linkedBetween 32 = .ok (.ior, 1) := by decide +kernel
theorem dX3_linkedBetween_33 : decode cX3_linkedBetween 33 = .ok (.istore_n 3, 1) := by decide +kernel
theorem dX3_linkedBetween_34 : decode cX3_linkedBetween 34 = .ok (.iinc 4 1, 3) := by decide +kernel
theorem dX3_linkedBetween_37 : decode cX3_linkedBetween 37 = .ok (.goto (-32), 3) := by decide +kernel
theorem dX3_linkedBetween_40 : decode cX3_linkedBetween 40 = .ok (.iload_n 3, 1) := by decide +kernel
theorem dX3_linkedBetween_41 : decode cX3_linkedBetween 41 = .ok (.ireturn, 1) := by decide +kernel
set_option maxRecDepth 20000 in
theorem ggX3_anchor_X3_behindGreatest : GoodIn wsX3_anchor wsX3_behindGreatest := goodIn_r _ [5, 6, 7, 8] (by decide +kernel) (by decide +kernel)
set_option maxRecDepth 20000 in
theorem gX3_anchor_X3_behindGreatest : GoodIn wsX3_anchor (va_wsS RX3 36 yX3_behindGreatest wsX3_behindGreatest) := goodIn_app (goodIn_of _ (by decide +kernel)) ggX3_anchor_X3_behindGreatest
theorem dX3_anchor_0 : decode cX3_anchor 0 = .ok (.iconst 0, 1) := by decide +kernel
theorem dX3_anchor_1 : decode cX3_anchor 1 = .ok (.istore_n 2, 1) := by decide +kernel
theorem dX3_anchor_2 : decode cX3_anchor 2 = .ok (.iconst 0, 1) := by decide +kernel
theorem dX3_anchor_3 : decode cX3_anchor 3 = .ok (.istore_n 3, 1) := by decide +kernel
theorem dX3_anchor_4 : decode cX3_anchor 4 = .ok (.iload_n 3, 1) := by decide +kernel
theorem dX3_anchor_5 : decode cX3_anchor 5 = .ok (.bipush 12, 2) := by decide +kernel
theorem dX3_anchor_7 : decode cX3_anchor 7 = .ok (.if_icmp .ge 30, 3) := by decide +kernel
theorem dX3_anchor_10 : decode cX3_anchor 10 = .ok (.iload_n 3, 1) := by decide +kernel
theorem dX3_anchor_11 : decode cX3_anchor 11 = .ok (.iload_n 1, 1) := by decide +kernel
theorem dX3_anchor_12 : decode cX3_anchor 12 = .ok (.if_icmp .ge 19, 3) := by decide +kernel
theorem dX3_anchor_15 : decode cX3_anchor 15 = .ok (.aload_n 0, 1) := by decide +kernel
theorem dX3_anchor_16 : decode cX3_anchor 16 = .ok (.getfield 18, 3) := by decide +kernel
theorem dX3_anchor_19 : decode cX3_anchor 19 = .ok (.iload_n 3, 1) := by decide +kernel
theorem dX3_anchor_20 : decode cX3_anchor 20 = .ok (.iaload, 1) := by decide +kernel
theorem dX3_anchor_21 : decode cX3_anchor 21 = .ok (.ifCond .eq 10, 3) := by decide +kernel
theorem dX3_anchor_24 : decode cX3_anchor 24 = .ok (.aload_n 0, 1) := by decide +kernel
theorem dX3_anchor_25 : decode cX3_anchor 25 = .ok (.getfield 18, 3) := by decide +kernel
theorem dX3_anchor_28 : decode cX3_anchor 28 = .ok (.iload_n 3, 1) := by decide +kernel
theorem dX3_anchor_29 : decode cX3_anchor 29 = .ok (.iaload, 1) := by decide +kernel
theorem dX3_anchor_30 : decode cX3_anchor 30 = .ok (.istore_n 2, 1) := by decide +kernel
theorem dX3_anchor_31 : decode cX3_anchor 31 = .ok (.iinc 3 1, 3) := by decide +kernel
theorem dX3_anchor_34 : decode cX3_anchor 34 = .ok (.goto (-30), 3) := by decide +kernel
theorem dX3_anchor_37 : decode cX3_anchor 37 = .ok (.iload_n 2, 1) := by decide +kernel
theorem dX3_anchor_38 : decode cX3_anchor 38 = .ok (.invokestatic 36, 3) := by decide +kernel
theorem dX3_anchor_41 : decode cX3_anchor 41 = .ok (.ireturn, 1) := by decide +kernel
set_option maxRecDepth 20000 in
theorem ggX3_least_X7_has : GoodIn wsX3_least wsX7_has := goodIn_r _ [3] (by decide +kernel) (by decide +kernel)
set_option maxRecDepth 20000 in
theorem gX3_least_X7_has_n39 : GoodIn wsX3_least (wsX7_has) := ggX3_least_X7_has
theorem dX3_least_0 : decode cX3_least 0 = .ok (.iconst 0, 1) := by decide +kernel
theorem dX3_least_1 : decode cX3_least 1 = .ok (.istore_n 1, 1) := by decide +kernel
theorem dX3_least_2 : decode cX3_least 2 = .ok (.iload_n 1, 1) := by decide +kernel
theorem dX3_least_3 : decode cX3_least 3 = .ok (.bipush 8, 2) := by decide +kernel
theorem dX3_least_5 : decode cX3_least 5 = .ok (.if_icmp .ge 19, 3) := by decide +kernel
theorem dX3_least_8 : decode cX3_least 8 = .ok (.iload_n 0, 1) := by decide +kernel
theorem dX3_least_9 : decode cX3_least 9 = .ok (.iload_n 1, 1) := by decide +kernel
theorem dX3_least_10 : decode cX3_least 10 = .ok (.invokestatic 39, 3) := by decide +kernel
theorem dX3_least_13 : decode cX3_least 13 = .ok (.ifCond .eq 5, 3) := by decide +kernel
theorem dX3_least_16 : decode cX3_least 16 = .ok (.iload_n 1, 1) := by decide +kernel
theorem dX3_least_17 : decode cX3_least 17 = .ok (.ireturn, 1) := by decide +kernel
theorem dX3_least_18 : decode cX3_least 18 = .ok (.iinc 1 1, 3) := by decide +kernel
theorem dX3_least_21 : decode cX3_least 21 = .ok (.goto (-19), 3) := by decide +kernel
theorem dX3_least_24 : decode cX3_least 24 = .ok (.iconst 0, 1) := by decide +kernel
theorem dX3_least_25 : decode cX3_least 25 = .ok (.ireturn, 1) := by decide +kernel
set_option maxRecDepth 20000 in
theorem ggX3_behindGreatest_X7_has : GoodIn wsX3_behindGreatest wsX7_has := goodIn_r _ [3] (by decide +kernel) (by decide +kernel)
set_option maxRecDepth 20000 in
theorem gX3_behindGreatest_X7_has_n39 : GoodIn wsX3_behindGreatest (wsX7_has) := ggX3_behindGreatest_X7_has
theorem dX3_behindGreatest_0 : decode cX3_behindGreatest 0 = .ok (.bipush 7, 2) := by decide +kernel
theorem dX3_behindGreatest_2 : decode cX3_behindGreatest 2 = .ok (.istore_n 1, 1) := by decide +kernel
theorem dX3_behindGreatest_3 : decode cX3_behindGreatest 3 = .ok (.iload_n 1, 1) := by decide +kernel
theorem dX3_behindGreatest_4 : decode cX3_behindGreatest 4 = .ok (.ifCond .lt 21, 3) := by decide +kernel
theorem dX3_behindGreatest_7 : decode cX3_behindGreatest 7 = .ok (.iload_n 0, 1) := by decide +kernel
theorem dX3_behindGreatest_8 : decode cX3_behindGreatest 8 = .ok (.iload_n 1, 1) := by decide +kernel
theorem dX3_behindGreatest_9 : decode cX3_behindGreatest 9 = .ok (.invokestatic 39, 3) := by decide +kernel
theorem dX3_behindGreatest_12 : decode cX3_behindGreatest 12 = .ok (.ifCond .eq 7, 3) := by decide +kernel
theorem dX3_behindGreatest_15 : decode cX3_behindGreatest 15 = .ok (.iload_n 1, 1) := by decide +kernel
theorem dX3_behindGreatest_16 : decode cX3_behindGreatest 16 = .ok (.iconst 1, 1) := by decide +kernel
theorem dX3_behindGreatest_17 : decode cX3_behindGreatest 17 = .ok (.iadd, 1) := by decide +kernel
theorem dX3_behindGreatest_18 : decode cX3_behindGreatest 18 = .ok (.ireturn, 1) := by decide +kernel
theorem dX3_behindGreatest_19 : decode cX3_behindGreatest 19 = .ok (.iinc 1 (-1), 3) := by decide +kernel
theorem dX3_behindGreatest_22 : decode cX3_behindGreatest 22 = .ok (.goto (-19), 3) := by decide +kernel
theorem dX3_behindGreatest_25 : decode cX3_behindGreatest 25 = .ok (.iconst 0, 1) := by decide +kernel
theorem dX3_behindGreatest_26 : decode cX3_behindGreatest 26 = .ok (.ireturn, 1) := by decide +kernel
theorem dX4_init_0 : decode cX4_init 0 = .ok (.aload_n 0, 1) := by decide +kernel
theorem dX4_init_1 : decode cX4_init 1 = .ok (.invokespecial 3, 3) := by decide +kernel
theorem dX4_init_4 : decode cX4_init 4 = .ok (.aload_n 0, 1) := by decide +kernel
theorem dX4_init_5 : decode cX4_init 5 = .ok (.iconst 5, 1) := by decide +kernel
theorem dX4_init_6 : decode cX4_init 6 = .ok (.newarray .int, 2) := by decide +kernel
theorem dX4_init_8 : decode cX4_init 8 = .ok (.putfield 9, 3) := by decide +kernel
theorem dX4_init_11 : decode cX4_init 11 = .ok (.aload_n 0, 1) := by decide +kernel
theorem dX4_init_12 : decode cX4_init 12 = .ok (.iconst 5, 1) := by decide +kernel
theorem dX4_init_13 : decode cX4_init 13 = .ok (.newarray .int, 2) := by decide +kernel
theorem dX4_init_15 : decode cX4_init 15 = .ok (.putfield 15, 3) := by decide +kernel
theorem dX4_init_18 : decode cX4_init 18 = .ok (.aload_n 0, 1) := by decide +kernel
theorem dX4_init_19 : decode cX4_init 19 = .ok (.iconst 5, 1) := by decide +kernel
theorem dX4_init_20 : decode cX4_init 20 = .ok (.newarray .int, 2) := by decide +kernel
theorem dX4_init_22 : decode cX4_init 22 = .ok (.putfield 18, 3) := by decide +kernel
theorem dX4_init_25 : decode cX4_init 25 = .ok (.aload_n 0, 1) := by decide +kernel
theorem dX4_init_26 : decode cX4_init 26 = .ok (.iconst 5, 1) := by decide +kernel
theorem dX4_init_27 : decode cX4_init 27 = .ok (.newarray .int, 2) := by decide +kernel
theorem dX4_init_29 : decode cX4_init 29 = .ok (.putfield 21, 3) := by decide +kernel
theorem dX4_init_32 : decode cX4_init 32 = .ok (.aload_n 0, 1) := by decide +kernel
theorem dX4_init_33 : decode cX4_init 33 = .ok (.iconst 3, 1) := by decide +kernel
theorem dX4_init_34 : decode cX4_init 34 = .ok (.newarray .int, 2) := by decide +kernel
theorem dX4_init_36 : decode cX4_init 36 = .ok (.putfield 24, 3) := by decide +kernel
theorem dX4_init_39 : decode cX4_init 39 = .ok (.aload_n 0, 1) := by decide +kernel
theorem dX4_init_40 : decode cX4_init 40 = .ok (.iconst 3, 1) := by decide +kernel
theorem dX4_init_41 : decode cX4_init 41 = .ok (.newarray .int, 2) := by decide +kernel
theorem dX4_init_43 : decode cX4_init 43 = .ok (.putfield 27, 3) := by decide +kernel
theorem dX4_init_46 : decode cX4_init 46 = .ok (.aload_n 0, 1) := by decide +kernel
theorem dX4_init_47 : decode cX4_init 47 = .ok (.iconst 5, 1) := by decide +kernel
theorem dX4_init_48 : decode cX4_init 48 = .ok (.newarray .int, 2) := by decide +kernel
theorem dX4_init_50 : decode cX4_init 50 = .ok (.putfield 30, 3) := by decide +kernel
theorem dX4_init_53 : decode cX4_init 53 = .ok (.return_, 1) := by decide +kernel
theorem dX4_clear_0 : decode cX4_clear 0 = .ok (.aload_n 0, 1) := by decide +kernel
theorem dX4_clear_1 : decode cX4_clear 1 = .ok (.iconst 0, 1) := by decide +kernel
theorem dX4_clear_2 : decode cX4_clear 2 = .ok (.putfield 33, 3) := by decide +kernel
theorem dX4_clear_5 : decode cX4_clear 5 = .ok (.aload_n 0, 1) := by decide +kernel
theorem dX4_clear_6 : decode cX4_clear 6 = .ok (.iconst 0, 1) := by decide +kernel
theorem dX4_clear_7 : decode cX4_clear 7 = .ok (.putfield 37, 3) := by decide +kernel
theorem dX4_clear_10 : decode cX4_clear 10 = .ok (.aload_n 0, 1) := by decide +kernel
theorem dX4_clear_11 : decode cX4_clear 11 = .ok (.iconst 0, 1) := by decide +kernel
theorem dX4_clear_12 : decode cX4_clear 12 = .ok (.putfield 40, 3) := by decide +kernel
theorem dX4_clear_15 : decode cX4_clear 15 = .ok (.aload_n 0, 1) := by decide +kernel
theorem dX4_clear_16 : decode cX4_clear 16 = .ok (.iconst 0, 1) := by decide +kernel
theorem dX4_clear_17 : decode cX4_clear 17 = .ok (.putfield 43, 3) := by decide +kernel
theorem dX4_clear_20 : decode cX4_clear 20 = .ok (.aload_n 0, 1) := by decide +kernel
theorem dX4_clear_21 : decode cX4_clear 21 = .ok (.iconst 0, 1) := by decide +kernel
theorem dX4_clear_22 : decode cX4_clear 22 = .ok (.putfield 46, 3) := by decide +kernel
theorem dX4_clear_25 : decode cX4_clear 25 = .ok (.return_, 1) := by decide +kernel
theorem dX4_copy_0 : decode cX4_copy 0 = .ok (.aload_n 0, 1) := by decide +kernel
theorem dX4_copy_1 : decode cX4_copy 1 = .ok (.aload_n 1, 1) := by decide +kernel
theorem dX4_copy_2 : decode cX4_copy 2 = .ok (.getfield 33, 3) := by decide +kernel
theorem dX4_copy_5 : decode cX4_copy 5 = .ok (.putfield 33, 3) := by decide +kernel
theorem dX4_copy_8 : decode cX4_copy 8 = .ok (.aload_n 0, 1) := by decide +kernel
theorem dX4_copy_9 : decode cX4_copy 9 = .ok (.aload_n 1, 1) := by decide +kernel
theorem dX4_copy_10 : decode cX4_copy 10 = .ok (.getfield 37, 3) := by decide +kernel
theorem dX4_copy_13 : decode cX4_copy 13 = .ok (.putfield 37, 3) := by decide +kernel
theorem dX4_copy_16 : decode cX4_copy 16 = .ok (.aload_n 0, 1) := by decide +kernel
theorem dX4_copy_17 : decode cX4_copy 17 = .ok (.aload_n 1, 1) := by decide +kernel
theorem dX4_copy_18 : decode cX4_copy 18 = .ok (.getfield 40, 3) := by decide +kernel
theorem dX4_copy_21 : decode cX4_copy 21 = .ok (.putfield 40, 3) := by decide +kernel
theorem dX4_copy_24 : decode cX4_copy 24 = .ok (.aload_n 0, 1) := by decide +kernel
theorem dX4_copy_25 : decode cX4_copy 25 = .ok (.aload_n 1, 1) := by decide +kernel
theorem dX4_copy_26 : decode cX4_copy 26 = .ok (.getfield 43, 3) := by decide +kernel
theorem dX4_copy_29 : decode cX4_copy 29 = .ok (.putfield 43, 3) := by decide +kernel
theorem dX4_copy_32 : decode cX4_copy 32 = .ok (.aload_n 0, 1) := by decide +kernel
theorem dX4_copy_33 : decode cX4_copy 33 = .ok (.aload_n 1, 1) := by decide +kernel
theorem dX4_copy_34 : decode cX4_copy 34 = .ok (.getfield 46, 3) := by decide +kernel
theorem dX4_copy_37 : decode cX4_copy 37 = .ok (.putfield 46, 3) := by decide +kernel
theorem dX4_copy_40 : decode cX4_copy 40 = .ok (.iconst 0, 1) := by decide +kernel
theorem dX4_copy_41 : decode cX4_copy 41 = .ok (.istore_n 2, 1) := by decide +kernel
theorem dX4_copy_42 : decode cX4_copy 42 = .ok (.iload_n 2, 1) := by decide +kernel
theorem dX4_copy_43 : decode cX4_copy 43 = .ok (.iconst 5, 1) := by decide +kernel
theorem dX4_copy_44 : decode cX4_copy 44 = .ok (.if_icmp .ge 69, 3) := by decide +kernel
theorem dX4_copy_47 : decode cX4_copy 47 = .ok (.aload_n 0, 1) := by decide +kernel
theorem dX4_copy_48 : decode cX4_copy 48 = .ok (.getfield 9, 3) := by decide +kernel
theorem dX4_copy_51 : decode cX4_copy 51 = .ok (.iload_n 2, 1) := by decide +kernel
theorem dX4_copy_52 : decode cX4_copy 52 = .ok (.aload_n 1, 1) := by decide +kernel
theorem dX4_copy_53 : decode cX4_copy 53 = .ok (.getfield 9, 3) := by decide +kernel
theorem dX4_copy_56 : decode cX4_copy 56 = .ok (.iload_n 2, 1) := by decide +kernel
theorem dX4_copy_57 : decode cX4_copy 57 = .ok (.iaload, 1) := by decide +kernel
theorem dX4_copy_58 : decode cX4_copy 58 = .ok (.iastore, 1) := by decide +kernel
theorem dX4_copy_59 : decode cX4_copy 59 = .ok (.aload_n 0, 1) := by decide +kernel
theorem dX4_copy_60 : decode cX4_copy 60 = .ok (.getfield 15, 3) := by decide +kernel
theorem dX4_copy_63 : decode cX4_copy 63 = .ok (.iload_n 2, 1) := by decide +kernel
theorem dX4_copy_64 : decode cX4_copy 64 = .ok (.aload_n 1, 1) := by decide +kernel
theorem dX4_copy_65 : decode cX4_copy 65 = .ok (.getfield 15, 3) := by decide +kernel
theorem dX4_copy_68 : decode cX4_copy 68 = .ok (.iload_n 2, 1) := by decide +kernel
theorem dX4_copy_69 : decode cX4_copy 69 = .ok (.iaload, 1) := by decide +kernel
theorem dX4_copy_70 : decode cX4_copy 70 = .ok (.iastore, 1) := by decide +kernel
theorem dX4_copy_71 : decode cX4_copy 71 = .ok (.aload_n 0, 1) := by decide +kernel
theorem dX4_copy_72 : decode cX4_copy 72 = .ok (.getfield 18, 3) := by decide +kernel
theorem dX4_copy_75 : decode cX4_copy 75 = .ok (.iload_n 2, 1) := by decide +kernel
theorem dX4_copy_76 : decode cX4_copy 76 = .ok (.aload_n 1, 1) := by decide +kernel
theorem dX4_copy_77 : decode cX4_copy 77 = .ok (.getfield 18, 3) := by decide +kernel
theorem dX4_copy_80 : decode cX4_copy 80 = .ok (.iload_n 2, 1) := by decide +kernel
theorem dX4_copy_81 : decode cX4_copy 81 = .ok (.iaload, 1) := by decide +kernel
theorem dX4_copy_82 : decode cX4_copy 82 = .ok (.iastore, 1) := by decide +kernel
theorem dX4_copy_83 : decode cX4_copy 83 = .ok (.aload_n 0, 1) := by decide +kernel
theorem dX4_copy_84 : decode cX4_copy 84 = .ok (.getfield 21, 3) := by decide +kernel
theorem dX4_copy_87 : decode cX4_copy 87 = .ok (.iload_n 2, 1) := by decide +kernel
theorem dX4_copy_88 : decode cX4_copy 88 = .ok (.aload_n 1, 1) := by decide +kernel
theorem dX4_copy_89 : decode cX4_copy 89 = .ok (.getfield 21, 3) := by decide +kernel
theorem dX4_copy_92 : decode cX4_copy 92 = .ok (.iload_n 2, 1) := by decide +kernel
theorem dX4_copy_93 : decode cX4_copy 93 = .ok (.iaload, 1) := by decide +kernel
theorem dX4_copy_94 : decode cX4_copy 94 = .ok (.iastore, 1) := by decide +kernel
theorem dX4_copy_95 : decode cX4_copy 95 = .ok (.aload_n 0, 1) := by decide +kernel
theorem dX4_copy_96 : decode cX4_copy 96 = .ok (.getfield 30, 3) := by decide +kernel
theorem dX4_copy_99 : decode cX4_copy 99 = .ok (.iload_n 2, 1) := by decide +kernel
theorem dX4_copy_100 : decode cX4_copy 100 = .ok (.aload_n 1, 1) := by decide +kernel
theorem dX4_copy_101 : decode cX4_copy 101 = .ok (.getfield 30, 3) := by decide +kernel
theorem dX4_copy_104 : decode cX4_copy 104 = .ok (.iload_n 2, 1) := by decide +kernel
theorem dX4_copy_105 : decode cX4_copy 105 = .ok (.iaload, 1) := by decide +kernel
theorem dX4_copy_106 : decode cX4_copy 106 = .ok (.iastore, 1) := by decide +kernel
theorem dX4_copy_107 : decode cX4_copy 107 = .ok (.iinc 2 1, 3) := by decide +kernel
theorem dX4_copy_110 : decode cX4_copy 110 = .ok (.goto (-68), 3) := by decide +kernel
theorem dX4_copy_113 : decode cX4_copy 113 = .ok (.iconst 0, 1) := by decide +kernel
theorem dX4_copy_114 : decode cX4_copy 114 = .ok (.istore_n 2, 1) := by decide +kernel
theorem dX4_copy_115 : decode cX4_copy 115 = .ok (.iload_n 2, 1) := by decide +kernel
theorem dX4_copy_116 : decode cX4_copy 116 = .ok (.iconst 3, 1) := by decide +kernel
theorem dX4_copy_117 : decode cX4_copy 117 = .ok (.if_icmp .ge 33, 3) := by decide +kernel
theorem dX4_copy_120 : decode cX4_copy 120 = .ok (.aload_n 0, 1) := by decide +kernel
theorem dX4_copy_121 : decode cX4_copy 121 = .ok (.getfield 24, 3) := by decide +kernel
theorem dX4_copy_124 : decode cX4_copy 124 = .ok (.iload_n 2, 1) := by decide +kernel
theorem dX4_copy_125 : decode cX4_copy 125 = .ok (.aload_n 1, 1) := by decide +kernel
theorem dX4_copy_126 : decode cX4_copy 126 = .ok (.getfield 24, 3) := by decide +kernel
theorem dX4_copy_129 : decode cX4_copy 129 = .ok (.iload_n 2, 1) := by decide +kernel
theorem dX4_copy_130 : decode cX4_copy 130 = .ok (.iaload, 1) := by decide +kernel
theorem dX4_copy_131 : decode cX4_copy 131 = .ok (.iastore, 1) := by decide +kernel
theorem dX4_copy_132 : decode cX4_copy 132 = .ok (.aload_n 0, 1) := by decide +kernel
theorem dX4_copy_133 : decode cX4_copy 133 = .ok (.getfield 27, 3) := by decide +kernel
theorem dX4_copy_136 : decode cX4_copy 136 = .ok (.iload_n 2, 1) := by decide +kernel
theorem dX4_copy_137 : decode cX4_copy 137 = .ok (.aload_n 1, 1) := by decide +kernel
theorem dX4_copy_138 : decode cX4_copy 138 = .ok (.getfield 27, 3) := by decide +kernel
theorem dX4_copy_141 : decode cX4_copy 141 = .ok (.iload_n 2, 1) := by decide +kernel
theorem dX4_copy_142 : decode cX4_copy 142 = .ok (.iaload, 1) := by decide +kernel
theorem dX4_copy_143 : decode cX4_copy 143 = .ok (.iastore, 1) := by decide +kernel
theorem dX4_copy_144 : decode cX4_copy 144 = .ok (.iinc 2 1, 3) := by decide +kernel
theorem dX4_copy_147 : decode cX4_copy 147 = .ok (.goto (-32), 3) := by decide +kernel
theorem dX4_copy_150 : decode cX4_copy 150 = .ok (.return_, 1) := by decide +kernel
set_option maxRecDepth 20000 in
theorem ggX4_take_X4_takeWord : GoodIn wsX4_take wsX4_takeWord := goodIn_r _ [5, 6, 33, 34, 35, 36, 37, 38, 39, 40, 41, 42, 43, 44] (by decide +kernel) (by decide +kernel)
set_option maxRecDepth 20000 in
theorem gX4_take_X4_takeWord : GoodIn wsX4_take (wsV RX4 49 RX4 yX4_takeWord wsX4_takeWord) := goodIn_app (goodIn_of _ (by decide +kernel)) ggX4_take_X4_takeWord
set_option maxRecDepth 20000 in
theorem ggX4_take_X4_takeOpening : GoodIn wsX4_take wsX4_takeOpening := goodIn_r _ [10, 11, 12, 13, 6, 14, 15, 16, 17, 18, 19, 20, 33, 34, 35, 36, 37, 38, 39, 40, 41, 42, 43, 44] (by decide +kernel) (by decide +kernel)
set_option maxRecDepth 20000 in
theorem gX4_take_X4_takeOpening : GoodIn wsX4_take (wsV RX4 53 RX4 yX4_takeOpening wsX4_takeOpening) := goodIn_app (goodIn_of _ (by decide +kernel)) ggX4_take_X4_takeOpening
set_option maxRecDepth 20000 in
theorem ggX4_take_X4_takeClosing : GoodIn wsX4_take wsX4_takeClosing := goodIn_r _ [24, 12, 17, 14, 6, 33, 34, 35, 36, 37, 38, 39, 40, 41, 42, 43, 44] (by decide +kernel) (by decide +kernel)
set_option maxRecDepth 20000 in
theorem gX4_take_X4_takeClosing : GoodIn wsX4_take (wsV RX4 57 RX4 yX4_takeClosing wsX4_takeClosing) := goodIn_app (goodIn_of _ (by decide +kernel)) ggX4_take_X4_takeClosing
set_option maxRecDepth 20000 in
theorem ggX4_take_X4_takeMark : GoodIn wsX4_take wsX4_takeMark := goodIn_r _ [28, 29, 30, 31, 6, 32, 18, 19, 20, 33, 34, 35, 36, 37, 38, 39, 40, 41, 42, 43, 44] (by decide +kernel) (by decide +kernel)
set_option maxRecDepth 20000 in
theorem gX4_take_X4_takeMark : GoodIn wsX4_take (wsV RX4 60 RX4 yX4_takeMark wsX4_takeMark) := goodIn_app (goodIn_of _ (by decide +kernel)) ggX4_take_X4_takeMark
theorem dX4_take_0 : decode cX4_take 0 = .ok (.iload_n 1, 1) := by decide +kernel
theorem dX4_take_1 : decode cX4_take 1 = .ok (.bipush 46, 2) := by decide +kernel
theorem dX4_take_3 : decode cX4_take 3 = .ok (.if_icmp .ne 8, 3) := by decide +kernel
theorem dX4_take_6 : decode cX4_take 6 = .ok (.aload_n 0, 1) := by decide +kernel
theorem dX4_take_7 : decode cX4_take 7 = .ok (.invokevirtual 49, 3) := by decide +kernel
theorem dX4_take_10 : decode cX4_take 10 = .ok (.ireturn, 1) := by decide +kernel
theorem dX4_take_11 : decode cX4_take 11 = .ok (.iload_n 1, 1) := by decide +kernel
theorem dX4_take_12 : decode cX4_take 12 = .ok (.bipush 65, 2) := by decide +kernel
theorem dX4_take_14 : decode cX4_take 14 = .ok (.if_icmp .lt 18, 3) := by decide +kernel
theorem dX4_take_17 : decode cX4_take 17 = .ok (.iload_n 1, 1) := by decide +kernel
theorem dX4_take_18 : decode cX4_take 18 = .ok (.bipush 70, 2) := by decide +kernel
theorem dX4_take_20 : decode cX4_take 20 = .ok (.if_icmp .ge 12, 3) := by decide +kernel
theorem dX4_take_23 : decode cX4_take 23 = .ok (.aload_n 0, 1) := by decide +kernel
theorem dX4_take_24 : decode cX4_take 24 = .ok (.iload_n 1, 1) := by decide +kernel
theorem dX4_take_25 : decode cX4_take 25 = .ok (.bipush 65, 2) := by decide +kernel
theorem dX4_take_27 : decode cX4_take 27 = .ok (.isub, 1) := by decide +kernel
theorem dX4_take_28 : decode cX4_take 28 = .ok (.invokevirtual 53, 3) := by decide +kernel
theorem dX4_take_31 : decode cX4_take 31 = .ok (.ireturn, 1) := by decide +kernel
theorem dX4_take_32 : decode cX4_take 32 = .ok (.iload_n 1, 1) := by decide +kernel
theorem dX4_take_33 : decode cX4_take 33 = .ok (.bipush 97, 2) := by decide +kernel
theorem dX4_take_35 : decode cX4_take 35 = .ok (.if_icmp .lt 18, 3) := by decide +kernel
theorem dX4_take_38 : decode cX4_take 38 = .ok (.iload_n 1, 1) := by decide +kernel
theorem dX4_take_39 : decode cX4_take 39 = .ok (.bipush 102, 2) := by decide +kernel
theorem dX4_take_41 : decode cX4_take 41 = .ok (.if_icmp .ge 12, 3) := by decide +kernel
theorem dX4_take_44 : decode cX4_take 44 = .ok (.aload_n 0, 1) := by decide +kernel
theorem dX4_take_45 : decode cX4_take 45 = .ok (.iload_n 1, 1) := by decide +kernel
theorem dX4_take_46 : decode cX4_take 46 = .ok (.bipush 97, 2) := by decide +kernel
theorem dX4_take_48 : decode cX4_take 48 = .ok (.isub, 1) := by decide +kernel
theorem dX4_take_49 : decode cX4_take 49 = .ok (.invokevirtual 57, 3) := by decide +kernel
theorem dX4_take_52 : decode cX4_take 52 = .ok (.ireturn, 1) := by decide +kernel
theorem dX4_take_53 : decode cX4_take 53 = .ok (.iload_n 1, 1) := by decide +kernel
theorem dX4_take_54 : decode cX4_take 54 = .ok (.bipush 120, 2) := by decide +kernel
theorem dX4_take_56 : decode cX4_take 56 = .ok (.if_icmp .lt 18, 3) := by decide +kernel
theorem dX4_take_59 : decode cX4_take 59 = .ok (.iload_n 1, 1) := by decide +kernel
theorem dX4_take_60 : decode cX4_take 60 = .ok (.bipush 123, 2) := by decide +kernel
theorem dX4_take_62 : decode cX4_take 62 = .ok (.if_icmp .ge 12, 3) := by decide +kernel
theorem dX4_take_65 : decode cX4_take 65 = .ok (.aload_n 0, 1) := by decide +kernel
theorem dX4_take_66 : decode cX4_take 66 = .ok (.iload_n 1, 1) := by decide +kernel
theorem dX4_take_67 : decode cX4_take 67 = .ok (.bipush 120, 2) := by decide +kernel
theorem dX4_take_69 : decode cX4_take 69 = .ok (.isub, 1) := by decide +kernel
theorem dX4_take_70 : decode cX4_take 70 = .ok (.invokevirtual 60, 3) := by decide +kernel
theorem dX4_take_73 : decode cX4_take 73 = .ok (.ireturn, 1) := by decide +kernel
theorem dX4_take_74 : decode cX4_take 74 = .ok (.iconst 0, 1) := by decide +kernel
theorem dX4_take_75 : decode cX4_take 75 = .ok (.ireturn, 1) := by decide +kernel
theorem dX4_takeWord_0 : decode cX4_takeWord 0 = .ok (.aload_n 0, 1) := by decide +kernel
theorem dX4_takeWord_1 : decode cX4_takeWord 1 = .ok (.getfield 33, 3) := by decide +kernel
theorem dX4_takeWord_4 : decode cX4_takeWord 4 = .ok (.bipush 12, 2) := by decide +kernel
theorem dX4_takeWord_6 : decode cX4_takeWord 6 = .ok (.if_icmp .lt 5, 3) := by decide +kernel
theorem dX4_takeWord_9 : decode cX4_takeWord 9 = .ok (.iconst 0, 1) := by decide +kernel
theorem dX4_takeWord_10 : decode cX4_takeWord 10 = .ok (.ireturn, 1) := by decide +kernel
theorem dX4_takeWord_11 : decode cX4_takeWord 11 = .ok (.aload_n 0, 1) := by decide +kernel
theorem dX4_takeWord_12 : decode cX4_takeWord 12 = .ok (.dup, 1) := by decide +kernel
theorem dX4_takeWord_13 : decode cX4_takeWord 13 = .ok (.getfield 33, 3) := by decide +kernel
theorem dX4_takeWord_16 : decode cX4_takeWord 16 = .ok (.iconst 1, 1) := by decide +kernel
theorem dX4_takeWord_17 : decode cX4_takeWord 17 = .ok (.iadd, 1) := by decide +kernel
theorem dX4_takeWord_18 : decode cX4_takeWord 18 = .ok (.putfield 33, 3) := by decide +kernel
theorem dX4_takeWord_21 : decode cX4_takeWord 21 = .ok (.iconst 1, 1) := by decide +kernel
theorem dX4_takeWord_22 : decode cX4_takeWord 22 = .ok (.ireturn, 1) := by decide +kernel
set_option maxRecDepth 20000 in
theorem ggX4_takeOpening_X7_has : GoodIn wsX4_takeOpening wsX7_has := goodIn_r _ [11] (by decide +kernel) (by decide +kernel)
set_option maxRecDepth 20000 in
theorem gX4_takeOpening_X7_has_n63 : GoodIn wsX4_takeOpening (wsX7_has) := ggX4_takeOpening_X7_has
theorem dX4_takeOpening_0 : decode cX4_takeOpening 0 = .ok (.aload_n 0, 1) := by decide +kernel
theorem dX4_takeOpening_1 : decode cX4_takeOpening 1 = .ok (.getfield 37, 3) := by decide +kernel
theorem dX4_takeOpening_4 : decode cX4_takeOpening 4 = .ok (.iload_n 1, 1) := by decide +kernel
theorem dX4_takeOpening_5 : decode cX4_takeOpening 5 = .ok (.invokestatic 63, 3) := by decide +kernel
theorem dX4_takeOpening_8 : decode cX4_takeOpening 8 = .ok (.ifCond .ne 11, 3) := by decide +kernel
theorem dX4_takeOpening_11 : decode cX4_takeOpening 11 = .ok (.aload_n 0, 1) := by decide +kernel
theorem dX4_takeOpening_12 : decode cX4_takeOpening 12 = .ok (.getfield 46, 3) := by decide +kernel
theorem dX4_takeOpening_15 : decode cX4_takeOpening 15 = .ok (.iconst 5, 1) := by decide +kernel
theorem dX4_takeOpening_16 : decode cX4_takeOpening 16 = .ok (.if_icmp .lt 5, 3) := by decide +kernel
theorem dX4_takeOpening_19 : decode cX4_takeOpening 19 = .ok (.iconst 0, 1) := by decide +kernel
theorem dX4_takeOpening_20 : decode cX4_takeOpening 20 = .ok (.ireturn, 1) := by decide +kernel
theorem dX4_takeOpening_21 : decode cX4_takeOpening 21 = .ok (.aload_n 0, 1) := by decide +kernel
theorem dX4_takeOpening_22 : decode cX4_takeOpening 22 = .ok (.dup, 1) := by decide +kernel
theorem dX4_takeOpening_23 : decode cX4_takeOpening 23 = .ok (.getfield 37, 3) := by decide +kernel
theorem dX4_takeOpening_26 : decode cX4_takeOpening 26 = .ok (.iconst 1, 1) := by decide +kernel
theorem dX4_takeOpening_27 : decode cX4_takeOpening 27 = .ok (.iload_n 1, 1) := by decide +kernel
theorem dX4_takeOpening_28 : decode cX4_takeOpening 28 = .ok (.ishl, 1) := by decide +kernel
theorem dX4_takeOpening_29 : decode cX4_takeOpening 29 = .ok (.ior, 1) := by decide +kernel
theorem dX4_takeOpening_30 : decode cX4_takeOpening 30 = .ok (.putfield 37, 3) := by decide +kernel
theorem dX4_takeOpening_33 : decode cX4_takeOpening 33 = .ok (.aload_n 0, 1) := by decide +kernel
theorem dX4_takeOpening_34 : decode cX4_takeOpening 34 = .ok (.getfield 9, 3) := by decide +kernel
theorem dX4_takeOpening_37 : decode cX4_takeOpening 37 = .ok (.iload_n 1, 1) := by decide +kernel
theorem dX4_takeOpening_38 : decode cX4_takeOpening 38 = .ok (.aload_n 0, 1) := by decide +kernel
theorem dX4_takeOpening_39 : decode cX4_takeOpening 39 = .ok (.getfield 33, 3) := by decide +kernel
theorem dX4_takeOpening_42 : decode cX4_takeOpening 42 = .ok (.iastore, 1) := by decide +kernel
theorem dX4_takeOpening_43 : decode cX4_takeOpening 43 = .ok (.aload_n 0, 1) := by decide +kernel
theorem dX4_takeOpening_44 : decode cX4_takeOpening 44 = .ok (.getfield 15, 3) := by decide +kernel
theorem dX4_takeOpening_47 : decode cX4_takeOpening 47 = .ok (.iload_n 1, 1) := by decide +kernel
theorem dX4_takeOpening_48 : decode cX4_takeOpening 48 = .ok (.aload_n 0, 1) := by decide +kernel
theorem dX4_takeOpening_49 : decode cX4_takeOpening 49 = .ok (.getfield 33, 3) := by decide +kernel
theorem dX4_takeOpening_52 : decode cX4_takeOpening 52 = .ok (.iastore, 1) := by decide +kernel
theorem dX4_takeOpening_53 : decode cX4_takeOpening 53 = .ok (.aload_n 0, 1) := by decide +kernel
theorem dX4_takeOpening_54 : decode cX4_takeOpening 54 = .ok (.getfield 18, 3) := by decide +kernel
theorem dX4_takeOpening_57 : decode cX4_takeOpening 57 = .ok (.iload_n 1, 1) := by decide +kernel
theorem dX4_takeOpening_58 : decode cX4_takeOpening 58 = .ok (.iconst 0, 1) := by decide +kernel
theorem dX4_takeOpening_59 : decode cX4_takeOpening 59 = .ok (.iastore, 1) := by decide +kernel
theorem dX4_takeOpening_60 : decode cX4_takeOpening 60 = .ok (.aload_n 0, 1) := by decide +kernel
theorem dX4_takeOpening_61 : decode cX4_takeOpening 61 = .ok (.getfield 21, 3) := by decide +kernel
theorem dX4_takeOpening_64 : decode cX4_takeOpening 64 = .ok (.iload_n 1, 1) := by decide +kernel
theorem dX4_takeOpening_65 : decode cX4_takeOpening 65 = .ok (.iconst 0, 1) := by decide +kernel
theorem dX4_takeOpening_66 : decode cX4_takeOpening 66 = .ok (.iastore, 1) := by decide +kernel
theorem dX4_takeOpening_67 : decode cX4_takeOpening 67 = .ok (.iconst 0, 1) := by decide +kernel
theorem dX4_takeOpening_68 : decode cX4_takeOpening 68 = .ok (.istore_n 2, 1) := by decide +kernel
theorem dX4_takeOpening_69 : decode cX4_takeOpening 69 = .ok (.iload_n 2, 1) := by decide +kernel
theorem dX4_takeOpening_70 : decode cX4_takeOpening 70 = .ok (.aload_n 0, 1) := by decide +kernel
theorem dX4_takeOpening_71 : decode cX4_takeOpening 71 = .ok (.getfield 46, 3) := by decide +kernel
theorem dX4_takeOpening_74 : decode cX4_takeOpening 74 = .ok (.if_icmp .ge 43, 3) := by decide +kernel
theorem dX4_takeOpening_77 : decode cX4_takeOpening 77 = .ok (.aload_n 0, 1) := by decide +kernel
theorem dX4_takeOpening_78 : decode cX4_takeOpening 78 = .ok (.getfield 18, 3) := by decide +kernel
theorem dX4_takeOpening_81 : decode cX4_takeOpening 81 = .ok (.aload_n 0, 1) := by decide +kernel
theorem dX4_takeOpening_82 : decode cX4_takeOpening 82 = .ok (.getfield 30, 3) := by decide +kernel
theorem dX4_takeOpening_85 : decode cX4_takeOpening 85 = .ok (.iload_n 2, 1) := by decide +kernel
theorem dX4_takeOpening_86 : decode cX4_takeOpening 86 = .ok (.iaload, 1) := by decide +kernel
theorem dX4_takeOpening_87 : decode cX4_takeOpening 87 = .ok (.dup2, 1) := by decide +kernel
theorem dX4_takeOpening_88 : decode cX4_takeOpening 88 = .ok (.iaload, 1) := by decide +kernel
theorem dX4_takeOpening_89 : decode cX4_takeOpening 89 = .ok (.iconst 1, 1) := by decide +kernel
theorem dX4_takeOpening_90 : decode cX4_takeOpening 90 = .ok (.iload_n 1, 1) := by decide +kernel
theorem dX4_takeOpening_91 : decode cX4_takeOpening 91 = .ok (.ishl, 1) := by decide +kernel
theorem dX4_takeOpening_92 : decode cX4_takeOpening 92 = .ok (.ior, 1) := by decide +kernel
theorem dX4_takeOpening_93 : decode cX4_takeOpening 93 = .ok (.iastore, 1) := by decide +kernel
theorem dX4_takeOpening_94 : decode cX4_takeOpening 94 = .ok (.aload_n 0, 1) := by decide +kernel
theorem dX4_takeOpening_95 : decode cX4_takeOpening 95 = .ok (.getfield 21, 3) := by decide +kernel
theorem dX4_takeOpening_98 : decode cX4_takeOpening 98 = .ok (.iload_n 1, 1) := by decide +kernel
theorem dX4_takeOpening_99 : decode cX4_takeOpening 99 = .ok (.dup2, 1) := by decide +kernel
theorem dX4_takeOpening_100 : decode cX4_takeOpening 100 = .ok (.iaload, 1) := by decide +kernel
theorem dX4_takeOpening_101 : decode cX4_takeOpening 101 = .ok (.iconst 1, 1) := by decide +kernel
theorem dX4_takeOpening_102 : decode cX4_takeOpening 102 = .ok (.aload_n 0, 1) := by decide +kernel
theorem dX4_takeOpening_103 : decode cX4_takeOpening 103 = .ok (.getfield 30, 3) := by decide +kernel
theorem dX4_takeOpening_106 : decode cX4_takeOpening 106 = .ok (.iload_n 2, 1) := by decide +kernel
theorem dX4_takeOpening_107 : decode cX4_takeOpening 107 = .ok (.iaload, 1) := by decide +kernel
theorem dX4_takeOpening_108 : decode cX4_takeOpening 108 = .ok (.ishl, 1) := by decide +kernel
theorem dX4_takeOpening_109 : decode cX4_takeOpening 109 = .ok (.ior, 1) := by decide +kernel
theorem dX4_takeOpening_110 : decode cX4_takeOpening 110 = .ok (.iastore, 1) := by decide +kernel
theorem dX4_takeOpening_111 : decode cX4_takeOpening 111 = .ok (.iinc 2 1, 3) := by decide +kernel
theorem dX4_takeOpening_114 : decode cX4_takeOpening 114 = .ok (.goto (-45), 3) := by decide +kernel
theorem dX4_takeOpening_117 : decode cX4_takeOpening 117 = .ok (.aload_n 0, 1) := by decide +kernel
theorem dX4_takeOpening_118 : decode cX4_takeOpening 118 = .ok (.getfield 30, 3) := by decide +kernel
theorem dX4_takeOpening_121 : decode cX4_takeOpening 121 = .ok (.aload_n 0, 1) := by decide +kernel
theorem dX4_takeOpening_122 : decode cX4_takeOpening 122 = .ok (.getfield 46, 3) := by decide +kernel
theorem dX4_takeOpening_125 : decode cX4_takeOpening 125 = .ok (.iload_n 1, 1) := by decide +kernel
theorem dX4_takeOpening_126 : decode cX4_takeOpening 126 = .ok (.iastore, 1) := by decide +kernel
theorem dX4_takeOpening_127 : decode cX4_takeOpening 127 = .ok (.aload_n 0, 1) := by decide +kernel
theorem dX4_takeOpening_128 : decode cX4_takeOpening 128 = .ok (.dup, 1) := by decide +kernel
theorem dX4_takeOpening_129 : decode cX4_takeOpening 129 = .ok (.getfield 46, 3) := by decide +kernel
theorem dX4_takeOpening_132 : decode cX4_takeOpening 132 = .ok (.iconst 1, 1) := by decide +kernel
theorem dX4_takeOpening_133 : decode cX4_takeOpening 133 = .ok (.iadd, 1) := by decide +kernel
theorem dX4_takeOpening_134 : decode cX4_takeOpening 134 = .ok (.putfield 46, 3) := by decide +kernel
theorem dX4_takeOpening_137 : decode cX4_takeOpening 137 = .ok (.iconst 1, 1) := by decide +kernel
theorem dX4_takeOpening_138 : decode cX4_takeOpening 138 = .ok (.ireturn, 1) := by decide +kernel
theorem dX4_takeClosing_0 : decode cX4_takeClosing 0 = .ok (.aload_n 0, 1) := by decide +kernel
theorem dX4_takeClosing_1 : decode cX4_takeClosing 1 = .ok (.getfield 46, 3) := by decide +kernel
theorem dX4_takeClosing_4 : decode cX4_takeClosing 4 = .ok (.iconst 1, 1) := by decide +kernel
theorem dX4_takeClosing_5 : decode cX4_takeClosing 5 = .ok (.if_icmp .lt 18, 3) := by decide +kernel
theorem dX4_takeClosing_8 : decode cX4_takeClosing 8 = .ok (.aload_n 0, 1) := by decide +kernel
theorem dX4_takeClosing_9 : decode cX4_takeClosing 9 = .ok (.getfield 30, 3) := by decide +kernel
theorem dX4_takeClosing_12 : decode cX4_takeClosing 12 = .ok (.aload_n 0, 1) := by decide +kernel
theorem dX4_takeClosing_13 : decode cX4_takeClosing 13 = .ok (.getfield 46, 3) := by decide +kernel
theorem dX4_takeClosing_16 : decode cX4_takeClosing 16 = .ok (.iconst 1, 1) := by decide +kernel
theorem dX4_takeClosing_17 : decode cX4_takeClosing 17 = .ok (.isub, 1) := by decide +kernel
theorem dX4_takeClosing_18 : decode cX4_takeClosing 18 = .ok (.iaload, 1) := by decide +kernel
theorem dX4_takeClosing_19 : decode cX4_takeClosing 19 = .ok (.iload_n 1, 1) := by decide +kernel
theorem dX4_takeClosing_20 : decode cX4_takeClosing 20 = .ok (.if_icmp .eq 5, 3) := by decide +kernel
theorem dX4_takeClosing_23 : decode cX4_takeClosing 23 = .ok (.iconst 0, 1) := by decide +kernel
theorem dX4_takeClosing_24 : decode cX4_takeClosing 24 = .ok (.ireturn, 1) := by decide +kernel
theorem dX4_takeClosing_25 : decode cX4_takeClosing 25 = .ok (.aload_n 0, 1) := by decide +kernel
theorem dX4_takeClosing_26 : decode cX4_takeClosing 26 = .ok (.dup, 1) := by decide +kernel
theorem dX4_takeClosing_27 : decode cX4_takeClosing 27 = .ok (.getfield 46, 3) := by decide +kernel
theorem dX4_takeClosing_30 : decode cX4_takeClosing 30 = .ok (.iconst 1, 1) := by decide +kernel
theorem dX4_takeClosing_31 : decode cX4_takeClosing 31 = .ok (.isub, 1) := by decide +kernel
theorem dX4_takeClosing_32 : decode cX4_takeClosing 32 = .ok (.putfield 46, 3) := by decide +kernel
theorem dX4_takeClosing_35 : decode cX4_takeClosing 35 = .ok (.aload_n 0, 1) := by decide +kernel
theorem dX4_takeClosing_36 : decode cX4_takeClosing 36 = .ok (.getfield 15, 3) := by decide +kernel
theorem dX4_takeClosing_39 : decode cX4_takeClosing 39 = .ok (.iload_n 1, 1) := by decide +kernel
theorem dX4_takeClosing_40 : decode cX4_takeClosing 40 = .ok (.aload_n 0, 1) := by decide +kernel
theorem dX4_takeClosing_41 : decode cX4_takeClosing 41 = .ok (.getfield 33, 3) := by decide +kernel
theorem dX4_takeClosing_44 : decode cX4_takeClosing 44 = .ok (.iastore, 1) := by decide +kernel
theorem dX4_takeClosing_45 : decode cX4_takeClosing 45 = .ok (.iconst 1, 1) := by decide +kernel
theorem dX4_takeClosing_46 : decode cX4_takeClosing 46 = .ok (.ireturn, 1) := by decide +kernel
set_option maxRecDepth 20000 in
theorem ggX4_takeMark_X7_has : GoodIn wsX4_takeMark wsX7_has := goodIn_r _ [8] (by decide +kernel) (by decide +kernel)
set_option maxRecDepth 20000 in
theorem gX4_takeMark_X7_has_n63 : GoodIn wsX4_takeMark (wsX7_has) := ggX4_takeMark_X7_has
theorem dX4_takeMark_0 : decode cX4_takeMark 0 = .ok (.aload_n 0, 1) := by decide +kernel
theorem dX4_takeMark_1 : decode cX4_takeMark 1 = .ok (.getfield 40, 3) := by decide +kernel
theorem dX4_takeMark_4 : decode cX4_takeMark 4 = .ok (.iload_n 1, 1) := by decide +kernel
theorem dX4_takeMark_5 : decode cX4_takeMark 5 = .ok (.invokestatic 63, 3) := by decide +kernel
theorem dX4_takeMark_8 : decode cX4_takeMark 8 = .ok (.ifCond .ne 11, 3) := by decide +kernel
theorem dX4_takeMark_11 : decode cX4_takeMark 11 = .ok (.aload_n 0, 1) := by decide +kernel
theorem dX4_takeMark_12 : decode cX4_takeMark 12 = .ok (.getfield 43, 3) := by decide +kernel
theorem dX4_takeMark_15 : decode cX4_takeMark 15 = .ok (.iconst 3, 1) := by decide +kernel
theorem dX4_takeMark_16 : decode cX4_takeMark 16 = .ok (.if_icmp .lt 5, 3) := by decide +kernel
theorem dX4_takeMark_19 : decode cX4_takeMark 19 = .ok (.iconst 0, 1) := by decide +kernel
theorem dX4_takeMark_20 : decode cX4_takeMark 20 = .ok (.ireturn, 1) := by decide +kernel
theorem dX4_takeMark_21 : decode cX4_takeMark 21 = .ok (.aload_n 0, 1) := by decide +kernel
theorem dX4_takeMark_22 : decode cX4_takeMark 22 = .ok (.dup, 1) := by decide +kernel
theorem dX4_takeMark_23 : decode cX4_takeMark 23 = .ok (.getfield 40, 3) := by decide +kernel
theorem dX4_takeMark_26 : decode cX4_takeMark 26 = .ok (.iconst 1, 1) := by decide +kernel
theorem dX4_takeMark_27 : decode cX4_takeMark 27 = .ok (.iload_n 1, 1) := by decide +kernel
theorem dX4_takeMark_28 : decode cX4_takeMark 28 = .ok (.ishl, 1) := by decide +kernel
theorem dX4_takeMark_29 : decode cX4_takeMark 29 = .ok (.ior, 1) := by decide +kernel
theorem dX4_takeMark_30 : decode cX4_takeMark 30 = .ok (.putfield 40, 3) := by decide +kernel
theorem dX4_takeMark_33 : decode cX4_takeMark 33 = .ok (.aload_n 0, 1) := by decide +kernel
theorem dX4_takeMark_34 : decode cX4_takeMark 34 = .ok (.getfield 24, 3) := by decide +kernel
theorem dX4_takeMark_37 : decode cX4_takeMark 37 = .ok (.iload_n 1, 1) := by decide +kernel
theorem dX4_takeMark_38 : decode cX4_takeMark 38 = .ok (.aload_n 0, 1) := by decide +kernel
theorem dX4_takeMark_39 : decode cX4_takeMark 39 = .ok (.getfield 33, 3) := by decide +kernel
theorem dX4_takeMark_42 : decode cX4_takeMark 42 = .ok (.iastore, 1) := by decide +kernel
theorem dX4_takeMark_43 : decode cX4_takeMark 43 = .ok (.aload_n 0, 1) := by decide +kernel
theorem dX4_takeMark_44 : decode cX4_takeMark 44 = .ok (.getfield 27, 3) := by decide +kernel
theorem dX4_takeMark_47 : decode cX4_takeMark 47 = .ok (.aload_n 0, 1) := by decide +kernel
theorem dX4_takeMark_48 : decode cX4_takeMark 48 = .ok (.getfield 43, 3) := by decide +kernel
theorem dX4_takeMark_51 : decode cX4_takeMark 51 = .ok (.iload_n 1, 1) := by decide +kernel
theorem dX4_takeMark_52 : decode cX4_takeMark 52 = .ok (.iastore, 1) := by decide +kernel
theorem dX4_takeMark_53 : decode cX4_takeMark 53 = .ok (.aload_n 0, 1) := by decide +kernel
theorem dX4_takeMark_54 : decode cX4_takeMark 54 = .ok (.dup, 1) := by decide +kernel
theorem dX4_takeMark_55 : decode cX4_takeMark 55 = .ok (.getfield 43, 3) := by decide +kernel
theorem dX4_takeMark_58 : decode cX4_takeMark 58 = .ok (.iconst 1, 1) := by decide +kernel
theorem dX4_takeMark_59 : decode cX4_takeMark 59 = .ok (.iadd, 1) := by decide +kernel
theorem dX4_takeMark_60 : decode cX4_takeMark 60 = .ok (.putfield 43, 3) := by decide +kernel
theorem dX4_takeMark_63 : decode cX4_takeMark 63 = .ok (.iconst 1, 1) := by decide +kernel
theorem dX4_takeMark_64 : decode cX4_takeMark 64 = .ok (.ireturn, 1) := by decide +kernel
set_option maxRecDepth 20000 in
theorem ggX4_depth_J6_bitCount_0f7a4 : GoodIn wsX4_depth wsJ6_bitCount_0f7a4 := goodIn_r _ [5, 6, 7, 8] (by decide +kernel) (by decide +kernel)
set_option maxRecDepth 20000 in
theorem gX4_depth_J6_bitCount_0f7a4 : GoodIn wsX4_depth (va_wsS RX4 67 yJ6_bitCount_0f7a4 wsJ6_bitCount_0f7a4) := goodIn_app (goodIn_of _ (by decide +kernel)) ggX4_depth_J6_bitCount_0f7a4
theorem dX4_depth_0 : decode cX4_depth 0 = .ok (.aload_n 0, 1) := by decide +kernel
theorem dX4_depth_1 : decode cX4_depth 1 = .ok (.getfield 21, 3) := by decide +kernel
theorem dX4_depth_4 : decode cX4_depth 4 = .ok (.iload_n 1, 1) := by decide +kernel
theorem dX4_depth_5 : decode cX4_depth 5 = .ok (.iaload, 1) := by decide +kernel
theorem dX4_depth_6 : decode cX4_depth 6 = .ok (.invokestatic 67, 3) := by decide +kernel
theorem dX4_depth_9 : decode cX4_depth 9 = .ok (.ireturn, 1) := by decide +kernel
set_option maxRecDepth 20000 in
theorem ggX4_countHolds_X7_has : GoodIn wsX4_countHolds wsX7_has := goodIn_r _ [5] (by decide +kernel) (by decide +kernel)
set_option maxRecDepth 20000 in
theorem gX4_countHolds_X7_has_n63 : GoodIn wsX4_countHolds (wsX7_has) := ggX4_countHolds_X7_has
set_option maxRecDepth 20000 in
theorem ggX4_countHolds_J6_bitCount_0f7a4 : GoodIn wsX4_countHolds wsJ6_bitCount_0f7a4 := goodIn_r _ [9, 10, 11, 12] (by decide +kernel) (by decide +kernel)
set_option maxRecDepth 20000 in
theorem gX4_countHolds_J6_bitCount_0f7a4 : GoodIn wsX4_countHolds (va_wsS RX4 67 yJ6_bitCount_0f7a4 wsJ6_bitCount_0f7a4) := goodIn_app (goodIn_of _ (by decide +kernel)) ggX4_countHolds_J6_bitCount_0f7a4
theorem dX4_countHolds_0 : decode cX4_countHolds 0 = .ok (.iconst 0, 1) := by decide +kernel
theorem dX4_countHolds_1 : decode cX4_countHolds 1 = .ok (.istore_n 1, 1) := by decide +kernel
theorem dX4_countHolds_2 : decode cX4_countHolds 2 = .ok (.iconst 0, 1) := by decide +kernel
theorem dX4_countHolds_3 : decode cX4_countHolds 3 = .ok (.istore_n 2, 1) := by decide +kernel
theorem dX4_countHolds_4 : decode cX4_countHolds 4 = .ok (.iload_n 2, 1) := by decide +kernel
theorem dX4_countHolds_5 : decode cX4_countHolds 5 = .ok (.iconst 5, 1) := by decide +kernel
theorem dX4_countHolds_6 : decode cX4_countHolds 6 = .ok (.if_icmp .ge 32, 3) := by decide +kernel
theorem dX4_countHolds_9 : decode cX4_countHolds 9 = .ok (.aload_n 0, 1) := by decide +kernel
theorem dX4_countHolds_10 : decode cX4_countHolds 10 = .ok (.getfield 37, 3) := by decide +kernel
theorem dX4_countHolds_13 : decode cX4_countHolds 13 = .ok (.iload_n 2, 1) := by decide +kernel
theorem dX4_countHolds_14 : decode cX4_countHolds 14 = .ok (.invokestatic 63, 3) := by decide +kernel
theorem dX4_countHolds_17 : decode cX4_countHolds 17 = .ok (.ifCond .eq 15, 3) := by decide +kernel
theorem dX4_countHolds_20 : decode cX4_countHolds 20 = .ok (.iload_n 1, 1) := by decide +kernel
theorem dX4_countHolds_21 : decode cX4_countHolds 21 = .ok (.aload_n 0, 1) := by decide +kernel
theorem dX4_countHolds_22 : decode cX4_countHolds 22 = .ok (.getfield 18, 3) := by decide +kernel
theorem dX4_countHolds_25 : decode cX4_countHolds 25 = .ok (.iload_n 2, 1) := by decide +kernel
theorem dX4_countHolds_26 : decode cX4_countHolds 26 = .ok (.iaload, 1) := by decide +kernel
theorem dX4_countHolds_27 : decode cX4_countHolds 27 = .ok (.invokestatic 67, 3) := by decide +kernel
theorem dX4_countHolds_30 : decode cX4_countHolds 30 = .ok (.iadd, 1) := by decide +kernel
theorem dX4_countHolds_31 : decode cX4_countHolds 31 = .ok (.istore_n 1, 1) := by decide +kernel
theorem dX4_countHolds_32 : decode cX4_countHolds 32 = .ok (.iinc 2 1, 3) := by decide +kernel
theorem dX4_countHolds_35 : decode cX4_countHolds 35 = .ok (.goto (-31), 3) := by decide +kernel
theorem dX4_countHolds_38 : decode cX4_countHolds 38 = .ok (.iload_n 1, 1) := by decide +kernel
theorem dX4_countHolds_39 : decode cX4_countHolds 39 = .ok (.ireturn, 1) := by decide +kernel
theorem dX5_init_0 : decode cX5_init 0 = .ok (.aload_n 0, 1) := by decide +kernel
theorem dX5_init_1 : decode cX5_init 1 = .ok (.invokespecial 3, 3) := by decide +kernel
theorem dX5_init_4 : decode cX5_init 4 = .ok (.aload_n 0, 1) := by decide +kernel
theorem dX5_init_5 : decode cX5_init 5 = .ok (.iconst 5, 1) := by decide +kernel
theorem dX5_init_6 : decode cX5_init 6 = .ok (.newarray .int, 2) := by decide +kernel
theorem dX5_init_8 : decode cX5_init 8 = .ok (.putfield 9, 3) := by decide +kernel
theorem dX5_init_11 : decode cX5_init 11 = .ok (.aload_n 0, 1) := by decide +kernel
theorem dX5_init_12 : decode cX5_init 12 = .ok (.iconst 5, 1) := by decide +kernel
theorem dX5_init_13 : decode cX5_init 13 = .ok (.newarray .int, 2) := by decide +kernel
theorem dX5_init_15 : decode cX5_init 15 = .ok (.putfield 15, 3) := by decide +kernel
theorem dX5_init_18 : decode cX5_init 18 = .ok (.aload_n 0, 1) := by decide +kernel
theorem dX5_init_19 : decode cX5_init 19 = .ok (.iconst 3, 1) := by decide +kernel
theorem dX5_init_20 : decode cX5_init 20 = .ok (.newarray .int, 2) := by decide +kernel
theorem dX5_init_22 : decode cX5_init 22 = .ok (.putfield 18, 3) := by decide +kernel
theorem dX5_init_25 : decode cX5_init 25 = .ok (.return_, 1) := by decide +kernel
set_option maxRecDepth 20000 in
theorem ggX5_find_X7_has : GoodIn wsX5_find wsX7_has := goodIn_r _ [9] (by decide +kernel) (by decide +kernel)
set_option maxRecDepth 20000 in
theorem gX5_find_X7_has_n36 : GoodIn wsX5_find (wsX7_has) := ggX5_find_X7_has
set_option maxRecDepth 20000 in
theorem ggX5_find_X5_findPair : GoodIn wsX5_find wsX5_findPair := goodIn_r _ [14, 2, 15, 16, 1, 17, 18, 19, 20, 21, 22, 23, 24, 25, 26, 27, 28, 29, 30, 31, 7, 8, 9, 32, 33, 34, 35, 40, 41, 42, 43, 44, 45, 46, 47, 48, 49, 50, 51, 52, 53, 54, 36, 37, 38, 39] (by decide +kernel) (by decide +kernel)
set_option maxRecDepth 20000 in
theorem gX5_find_X5_findPair : GoodIn wsX5_find (wsV RX5 40 RX5 yX5_findPair wsX5_findPair) := goodIn_app (goodIn_of _ (by decide +kernel)) ggX5_find_X5_findPair
set_option maxRecDepth 20000 in
theorem ggX5_find_X3_anchor : GoodIn wsX5_find wsX3_anchor := goodIn_r _ [28, 24, 29, 30, 22, 31, 7, 8, 9, 40, 41, 42] (by decide +kernel) (by decide +kernel)
set_option maxRecDepth 20000 in
theorem gX5_find_X3_anchor : GoodIn wsX5_find (wsV RX5 50 RX3 yX3_anchor wsX3_anchor) := goodIn_app (goodIn_of _ (by decide +kernel)) ggX5_find_X3_anchor
theorem dX5_find_0 : decode cX5_find 0 = .ok (.aload_n 0, 1) := by decide +kernel
theorem dX5_find_1 : decode cX5_find 1 = .ok (.iconst 0, 1) := by decide +kernel
theorem dX5_find_2 : decode cX5_find 2 = .ok (.putfield 21, 3) := by decide +kernel
theorem dX5_find_5 : decode cX5_find 5 = .ok (.iconst 0, 1) := by decide +kernel
theorem dX5_find_6 : decode cX5_find 6 = .ok (.istore_n 2, 1) := by decide +kernel
theorem dX5_find_7 : decode cX5_find 7 = .ok (.iload_n 2, 1) := by decide +kernel
theorem dX5_find_8 : decode cX5_find 8 = .ok (.iconst 5, 1) := by decide +kernel
theorem dX5_find_9 : decode cX5_find 9 = .ok (.if_icmp .ge 29, 3) := by decide +kernel
theorem dX5_find_12 : decode cX5_find 12 = .ok (.aload_n 1, 1) := by decide +kernel
theorem dX5_find_13 : decode cX5_find 13 = .ok (.getfield 25, 3) := by decide +kernel
theorem dX5_find_16 : decode cX5_find 16 = .ok (.getfield 31, 3) := by decide +kernel
theorem dX5_find_19 : decode cX5_find 19 = .ok (.iload_n 2, 1) := by decide +kernel
theorem dX5_find_20 : decode cX5_find 20 = .ok (.invokestatic 36, 3) := by decide +kernel
theorem dX5_find_23 : decode cX5_find 23 = .ok (.ifCond .eq 9, 3) := by decide +kernel
theorem dX5_find_26 : decode cX5_find 26 = .ok (.aload_n 0, 1) := by decide +kernel
theorem dX5_find_27 : decode cX5_find 27 = .ok (.aload_n 1, 1) := by decide +kernel
theorem dX5_find_28 : decode cX5_find 28 = .ok (.iload_n 2, 1) := by decide +kernel
theorem dX5_find_29 : decode cX5_find 29 = .ok (.invokevirtual 40, 3) := by decide +kernel
theorem dX5_find_32 : decode cX5_find 32 = .ok (.iinc 2 1, 3) := by decide +kernel
theorem dX5_find_35 : decode cX5_find 35 = .ok (.goto (-28), 3) := by decide +kernel
theorem dX5_find_38 : decode cX5_find 38 = .ok (.iconst 0, 1) := by decide +kernel
theorem dX5_find_39 : decode cX5_find 39 = .ok (.istore_n 2, 1) := by decide +kernel
theorem dX5_find_40 : decode cX5_find 40 = .ok (.iload_n 2, 1) := by decide +kernel
theorem dX5_find_41 : decode cX5_find 41 = .ok (.iconst 3, 1) := by decide +kernel
theorem dX5_find_42 : decode cX5_find 42 = .ok (.if_icmp .ge 42, 3) := by decide +kernel
theorem dX5_find_45 : decode cX5_find 45 = .ok (.aload_n 1, 1) := by decide +kernel
theorem dX5_find_46 : decode cX5_find 46 = .ok (.getfield 25, 3) := by decide +kernel
theorem dX5_find_49 : decode cX5_find 49 = .ok (.getfield 44, 3) := by decide +kernel
theorem dX5_find_52 : decode cX5_find 52 = .ok (.iload_n 2, 1) := by decide +kernel
theorem dX5_find_53 : decode cX5_find 53 = .ok (.invokestatic 36, 3) := by decide +kernel
theorem dX5_find_56 : decode cX5_find 56 = .ok (.ifCond .eq 22, 3) := by decide +kernel
theorem dX5_find_59 : decode cX5_find 59 = .ok (.aload_n 0, 1) := by decide +kernel
theorem dX5_find_60 : decode cX5_find 60 = .ok (.getfield 18, 3) := by decide +kernel
theorem dX5_find_63 : decode cX5_find 63 = .ok (.iload_n 2, 1) := by decide +kernel
theorem dX5_find_64 : decode cX5_find 64 = .ok (.aload_n 1, 1) := by decide +kernel
theorem dX5_find_65 : decode cX5_find 65 = .ok (.aload_n 1, 1) := by decide +kernel
theorem dX5_find_66 : decode cX5_find 66 = .ok (.getfield 25, 3) := by decide +kernel
theorem dX5_find_69 : decode cX5_find 69 = .ok (.getfield 47, 3) := by decide +kernel
theorem dX5_find_72 : decode cX5_find 72 = .ok (.iload_n 2, 1) := by decide +kernel
theorem dX5_find_73 : decode cX5_find 73 = .ok (.iaload, 1) := by decide +kernel
theorem dX5_find_74 : decode cX5_find 74 = .ok (.invokevirtual 50, 3) := by decide +kernel
theorem dX5_find_77 : decode cX5_find 77 = .ok (.iastore, 1) := by decide +kernel
theorem dX5_find_78 : decode cX5_find 78 = .ok (.iinc 2 1, 3) := by decide +kernel
theorem dX5_find_81 : decode cX5_find 81 = .ok (.goto (-41), 3) := by decide +kernel
theorem dX5_find_84 : decode cX5_find 84 = .ok (.return_, 1) := by decide +kernel
set_option maxRecDepth 20000 in
theorem ggX5_findPair_X3_linkedBetween : GoodIn wsX5_findPair wsX3_linkedBetween := goodIn_r _ [11, 12, 27, 28, 29] (by decide +kernel) (by decide +kernel)
set_option maxRecDepth 20000 in
theorem gX5_findPair_X3_linkedBetween : GoodIn wsX5_findPair (wsV RX5 60 RX3 yX3_linkedBetween wsX3_linkedBetween) := goodIn_app (goodIn_of _ (by decide +kernel)) ggX5_findPair_X3_linkedBetween
set_option maxRecDepth 20000 in
theorem ggX5_findPair_X3_anchor : GoodIn wsX5_findPair wsX3_anchor := goodIn_r _ [16, 12, 17, 18, 10, 19, 20, 21, 22, 27, 28, 29] (by decide +kernel) (by decide +kernel)
set_option maxRecDepth 20000 in
theorem gX5_findPair_X3_anchor : GoodIn wsX5_findPair (wsV RX5 50 RX3 yX3_anchor wsX3_anchor) := goodIn_app (goodIn_of _ (by decide +kernel)) ggX5_findPair_X3_anchor
set_option maxRecDepth 20000 in
theorem ggX5_findPair_X3_least : GoodIn wsX5_findPair wsX3_least := goodIn_r _ [25, 20, 21, 22] (by decide +kernel) (by decide +kernel)
set_option maxRecDepth 20000 in
theorem gX5_findPair_X3_least : GoodIn wsX5_findPair (va_wsS RX5 64 yX3_least wsX3_least) := goodIn_app (goodIn_of _ (by decide +kernel)) ggX5_findPair_X3_least
set_option maxRecDepth 20000 in
theorem ggX5_findPair_X3_behindGreatest : GoodIn wsX5_findPair wsX3_behindGreatest := goodIn_r _ [19, 20, 21, 22] (by decide +kernel) (by decide +kernel)
set_option maxRecDepth 20000 in
theorem gX5_findPair_X3_behindGreatest : GoodIn wsX5_findPair (va_wsS RX5 67 yX3_behindGreatest wsX3_behindGreatest) := goodIn_app (goodIn_of _ (by decide +kernel)) ggX5_findPair_X3_behindGreatest
theorem dX5_findPair_0 : decode cX5_findPair 0 = .ok (.aload_n 1, 1) := by decide +kernel
theorem dX5_findPair_1 : decode cX5_findPair 1 = .ok (.getfield 25, 3) := by decide +kernel
theorem dX5_findPair_4 : decode cX5_findPair 4 = .ok (.getfield 54, 3) := by decide +kernel
theorem dX5_findPair_7 : decode cX5_findPair 7 = .ok (.iload_n 2, 1) := by decide +kernel
theorem dX5_findPair_8 : decode cX5_findPair 8 = .ok (.iaload, 1) := by decide +kernel
theorem dX5_findPair_9 : decode cX5_findPair 9 = .ok (.istore_n 3, 1) := by decide +kernel
theorem dX5_findPair_10 : decode cX5_findPair 10 = .ok (.aload_n 1, 1) := by decide +kernel
theorem dX5_findPair_11 : decode cX5_findPair 11 = .ok (.iload_n 3, 1) := by decide +kernel
theorem dX5_findPair_12 : decode cX5_findPair 12 = .ok (.aload_n 1, 1) := by decide +kernel
theorem dX5_findPair_13 : decode cX5_findPair 13 = .ok (.getfield 25, 3) := by decide +kernel
theorem dX5_findPair_16 : decode cX5_findPair 16 = .ok (.getfield 57, 3) := by decide +kernel
theorem dX5_findPair_19 : decode cX5_findPair 19 = .ok (.iload_n 2, 1) := by decide +kernel
theorem dX5_findPair_20 : decode cX5_findPair 20 = .ok (.iaload, 1) := by decide +kernel
theorem dX5_findPair_21 : decode cX5_findPair 21 = .ok (.invokevirtual 60, 3) := by decide +kernel
theorem dX5_findPair_24 : decode cX5_findPair 24 = .ok (.istore 4, 2) := by decide +kernel
theorem dX5_findPair_26 : decode cX5_findPair 26 = .ok (.iload 4, 2) := by decide +kernel
theorem dX5_findPair_28 : decode cX5_findPair 28 = .ok (.ifCond .ne 41, 3) := by decide +kernel
theorem dX5_findPair_31 : decode cX5_findPair 31 = .ok (.aload_n 0, 1) := by decide +kernel
theorem dX5_findPair_32 : decode cX5_findPair 32 = .ok (.dup, 1) := by decide +kernel
theorem dX5_findPair_33 : decode cX5_findPair 33 = .ok (.getfield 21, 3) := by decide +kernel
theorem dX5_findPair_36 : decode cX5_findPair 36 = .ok (.iconst 1, 1) := by decide +kernel
theorem dX5_findPair_37 : decode cX5_findPair 37 = .ok (.iload_n 2, 1) := by decide +kernel
theorem dX5_findPair_38 : decode cX5_findPair 38 = .ok (.ishl, 1) := by decide +kernel
theorem dX5_findPair_39 : decode cX5_findPair 39 = .ok (.ior, 1) := by decide +kernel
theorem dX5_findPair_40 : decode cX5_findPair 40 = .ok (.putfield 21, 3) := by decide +kernel
theorem dX5_findPair_43 : decode cX5_findPair 43 = .ok (.aload_n 0, 1) := by decide +kernel
theorem dX5_findPair_44 : decode cX5_findPair 44 = .ok (.getfield 9, 3) := by decide +kernel
theorem dX5_findPair_47 : decode cX5_findPair 47 = .ok (.iload_n 2, 1) := by decide +kernel
theorem dX5_findPair_48 : decode cX5_findPair 48 = .ok (.aload_n 1, 1) := by decide +kernel
theorem dX5_findPair_49 : decode cX5_findPair 49 = .ok (.iload_n 3, 1) := by decide +kernel
theorem dX5_findPair_50 : decode cX5_findPair 50 = .ok (.invokevirtual 50, 3) := by decide +kernel
theorem dX5_findPair_53 : decode cX5_findPair 53 = .ok (.iastore, 1) := by decide +kernel
theorem dX5_findPair_54 : decode cX5_findPair 54 = .ok (.aload_n 0, 1) := by decide +kernel
theorem dX5_findPair_55 : decode cX5_findPair 55 = .ok (.getfield 15, 3) := by decide +kernel
theorem dX5_findPair_58 : decode cX5_findPair 58 = .ok (.iload_n 2, 1) := by decide +kernel
theorem dX5_findPair_59 : decode cX5_findPair 59 = .ok (.aload_n 0, 1) := by decide +kernel
theorem dX5_findPair_60 : decode cX5_findPair 60 = .ok (.getfield 9, 3) := by decide +kernel
theorem dX5_findPair_63 : decode cX5_findPair 63 = .ok (.iload_n 2, 1) := by decide +kernel
theorem dX5_findPair_64 : decode cX5_findPair 64 = .ok (.iaload, 1) := by decide +kernel
theorem dX5_findPair_65 : decode cX5_findPair 65 = .ok (.iastore, 1) := by decide +kernel
theorem dX5_findPair_66 : decode cX5_findPair 66 = .ok (.goto 25, 3) := by decide +kernel
theorem dX5_findPair_69 : decode cX5_findPair 69 = .ok (.aload_n 0, 1) := by decide +kernel
theorem dX5_findPair_70 : decode cX5_findPair 70 = .ok (.getfield 9, 3) := by decide +kernel
theorem dX5_findPair_73 : decode cX5_findPair 73 = .ok (.iload_n 2, 1) := by decide +kernel
theorem dX5_findPair_74 : decode cX5_findPair 74 = .ok (.iload 4, 2) := by decide +kernel
theorem dX5_findPair_76 : decode cX5_findPair 76 = .ok (.invokestatic 64, 3) := by decide +kernel
theorem dX5_findPair_79 : decode cX5_findPair 79 = .ok (.iastore, 1) := by decide +kernel
theorem dX5_findPair_80 : decode cX5_findPair 80 = .ok (.aload_n 0, 1) := by decide +kernel
theorem dX5_findPair_81 : decode cX5_findPair 81 = .ok (.getfield 15, 3) := by decide +kernel
theorem dX5_findPair_84 : decode cX5_findPair 84 = .ok (.iload_n 2, 1) := by decide +kernel
theorem dX5_findPair_85 : decode cX5_findPair 85 = .ok (.iload 4, 2) := by decide +kernel
theorem dX5_findPair_87 : decode cX5_findPair 87 = .ok (.invokestatic 67, 3) := by decide +kernel
theorem dX5_findPair_90 : decode cX5_findPair 90 = .ok (.iastore, 1) := by decide +kernel
theorem dX5_findPair_91 : decode cX5_findPair 91 = .ok (.return_, 1) := by decide +kernel
set_option maxRecDepth 20000 in
theorem ggX5_countCrossings_X7_has : GoodIn wsX5_countCrossings wsX7_has := goodIn_r _ [3] (by decide +kernel) (by decide +kernel)
set_option maxRecDepth 20000 in
theorem gX5_countCrossings_X7_has_n36 : GoodIn wsX5_countCrossings (wsX7_has) := ggX5_countCrossings_X7_has
set_option maxRecDepth 20000 in
theorem ggX5_countCrossings_X5_cross : GoodIn wsX5_countCrossings wsX5_cross := goodIn_r _ [8, 9, 10, 11, 7, 12, 13, 14, 15, 16, 17, 18] (by decide +kernel) (by decide +kernel)
set_option maxRecDepth 20000 in
theorem gX5_countCrossings_X5_cross : GoodIn wsX5_countCrossings (wsV RX5 70 RX5 yX5_cross wsX5_cross) := goodIn_app (goodIn_of _ (by decide +kernel)) ggX5_countCrossings_X5_cross
theorem dX5_countCrossings_0 : decode cX5_countCrossings 0 = .ok (.iconst 0, 1) := by decide +kernel
theorem dX5_countCrossings_1 : decode cX5_countCrossings 1 = .ok (.istore_n 2, 1) := by decide +kernel
theorem dX5_countCrossings_2 : decode cX5_countCrossings 2 = .ok (.iconst 0, 1) := by decide +kernel
theorem dX5_countCrossings_3 : decode cX5_countCrossings 3 = .ok (.istore_n 3, 1) := by decide +kernel
theorem dX5_countCrossings_4 : decode cX5_countCrossings 4 = .ok (.iload_n 3, 1) := by decide +kernel
theorem dX5_countCrossings_5 : decode cX5_countCrossings 5 = .ok (.iconst 5, 1) := by decide +kernel
theorem dX5_countCrossings_6 : decode cX5_countCrossings 6 = .ok (.if_icmp .ge 56, 3) := by decide +kernel
theorem dX5_countCrossings_9 : decode cX5_countCrossings 9 = .ok (.iload_n 3, 1) := by decide +kernel
theorem dX5_countCrossings_10 : decode cX5_countCrossings 10 = .ok (.iconst 1, 1) := by decide +kernel
theorem dX5_countCrossings_11 : decode cX5_countCrossings 11 = .ok (.iadd, 1) := by decide +kernel
theorem dX5_countCrossings_12 : decode cX5_countCrossings 12 = .ok (.istore 4, 2) := by decide +kernel
theorem dX5_countCrossings_14 : decode cX5_countCrossings 14 = .ok (.iload 4, 2) := by decide +kernel
theorem dX5_countCrossings_16 : decode cX5_countCrossings 16 = .ok (.iconst 5, 1) := by decide +kernel
theorem dX5_countCrossings_17 : decode cX5_countCrossings 17 = .ok (.if_icmp .ge 39, 3) := by decide +kernel
theorem dX5_countCrossings_20 : decode cX5_countCrossings 20 = .ok (.iload_n 1, 1) := by decide +kernel
theorem dX5_countCrossings_21 : decode cX5_countCrossings 21 = .ok (.iload_n 3, 1) := by decide +kernel
theorem dX5_countCrossings_22 : decode cX5_countCrossings 22 = .ok (.invokestatic 36, 3) := by decide +kernel
theorem dX5_countCrossings_25 : decode cX5_countCrossings 25 = .ok (.ifCond .eq 25, 3) := by decide +kernel
theorem dX5_countCrossings_28 : decode cX5_countCrossings 28 = .ok (.iload_n 1, 1) := by decide +kernel
theorem dX5_countCrossings_29 : decode cX5_countCrossings 29 = .ok (.iload 4, 2) := by decide +kernel
theorem dX5_countCrossings_31 : decode cX5_countCrossings 31 = .ok (.invokestatic 36, 3) := by decide +kernel
theorem dX5_countCrossings_34 : decode cX5_countCrossings 34 = .ok (.ifCond .eq 16, 3) := by decide +kernel
theorem dX5_countCrossings_37 : decode cX5_countCrossings 37 = .ok (.aload_n 0, 1) := by decide +kernel
theorem dX5_countCrossings_38 : decode cX5_countCrossings 38 = .ok (.iload_n 3, 1) := by decide +kernel
theorem dX5_countCrossings_39 : decode cX5_countCrossings 39 = .ok (.iload 4, 2) := by decide +kernel
theorem dX5_countCrossings_41 : decode cX5_countCrossings 41 = .ok (.invokevirtual 70, 3) := by decide +kernel
theorem dX5_countCrossings_44 : decode cX5_countCrossings 44 = .ok (.ifCond .eq 6, 3) := by decide +kernel
theorem dX5_countCrossings_47 : decode cX5_countCrossings 47 = .ok (.iinc 2 1, 3) := by decide +kernel
theorem dX5_countCrossings_50 : decode cX5_countCrossings 50 = .ok (.iinc 4 1, 3) := by decide +kernel
theorem dX5_countCrossings_53 : decode cX5_countCrossings 53 = .ok (.goto (-39), 3) := by decide +kernel
theorem dX5_countCrossings_56 : decode cX5_countCrossings 56 = .ok (.iinc 3 1, 3) := by decide +kernel
theorem dX5_countCrossings_59 : decode cX5_countCrossings 59 = .ok (.goto (-55), 3) := by decide +kernel
theorem dX5_countCrossings_62 : decode cX5_countCrossings 62 = .ok (.iload_n 2, 1) := by decide +kernel
theorem dX5_countCrossings_63 : decode cX5_countCrossings 63 = .ok (.ireturn, 1) := by decide +kernel
set_option maxRecDepth 20000 in
theorem ggX5_cross_X5_overlapsFromAhead : GoodIn wsX5_cross wsX5_overlapsFromAhead := goodIn_r _ [5, 6, 7, 8, 9, 10, 11] (by decide +kernel) (by decide +kernel)
set_option maxRecDepth 20000 in
theorem gX5_cross_X5_overlapsFromAhead : GoodIn wsX5_cross (wsV RX5 73 RX5 yX5_overlapsFromAhead wsX5_overlapsFromAhead) := goodIn_app (goodIn_of _ (by decide +kernel)) ggX5_cross_X5_overlapsFromAhead
theorem dX5_cross_0 : decode cX5_cross 0 = .ok (.aload_n 0, 1) := by decide +kernel
theorem dX5_cross_1 : decode cX5_cross 1 = .ok (.iload_n 1, 1) := by decide +kernel
theorem dX5_cross_2 : decode cX5_cross 2 = .ok (.iload_n 2, 1) := by decide +kernel
theorem dX5_cross_3 : decode cX5_cross 3 = .ok (.invokevirtual 73, 3) := by decide +kernel
theorem dX5_cross_6 : decode cX5_cross 6 = .ok (.ifCond .ne 12, 3) := by decide +kernel
theorem dX5_cross_9 : decode cX5_cross 9 = .ok (.aload_n 0, 1) := by decide +kernel
theorem dX5_cross_10 : decode cX5_cross 10 = .ok (.iload_n 2, 1) := by decide +kernel
theorem dX5_cross_11 : decode cX5_cross 11 = .ok (.iload_n 1, 1) := by decide +kernel
theorem dX5_cross_12 : decode cX5_cross 12 = .ok (.invokevirtual 73, 3) := by decide +kernel
theorem dX5_cross_15 : decode cX5_cross 15 = .ok (.ifCond .eq 7, 3) := by decide +kernel
theorem dX5_cross_18 : decode cX5_cross 18 = .ok (.iconst 1, 1) := by decide +kernel
theorem dX5_cross_19 : decode cX5_cross 19 = .ok (.goto 4, 3) := by decide +kernel
theorem dX5_cross_22 : decode cX5_cross 22 = .ok (.iconst 0, 1) := by decide +kernel
theorem dX5_cross_23 : decode cX5_cross 23 = .ok (.ireturn, 1) := by decide +kernel
theorem dX5_overlapsFromAhead_0 : decode cX5_overlapsFromAhead 0 = .ok (.aload_n 0, 1) := by decide +kernel
theorem dX5_overlapsFromAhead_1 : decode cX5_overlapsFromAhead 1 = .ok (.getfield 9, 3) := by decide +kernel
theorem dX5_overlapsFromAhead_4 : decode cX5_overlapsFromAhead 4 = .ok (.iload_n 1, 1) := by decide +kernel
theorem dX5_overlapsFromAhead_5 : decode cX5_overlapsFromAhead 5 = .ok (.iaload, 1) := by decide +kernel
theorem dX5_overlapsFromAhead_6 : decode cX5_overlapsFromAhead 6 = .ok (.aload_n 0, 1) := by decide +kernel
theorem dX5_overlapsFromAhead_7 : decode cX5_overlapsFromAhead 7 = .ok (.getfield 9, 3) := by decide +kernel
theorem dX5_overlapsFromAhead_10 : decode cX5_overlapsFromAhead 10 = .ok (.iload_n 2, 1) := by decide +kernel
theorem dX5_overlapsFromAhead_11 : decode cX5_overlapsFromAhead 11 = .ok (.iaload, 1) := by decide +kernel
theorem dX5_overlapsFromAhead_12 : decode cX5_overlapsFromAhead 12 = .ok (.if_icmp .ge 37, 3) := by decide +kernel
theorem dX5_overlapsFromAhead_15 : decode cX5_overlapsFromAhead 15 = .ok (.aload_n 0, 1) := by decide +kernel
theorem dX5_overlapsFromAhead_16 : decode cX5_overlapsFromAhead 16 = .ok (.getfield 9, 3) := by decide +kernel
theorem dX5_overlapsFromAhead_19 : decode cX5_overlapsFromAhead 19 = .ok (.iload_n 2, 1) := by decide +kernel
theorem dX5_overlapsFromAhead_20 : decode cX5_overlapsFromAhead 20 = .ok (.iaload, 1) := by decide +kernel
theorem dX5_overlapsFromAhead_21 : decode cX5_overlapsFromAhead 21 = .ok (.aload_n 0, 1) := by decide +kernel
theorem dX5_overlapsFromAhead_22 : decode cX5_overlapsFromAhead 22 = .ok (.getfield 15, 3) := by decide +kernel
theorem dX5_overlapsFromAhead_25 : decode cX5_overlapsFromAhead 25 = .ok (.iload_n 1, 1) := by decide +kernel
theorem dX5_overlapsFromAhead_26 : decode cX5_overlapsFromAhead 26 = .ok (.iaload, 1) := by decide +kernel
theorem dX5_overlapsFromAhead_27 : decode cX5_overlapsFromAhead 27 = .ok (.if_icmp .ge 22, 3) := by decide +kernel
theorem dX5_overlapsFromAhead_30 : decode cX5_overlapsFromAhead 30 = .ok (.aload_n 0, 1) := by decide +kernel
theorem dX5_overlapsFromAhead_31 : decode cX5_overlapsFromAhead 31 = .ok (.getfield 15, 3) := by decide +kernel
theorem dX5_overlapsFromAhead_34 : decode cX5_overlapsFromAhead 34 = .ok (.iload_n 1, 1) := by decide +kernel
theorem dX5_overlapsFromAhead_35 : decode cX5_overlapsFromAhead 35 = .ok (.iaload, 1) := by decide +kernel
theorem dX5_overlapsFromAhead_36 : decode cX5_overlapsFromAhead 36 = .ok (.aload_n 0, 1) := by decide +kernel
theorem dX5_overlapsFromAhead_37 : decode cX5_overlapsFromAhead 37 = .ok (.getfield 15, 3) := by decide +kernel
theorem dX5_overlapsFromAhead_40 : decode cX5_overlapsFromAhead 40 = .ok (.iload_n 2, 1) := by decide +kernel
theorem dX5_overlapsFromAhead_41 : decode cX5_overlapsFromAhead 41 = .ok (.iaload, 1) := by decide +kernel
theorem dX5_overlapsFromAhead_42 : decode cX5_overlapsFromAhead 42 = .ok (.if_icmp .ge 7, 3) := by decide +kernel
theorem dX5_overlapsFromAhead_45 : decode cX5_overlapsFromAhead 45 = .ok (.iconst 1, 1) := by decide +kernel
theorem dX5_overlapsFromAhead_46 : decode cX5_overlapsFromAhead 46 = .ok (.goto 4, 3) := by decide +kernel
theorem dX5_overlapsFromAhead_49 : decode cX5_overlapsFromAhead 49 = .ok (.iconst 0, 1) := by decide +kernel
theorem dX5_overlapsFromAhead_50 : decode cX5_overlapsFromAhead 50 = .ok (.ireturn, 1) := by decide +kernel
theorem dX6_init_0 : decode cX6_init 0 = .ok (.aload_n 0, 1) := by decide +kernel
theorem dX6_init_1 : decode cX6_init 1 = .ok (.invokespecial 3, 3) := by decide +kernel
theorem dX6_init_4 : decode cX6_init 4 = .ok (.aload_n 0, 1) := by decide +kernel
theorem dX6_init_5 : decode cX6_init 5 = .ok (.bipush 21, 2) := by decide +kernel
theorem dX6_init_7 : decode cX6_init 7 = .ok (.newarray .int, 2) := by decide +kernel
theorem dX6_init_9 : decode cX6_init 9 = .ok (.putfield 9, 3) := by decide +kernel
theorem dX6_init_12 : decode cX6_init 12 = .ok (.aload_n 0, 1) := by decide +kernel
theorem dX6_init_13 : decode cX6_init 13 = .ok (.iconst 5, 1) := by decide +kernel
theorem dX6_init_14 : decode cX6_init 14 = .ok (.newarray .int, 2) := by decide +kernel
theorem dX6_init_16 : decode cX6_init 16 = .ok (.putfield 15, 3) := by decide +kernel
theorem dX6_init_19 : decode cX6_init 19 = .ok (.return_, 1) := by decide +kernel
set_option maxRecDepth 20000 in
theorem ggX6_write_X6_writeGap : GoodIn wsX6_write wsX6_writeGap := goodIn_r _ [8, 9, 10, 11, 12, 13, 14, 15, 16, 7, 17, 18, 19, 20, 21, 22, 23, 24, 25, 26, 1, 27, 28, 29, 30, 31, 32, 33, 34, 35, 36, 37, 38, 39, 40, 41, 42, 43, 44, 45, 46, 47, 48, 49, 50, 51, 52, 53, 54, 55, 56, 57, 58, 59, 60, 61, 62, 63, 64, 71, 72, 73, 74, 75, 76, 77, 78, 79, 80, 81, 82, 83, 84, 85, 86, 87, 88, 89, 90, 65, 66, 67, 91, 92, 93, 94] (by decide +kernel) (by decide +kernel)
set_option maxRecDepth 20000 in
theorem gX6_write_X6_writeGap : GoodIn wsX6_write (wsV RX6 31 RX6 yX6_writeGap wsX6_writeGap) := goodIn_app (goodIn_of _ (by decide +kernel)) ggX6_write_X6_writeGap
set_option maxRecDepth 20000 in
theorem ggX6_write_X6_add : GoodIn wsX6_write wsX6_add := goodIn_r _ [26, 1, 27, 65, 66, 67] (by decide +kernel) (by decide +kernel)
set_option maxRecDepth 20000 in
theorem gX6_write_X6_add : GoodIn wsX6_write (wsV RX6 35 RX6 yX6_add wsX6_add) := goodIn_app (goodIn_of _ (by decide +kernel)) ggX6_write_X6_add
theorem dX6_write_0 : decode cX6_write 0 = .ok (.aload_n 0, 1) := by decide +kernel
theorem dX6_write_1 : decode cX6_write 1 = .ok (.iconst 0, 1) := by decide +kernel
theorem dX6_write_2 : decode cX6_write 2 = .ok (.putfield 18, 3) := by decide +kernel
theorem dX6_write_5 : decode cX6_write 5 = .ok (.iconst 0, 1) := by decide +kernel
theorem dX6_write_6 : decode cX6_write 6 = .ok (.istore 4, 2) := by decide +kernel
theorem dX6_write_8 : decode cX6_write 8 = .ok (.iload 4, 2) := by decide +kernel
theorem dX6_write_10 : decode cX6_write 10 = .ok (.aload_n 1, 1) := by decide +kernel
theorem dX6_write_11 : decode cX6_write 11 = .ok (.getfield 22, 3) := by decide +kernel
theorem dX6_write_14 : decode cX6_write 14 = .ok (.if_icmp .gt 36, 3) := by decide +kernel
theorem dX6_write_17 : decode cX6_write 17 = .ok (.aload_n 0, 1) := by decide +kernel
theorem dX6_write_18 : decode cX6_write 18 = .ok (.aload_n 1, 1) := by decide +kernel
theorem dX6_write_19 : decode cX6_write 19 = .ok (.getfield 27, 3) := by decide +kernel
theorem dX6_write_22 : decode cX6_write 22 = .ok (.aload_n 2, 1) := by decide +kernel
theorem dX6_write_23 : decode cX6_write 23 = .ok (.aload_n 3, 1) := by decide +kernel
theorem dX6_write_24 : decode cX6_write 24 = .ok (.iload 4, 2) := by decide +kernel
theorem dX6_write_26 : decode cX6_write 26 = .ok (.invokevirtual 31, 3) := by decide +kernel
theorem dX6_write_29 : decode cX6_write 29 = .ok (.iload 4, 2) := by decide +kernel
theorem dX6_write_31 : decode cX6_write 31 = .ok (.aload_n 1, 1) := by decide +kernel
theorem dX6_write_32 : decode cX6_write 32 = .ok (.getfield 22, 3) := by decide +kernel
theorem dX6_write_35 : decode cX6_write 35 = .ok (.if_icmp .ge 9, 3) := by decide +kernel
theorem dX6_write_38 : decode cX6_write 38 = .ok (.aload_n 0, 1) := by decide +kernel
theorem dX6_write_39 : decode cX6_write 39 = .ok (.bipush 46, 2) := by decide +kernel
theorem dX6_write_41 : decode cX6_write 41 = .ok (.invokevirtual 35, 3) := by decide +kernel
theorem dX6_write_44 : decode cX6_write 44 = .ok (.iinc 4 1, 3) := by decide +kernel
theorem dX6_write_47 : decode cX6_write 47 = .ok (.goto (-39), 3) := by decide +kernel
theorem dX6_write_50 : decode cX6_write 50 = .ok (.return_, 1) := by decide +kernel
set_option maxRecDepth 20000 in
theorem ggX6_writeGap_X7_has : GoodIn wsX6_writeGap wsX7_has := goodIn_r _ [6] (by decide +kernel) (by decide +kernel)
set_option maxRecDepth 20000 in
theorem gX6_writeGap_X7_has_n44 : GoodIn wsX6_writeGap (wsX7_has) := ggX6_writeGap_X7_has
set_option maxRecDepth 20000 in
theorem ggX6_writeGap_X6_heldByAny : GoodIn wsX6_writeGap wsX6_heldByAny := goodIn_r _ [10, 11, 4, 5, 6, 59, 60, 61, 62, 63, 64, 65, 66, 67, 68, 69, 70] (by decide +kernel) (by decide +kernel)
set_option maxRecDepth 20000 in
theorem gX6_writeGap_X6_heldByAny : GoodIn wsX6_writeGap (va_wsS RX6 56 yX6_heldByAny wsX6_heldByAny) := goodIn_app (goodIn_of _ (by decide +kernel)) ggX6_writeGap_X6_heldByAny
