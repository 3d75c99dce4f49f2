theorem dX8_say_3 : decode cX8_say 3 = .ok (.bipush 126, 2) := by decide +kernel
theorem dX8_say_5 : decode cX8_say 5 = .ok (.invokestatic 57, 3) := by decide +kernel
theorem dX8_say_8 : decode cX8_say 8 = .ok (.ifCond .ne 6, 3) := by decide +kernel
theorem dX8_say_11 : decode cX8_say 11 = .ok (.bipush (-2), 2) := by decide +kernel
theorem dX8_say_13 : decode cX8_say 13 = .ok (.ireturn, 1) := by decide +kernel
theorem dX8_say_14 : decode cX8_say 14 = .ok (.aload_n 0, 1) := by decide +kernel
theorem dX8_say_15 : decode cX8_say 15 = .ok (.getfield 61, 3) := by decide +kernel
theorem dX8_say_18 : decode cX8_say 18 = .ok (.bipush 30, 2) := by decide +kernel
theorem dX8_say_20 : decode cX8_say 20 = .ok (.if_icmp .ne 6, 3) := by decide +kernel
theorem dX8_say_23 : decode cX8_say 23 = .ok (.bipush (-4), 2) := by decide +kernel
theorem dX8_say_25 : decode cX8_say 25 = .ok (.ireturn, 1) := by decide +kernel
theorem dX8_say_26 : decode cX8_say 26 = .ok (.aload_n 0, 1) := by decide +kernel
theorem dX8_say_27 : decode cX8_say 27 = .ok (.getfield 28, 3) := by decide +kernel
theorem dX8_say_30 : decode cX8_say 30 = .ok (.aload_n 0, 1) := by decide +kernel
theorem dX8_say_31 : decode cX8_say 31 = .ok (.getfield 61, 3) := by decide +kernel
theorem dX8_say_34 : decode cX8_say 34 = .ok (.iload_n 1, 1) := by decide +kernel
theorem dX8_say_35 : decode cX8_say 35 = .ok (.iastore, 1) := by decide +kernel
theorem dX8_say_36 : decode cX8_say 36 = .ok (.aload_n 0, 1) := by decide +kernel
theorem dX8_say_37 : decode cX8_say 37 = .ok (.dup, 1) := by decide +kernel
theorem dX8_say_38 : decode cX8_say 38 = .ok (.getfield 61, 3) := by decide +kernel
theorem dX8_say_41 : decode cX8_say 41 = .ok (.iconst 1, 1) := by decide +kernel
theorem dX8_say_42 : decode cX8_say 42 = .ok (.iadd, 1) := by decide +kernel
theorem dX8_say_43 : decode cX8_say 43 = .ok (.putfield 61, 3) := by decide +kernel
theorem dX8_say_46 : decode cX8_say 46 = .ok (.aload_n 0, 1) := by decide +kernel
theorem dX8_say_47 : decode cX8_say 47 = .ok (.getfield 61, 3) := by decide +kernel
theorem dX8_say_50 : decode cX8_say 50 = .ok (.ireturn, 1) := by decide +kernel
theorem dX8_wipe_0 : decode cX8_wipe 0 = .ok (.aload_n 0, 1) := by decide +kernel
theorem dX8_wipe_1 : decode cX8_wipe 1 = .ok (.getfield 61, 3) := by decide +kernel
theorem dX8_wipe_4 : decode cX8_wipe 4 = .ok (.istore_n 1, 1) := by decide +kernel
theorem dX8_wipe_5 : decode cX8_wipe 5 = .ok (.aload_n 0, 1) := by decide +kernel
theorem dX8_wipe_6 : decode cX8_wipe 6 = .ok (.iconst 0, 1) := by decide +kernel
theorem dX8_wipe_7 : decode cX8_wipe 7 = .ok (.putfield 61, 3) := by decide +kernel
theorem dX8_wipe_10 : decode cX8_wipe 10 = .ok (.iload_n 1, 1) := by decide +kernel
theorem dX8_wipe_11 : decode cX8_wipe 11 = .ok (.ireturn, 1) := by decide +kernel
set_option maxRecDepth 20000 in
theorem ggX8_faultOf_X8_in : GoodIn wsX8_faultOf wsX8_in := goodIn_r _ [7] (by decide +kernel) (by decide +kernel)
set_option maxRecDepth 20000 in
theorem gX8_faultOf_X8_in : GoodIn wsX8_faultOf (va_wsS RX8 57 yX8_in wsX8_in) := goodIn_app (goodIn_of _ (by decide +kernel)) ggX8_faultOf_X8_in
theorem dX8_faultOf_0 : decode cX8_faultOf 0 = .ok (.iconst 0, 1) := by decide +kernel
theorem dX8_faultOf_1 : decode cX8_faultOf 1 = .ok (.istore_n 1, 1) := by decide +kernel
theorem dX8_faultOf_2 : decode cX8_faultOf 2 = .ok (.iconst 0, 1) := by decide +kernel
theorem dX8_faultOf_3 : decode cX8_faultOf 3 = .ok (.istore_n 2, 1) := by decide +kernel
theorem dX8_faultOf_4 : decode cX8_faultOf 4 = .ok (.iconst 0, 1) := by decide +kernel
theorem dX8_faultOf_5 : decode cX8_faultOf 5 = .ok (.istore_n 3, 1) := by decide +kernel
theorem dX8_faultOf_6 : decode cX8_faultOf 6 = .ok (.iconst 0, 1) := by decide +kernel
theorem dX8_faultOf_7 : decode cX8_faultOf 7 = .ok (.istore 4, 2) := by decide +kernel
theorem dX8_faultOf_9 : decode cX8_faultOf 9 = .ok (.iconst 0, 1) := by decide +kernel
theorem dX8_faultOf_10 : decode cX8_faultOf 10 = .ok (.istore 5, 2) := by decide +kernel
theorem dX8_faultOf_12 : decode cX8_faultOf 12 = .ok (.iload 5, 2) := by decide +kernel
theorem dX8_faultOf_14 : decode cX8_faultOf 14 = .ok (.aload_n 0, 1) := by decide +kernel
theorem dX8_faultOf_15 : decode cX8_faultOf 15 = .ok (.getfield 61, 3) := by decide +kernel
theorem dX8_faultOf_18 : decode cX8_faultOf 18 = .ok (.if_icmp .ge 183, 3) := by decide +kernel
theorem dX8_faultOf_21 : decode cX8_faultOf 21 = .ok (.aload_n 0, 1) := by decide +kernel
theorem dX8_faultOf_22 : decode cX8_faultOf 22 = .ok (.getfield 28, 3) := by decide +kernel
theorem dX8_faultOf_25 : decode cX8_faultOf 25 = .ok (.iload 5, 2) := by decide +kernel
theorem dX8_faultOf_27 : decode cX8_faultOf 27 = .ok (.iaload, 1) := by decide +kernel
theorem dX8_faultOf_28 : decode cX8_faultOf 28 = .ok (.istore 6, 2) := by decide +kernel
theorem dX8_faultOf_30 : decode cX8_faultOf 30 = .ok (.iload 6, 2) := by decide +kernel
theorem dX8_faultOf_32 : decode cX8_faultOf 32 = .ok (.bipush 46, 2) := by decide +kernel
theorem dX8_faultOf_34 : decode cX8_faultOf 34 = .ok (.if_icmp .ne 18, 3) := by decide +kernel
theorem dX8_faultOf_37 : decode cX8_faultOf 37 = .ok (.iload_n 1, 1) := by decide +kernel
theorem dX8_faultOf_38 : decode cX8_faultOf 38 = .ok (.bipush 12, 2) := by decide +kernel
theorem dX8_faultOf_40 : decode cX8_faultOf 40 = .ok (.if_icmp .ne 6, 3) := by decide +kernel
theorem dX8_faultOf_43 : decode cX8_faultOf 43 = .ok (.iload 5, 2) := by decide +kernel
theorem dX8_faultOf_45 : decode cX8_faultOf 45 = .ok (.ireturn, 1) := by decide +kernel
theorem dX8_faultOf_46 : decode cX8_faultOf 46 = .ok (.iinc 1 1, 3) := by decide +kernel
theorem dX8_faultOf_49 : decode cX8_faultOf 49 = .ok (.goto 146, 3) := by decide +kernel
theorem dX8_faultOf_52 : decode cX8_faultOf 52 = .ok (.iload 6, 2) := by decide +kernel
theorem dX8_faultOf_54 : decode cX8_faultOf 54 = .ok (.bipush 65, 2) := by decide +kernel
theorem dX8_faultOf_56 : decode cX8_faultOf 56 = .ok (.bipush 69, 2) := by decide +kernel
theorem dX8_faultOf_58 : decode cX8_faultOf 58 = .ok (.invokestatic 57, 3) := by decide +kernel
theorem dX8_faultOf_61 : decode cX8_faultOf 61 = .ok (.ifCond .eq 47, 3) := by decide +kernel
theorem dX8_faultOf_64 : decode cX8_faultOf 64 = .ok (.iload_n 2, 1) := by decide +kernel
theorem dX8_faultOf_65 : decode cX8_faultOf 65 = .ok (.iload 6, 2) := by decide +kernel
theorem dX8_faultOf_67 : decode cX8_faultOf 67 = .ok (.bipush 65, 2) := by decide +kernel
theorem dX8_faultOf_69 : decode cX8_faultOf 69 = .ok (.isub, 1) := by decide +kernel
theorem dX8_faultOf_70 : decode cX8_faultOf 70 = .ok (.ishr, 1) := by decide +kernel
theorem dX8_faultOf_71 : decode cX8_faultOf 71 = .ok (.iconst 1, 1) := by decide +kernel
theorem dX8_faultOf_72 : decode cX8_faultOf 72 = .ok (.iand, 1) := by decide +kernel
theorem dX8_faultOf_73 : decode cX8_faultOf 73 = .ok (.iconst 1, 1) := by decide +kernel
theorem dX8_faultOf_74 : decode cX8_faultOf 74 = .ok (.if_icmp .ne 6, 3) := by decide +kernel
theorem dX8_faultOf_77 : decode cX8_faultOf 77 = .ok (.iload 5, 2) := by decide +kernel
theorem dX8_faultOf_79 : decode cX8_faultOf 79 = .ok (.ireturn, 1) := by decide +kernel
theorem dX8_faultOf_80 : decode cX8_faultOf 80 = .ok (.iload_n 2, 1) := by decide +kernel
theorem dX8_faultOf_81 : decode cX8_faultOf 81 = .ok (.iconst 1, 1) := by decide +kernel
theorem dX8_faultOf_82 : decode cX8_faultOf 82 = .ok (.iload 6, 2) := by decide +kernel
theorem dX8_faultOf_84 : decode cX8_faultOf 84 = .ok (.bipush 65, 2) := by decide +kernel
theorem dX8_faultOf_86 : decode cX8_faultOf 86 = .ok (.isub, 1) := by decide +kernel
theorem dX8_faultOf_87 : decode cX8_faultOf 87 = .ok (.ishl, 1) := by decide +kernel
theorem dX8_faultOf_88 : decode cX8_faultOf 88 = .ok (.ior, 1) := by decide +kernel
theorem dX8_faultOf_89 : decode cX8_faultOf 89 = .ok (.istore_n 2, 1) := by decide +kernel
theorem dX8_faultOf_90 : decode cX8_faultOf 90 = .ok (.aload_n 0, 1) := by decide +kernel
theorem dX8_faultOf_91 : decode cX8_faultOf 91 = .ok (.getfield 31, 3) := by decide +kernel
theorem dX8_faultOf_94 : decode cX8_faultOf 94 = .ok (.iload 4, 2) := by decide +kernel
theorem dX8_faultOf_96 : decode cX8_faultOf 96 = .ok (.iload 6, 2) := by decide +kernel
theorem dX8_faultOf_98 : decode cX8_faultOf 98 = .ok (.bipush 65, 2) := by decide +kernel
theorem dX8_faultOf_100 : decode cX8_faultOf 100 = .ok (.isub, 1) := by decide +kernel
theorem dX8_faultOf_101 : decode cX8_faultOf 101 = .ok (.iastore, 1) := by decide +kernel
theorem dX8_faultOf_102 : decode cX8_faultOf 102 = .ok (.iinc 4 1, 3) := by decide +kernel
theorem dX8_faultOf_105 : decode cX8_faultOf 105 = .ok (.goto 90, 3) := by decide +kernel
theorem dX8_faultOf_108 : decode cX8_faultOf 108 = .ok (.iload 6, 2) := by decide +kernel
theorem dX8_faultOf_110 : decode cX8_faultOf 110 = .ok (.bipush 97, 2) := by decide +kernel
theorem dX8_faultOf_112 : decode cX8_faultOf 112 = .ok (.bipush 101, 2) := by decide +kernel
theorem dX8_faultOf_114 : decode cX8_faultOf 114 = .ok (.invokestatic 57, 3) := by decide +kernel
theorem dX8_faultOf_117 : decode cX8_faultOf 117 = .ok (.ifCond .eq 34, 3) := by decide +kernel
theorem dX8_faultOf_120 : decode cX8_faultOf 120 = .ok (.iload 4, 2) := by decide +kernel
theorem dX8_faultOf_122 : decode cX8_faultOf 122 = .ok (.ifCond .eq 20, 3) := by decide +kernel
theorem dX8_faultOf_125 : decode cX8_faultOf 125 = .ok (.aload_n 0, 1) := by decide +kernel
theorem dX8_faultOf_126 : decode cX8_faultOf 126 = .ok (.getfield 31, 3) := by decide +kernel
theorem dX8_faultOf_129 : decode cX8_faultOf 129 = .ok (.iload 4, 2) := by decide +kernel
theorem dX8_faultOf_131 : decode cX8_faultOf 131 = .ok (.iconst 1, 1) := by decide +kernel
theorem dX8_faultOf_132 : decode cX8_faultOf 132 = .ok (.isub, 1) := by decide +kernel
theorem dX8_faultOf_133 : decode cX8_faultOf 133 = .ok (.iaload, 1) := by decide +kernel
theorem dX8_faultOf_134 : decode cX8_faultOf 134 = .ok (.iload 6, 2) := by decide +kernel
theorem dX8_faultOf_136 : decode cX8_faultOf 136 = .ok (.bipush 97, 2) := by decide +kernel
theorem dX8_faultOf_138 : decode cX8_faultOf 138 = .ok (.isub, 1) := by decide +kernel
theorem dX8_faultOf_139 : decode cX8_faultOf 139 = .ok (.if_icmp .eq 6, 3) := by decide +kernel
theorem dX8_faultOf_142 : decode cX8_faultOf 142 = .ok (.iload 5, 2) := by decide +kernel
theorem dX8_faultOf_144 : decode cX8_faultOf 144 = .ok (.ireturn, 1) := by decide +kernel
theorem dX8_faultOf_145 : decode cX8_faultOf 145 = .ok (.iinc 4 (-1), 3) := by decide +kernel
theorem dX8_faultOf_148 : decode cX8_faultOf 148 = .ok (.goto 47, 3) := by decide +kernel
theorem dX8_faultOf_151 : decode cX8_faultOf 151 = .ok (.iload 6, 2) := by decide +kernel
theorem dX8_faultOf_153 : decode cX8_faultOf 153 = .ok (.bipush 120, 2) := by decide +kernel
theorem dX8_faultOf_155 : decode cX8_faultOf 155 = .ok (.bipush 122, 2) := by decide +kernel
theorem dX8_faultOf_157 : decode cX8_faultOf 157 = .ok (.invokestatic 57, 3) := by decide +kernel
theorem dX8_faultOf_160 : decode cX8_faultOf 160 = .ok (.ifCond .eq 32, 3) := by decide +kernel
theorem dX8_faultOf_163 : decode cX8_faultOf 163 = .ok (.iload_n 3, 1) := by decide +kernel
theorem dX8_faultOf_164 : decode cX8_faultOf 164 = .ok (.iload 6, 2) := by decide +kernel
theorem dX8_faultOf_166 : decode cX8_faultOf 166 = .ok (.bipush 120, 2) := by decide +kernel
theorem dX8_faultOf_168 : decode cX8_faultOf 168 = .ok (.isub, 1) := by decide +kernel
theorem dX8_faultOf_169 : decode cX8_faultOf 169 = .ok (.ishr, 1) := by decide +kernel
theorem dX8_faultOf_170 : decode cX8_faultOf 170 = .ok (.iconst 1, 1) := by decide +kernel
theorem dX8_faultOf_171 : decode cX8_faultOf 171 = .ok (.iand, 1) := by decide +kernel
theorem dX8_faultOf_172 : decode cX8_faultOf 172 = .ok (.iconst 1, 1) := by decide +kernel
theorem dX8_faultOf_173 : decode cX8_faultOf 173 = .ok (.if_icmp .ne 6, 3) := by decide +kernel
theorem dX8_faultOf_176 : decode cX8_faultOf 176 = .ok (.iload 5, 2) := by decide +kernel
theorem dX8_faultOf_178 : decode cX8_faultOf 178 = .ok (.ireturn, 1) := by decide +kernel
theorem dX8_faultOf_179 : decode cX8_faultOf 179 = .ok (.iload_n 3, 1) := by decide +kernel
theorem dX8_faultOf_180 : decode cX8_faultOf 180 = .ok (.iconst 1, 1) := by decide +kernel
theorem dX8_faultOf_181 : decode cX8_faultOf 181 = .ok (.iload 6, 2) := by decide +kernel
theorem dX8_faultOf_183 : decode cX8_faultOf 183 = .ok (.bipush 120, 2) := by decide +kernel
theorem dX8_faultOf_185 : decode cX8_faultOf 185 = .ok (.isub, 1) := by decide +kernel
theorem dX8_faultOf_186 : decode cX8_faultOf 186 = .ok (.ishl, 1) := by decide +kernel
theorem dX8_faultOf_187 : decode cX8_faultOf 187 = .ok (.ior, 1) := by decide +kernel
theorem dX8_faultOf_188 : decode cX8_faultOf 188 = .ok (.istore_n 3, 1) := by decide +kernel
theorem dX8_faultOf_189 : decode cX8_faultOf 189 = .ok (.goto 6, 3) := by decide +kernel
theorem dX8_faultOf_192 : decode cX8_faultOf 192 = .ok (.iload 5, 2) := by decide +kernel
theorem dX8_faultOf_194 : decode cX8_faultOf 194 = .ok (.ireturn, 1) := by decide +kernel
theorem dX8_faultOf_195 : decode cX8_faultOf 195 = .ok (.iinc 5 1, 3) := by decide +kernel
theorem dX8_faultOf_198 : decode cX8_faultOf 198 = .ok (.goto (-186), 3) := by decide +kernel
theorem dX8_faultOf_201 : decode cX8_faultOf 201 = .ok (.iload 4, 2) := by decide +kernel
theorem dX8_faultOf_203 : decode cX8_faultOf 203 = .ok (.ifCond .le 10, 3) := by decide +kernel
theorem dX8_faultOf_206 : decode cX8_faultOf 206 = .ok (.aload_n 0, 1) := by decide +kernel
theorem dX8_faultOf_207 : decode cX8_faultOf 207 = .ok (.getfield 61, 3) := by decide +kernel
theorem dX8_faultOf_210 : decode cX8_faultOf 210 = .ok (.goto 5, 3) := by decide +kernel
theorem dX8_faultOf_213 : decode cX8_faultOf 213 = .ok (.bipush (-6), 2) := by decide +kernel
theorem dX8_faultOf_215 : decode cX8_faultOf 215 = .ok (.ireturn, 1) := by decide +kernel
set_option maxRecDepth 20000 in
theorem ggX8_fault_X8_faultOf : GoodIn wsX8_fault wsX8_faultOf := goodIn_r _ [5, 6, 7, 8, 9, 10, 4, 11, 12, 13, 14, 15, 16, 17, 18, 19, 20, 21, 22, 23, 24, 25, 26, 27, 28, 29, 30, 31, 32, 33] (by decide +kernel) (by decide +kernel)
set_option maxRecDepth 20000 in
theorem gX8_fault_X8_faultOf : GoodIn wsX8_fault (wsV RX8 65 RX8 yX8_faultOf wsX8_faultOf) := goodIn_app (goodIn_of _ (by decide +kernel)) ggX8_fault_X8_faultOf
theorem dX8_fault_0 : decode cX8_fault 0 = .ok (.aload_n 0, 1) := by decide +kernel
theorem dX8_fault_1 : decode cX8_fault 1 = .ok (.invokevirtual 65, 3) := by decide +kernel
theorem dX8_fault_4 : decode cX8_fault 4 = .ok (.ireturn, 1) := by decide +kernel
theorem dX8_unlink_0 : decode cX8_unlink 0 = .ok (.iconst 0, 1) := by decide +kernel
theorem dX8_unlink_1 : decode cX8_unlink 1 = .ok (.istore_n 1, 1) := by decide +kernel
theorem dX8_unlink_2 : decode cX8_unlink 2 = .ok (.iload_n 1, 1) := by decide +kernel
theorem dX8_unlink_3 : decode cX8_unlink 3 = .ok (.bipush 12, 2) := by decide +kernel
theorem dX8_unlink_5 : decode cX8_unlink 5 = .ok (.if_icmp .ge 16, 3) := by decide +kernel
theorem dX8_unlink_8 : decode cX8_unlink 8 = .ok (.aload_n 0, 1) := by decide +kernel
theorem dX8_unlink_9 : decode cX8_unlink 9 = .ok (.getfield 25, 3) := by decide +kernel
theorem dX8_unlink_12 : decode cX8_unlink 12 = .ok (.iload_n 1, 1) := by decide +kernel
theorem dX8_unlink_13 : decode cX8_unlink 13 = .ok (.iconst 0, 1) := by decide +kernel
theorem dX8_unlink_14 : decode cX8_unlink 14 = .ok (.iastore, 1) := by decide +kernel
theorem dX8_unlink_15 : decode cX8_unlink 15 = .ok (.iinc 1 1, 3) := by decide +kernel
theorem dX8_unlink_18 : decode cX8_unlink 18 = .ok (.goto (-16), 3) := by decide +kernel
theorem dX8_unlink_21 : decode cX8_unlink 21 = .ok (.return_, 1) := by decide +kernel
set_option maxRecDepth 20000 in
theorem ggX8_load_X8_faultOf : GoodIn wsX8_load wsX8_faultOf := goodIn_r _ [14, 6, 7, 15, 16, 17, 13, 18, 24, 25, 26, 27, 28, 29, 30, 31, 32, 33, 34, 35, 36, 37, 38, 39, 40, 41, 42, 43, 44, 45] (by decide +kernel) (by decide +kernel)
set_option maxRecDepth 20000 in
theorem gX8_load_X8_faultOf : GoodIn wsX8_load (wsV RX8 65 RX8 yX8_faultOf wsX8_faultOf) := goodIn_app (goodIn_of _ (by decide +kernel)) ggX8_load_X8_faultOf
set_option maxRecDepth 20000 in
theorem ggX8_load_X8_in : GoodIn wsX8_load wsX8_in := goodIn_r _ [18] (by decide +kernel) (by decide +kernel)
set_option maxRecDepth 20000 in
theorem gX8_load_X8_in : GoodIn wsX8_load (va_wsS RX8 57 yX8_in wsX8_in) := goodIn_app (goodIn_of _ (by decide +kernel)) ggX8_load_X8_in
set_option maxRecDepth 20000 in
theorem ggX8_load_X8_unlink : GoodIn wsX8_load wsX8_unlink := goodIn_r _ [22, 23, 24, 25, 26, 27, 28, 29, 30, 31, 32, 33, 34, 35, 36, 37, 38, 39, 40, 41, 42, 43, 44, 45] (by decide +kernel) (by decide +kernel)
set_option maxRecDepth 20000 in
theorem gX8_load_X8_unlink : GoodIn wsX8_load (wsV RX8 75 RX8 yX8_unlink wsX8_unlink) := goodIn_app (goodIn_of _ (by decide +kernel)) ggX8_load_X8_unlink
theorem dX8_load_0 : decode cX8_load 0 = .ok (.aload_n 0, 1) := by decide +kernel
theorem dX8_load_1 : decode cX8_load 1 = .ok (.invokevirtual 65, 3) := by decide +kernel
theorem dX8_load_4 : decode cX8_load 4 = .ok (.ifCond .lt 6, 3) := by decide +kernel
theorem dX8_load_7 : decode cX8_load 7 = .ok (.bipush (-5), 2) := by decide +kernel
theorem dX8_load_9 : decode cX8_load 9 = .ok (.ireturn, 1) := by decide +kernel
theorem dX8_load_10 : decode cX8_load 10 = .ok (.aload_n 0, 1) := by decide +kernel
theorem dX8_load_11 : decode cX8_load 11 = .ok (.iconst 0, 1) := by decide +kernel
theorem dX8_load_12 : decode cX8_load 12 = .ok (.putfield 69, 3) := by decide +kernel
theorem dX8_load_15 : decode cX8_load 15 = .ok (.aload_n 0, 1) := by decide +kernel
theorem dX8_load_16 : decode cX8_load 16 = .ok (.iconst 0, 1) := by decide +kernel
theorem dX8_load_17 : decode cX8_load 17 = .ok (.putfield 72, 3) := by decide +kernel
theorem dX8_load_20 : decode cX8_load 20 = .ok (.iconst 0, 1) := by decide +kernel
theorem dX8_load_21 : decode cX8_load 21 = .ok (.istore_n 1, 1) := by decide +kernel
theorem dX8_load_22 : decode cX8_load 22 = .ok (.iload_n 1, 1) := by decide +kernel
theorem dX8_load_23 : decode cX8_load 23 = .ok (.iconst 5, 1) := by decide +kernel
theorem dX8_load_24 : decode cX8_load 24 = .ok (.if_icmp .ge 24, 3) := by decide +kernel
theorem dX8_load_27 : decode cX8_load 27 = .ok (.aload_n 0, 1) := by decide +kernel
theorem dX8_load_28 : decode cX8_load 28 = .ok (.getfield 7, 3) := by decide +kernel
theorem dX8_load_31 : decode cX8_load 31 = .ok (.iload_n 1, 1) := by decide +kernel
theorem dX8_load_32 : decode cX8_load 32 = .ok (.bipush (-6), 2) := by decide +kernel
theorem dX8_load_34 : decode cX8_load 34 = .ok (.iastore, 1) := by decide +kernel
theorem dX8_load_35 : decode cX8_load 35 = .ok (.aload_n 0, 1) := by decide +kernel
theorem dX8_load_36 : decode cX8_load 36 = .ok (.getfield 16, 3) := by decide +kernel
theorem dX8_load_39 : decode cX8_load 39 = .ok (.iload_n 1, 1) := by decide +kernel
theorem dX8_load_40 : decode cX8_load 40 = .ok (.iconst 0, 1) := by decide +kernel
theorem dX8_load_41 : decode cX8_load 41 = .ok (.iastore, 1) := by decide +kernel
theorem dX8_load_42 : decode cX8_load 42 = .ok (.iinc 1 1, 3) := by decide +kernel
theorem dX8_load_45 : decode cX8_load 45 = .ok (.goto (-23), 3) := by decide +kernel
theorem dX8_load_48 : decode cX8_load 48 = .ok (.iconst 0, 1) := by decide +kernel
theorem dX8_load_49 : decode cX8_load 49 = .ok (.istore_n 1, 1) := by decide +kernel
theorem dX8_load_50 : decode cX8_load 50 = .ok (.iload_n 1, 1) := by decide +kernel
theorem dX8_load_51 : decode cX8_load 51 = .ok (.iconst 3, 1) := by decide +kernel
theorem dX8_load_52 : decode cX8_load 52 = .ok (.if_icmp .ge 17, 3) := by decide +kernel
theorem dX8_load_55 : decode cX8_load 55 = .ok (.aload_n 0, 1) := by decide +kernel
theorem dX8_load_56 : decode cX8_load 56 = .ok (.getfield 19, 3) := by decide +kernel
theorem dX8_load_59 : decode cX8_load 59 = .ok (.iload_n 1, 1) := by decide +kernel
theorem dX8_load_60 : decode cX8_load 60 = .ok (.bipush (-6), 2) := by decide +kernel
theorem dX8_load_62 : decode cX8_load 62 = .ok (.iastore, 1) := by decide +kernel
theorem dX8_load_63 : decode cX8_load 63 = .ok (.iinc 1 1, 3) := by decide +kernel
theorem dX8_load_66 : decode cX8_load 66 = .ok (.goto (-16), 3) := by decide +kernel
theorem dX8_load_69 : decode cX8_load 69 = .ok (.iconst 0, 1) := by decide +kernel
theorem dX8_load_70 : decode cX8_load 70 = .ok (.istore_n 1, 1) := by decide +kernel
theorem dX8_load_71 : decode cX8_load 71 = .ok (.iconst 0, 1) := by decide +kernel
theorem dX8_load_72 : decode cX8_load 72 = .ok (.istore_n 2, 1) := by decide +kernel
theorem dX8_load_73 : decode cX8_load 73 = .ok (.iload_n 2, 1) := by decide +kernel
theorem dX8_load_74 : decode cX8_load 74 = .ok (.aload_n 0, 1) := by decide +kernel
theorem dX8_load_75 : decode cX8_load 75 = .ok (.getfield 61, 3) := by decide +kernel
theorem dX8_load_78 : decode cX8_load 78 = .ok (.if_icmp .ge 190, 3) := by decide +kernel
theorem dX8_load_81 : decode cX8_load 81 = .ok (.aload_n 0, 1) := by decide +kernel
theorem dX8_load_82 : decode cX8_load 82 = .ok (.getfield 28, 3) := by decide +kernel
theorem dX8_load_85 : decode cX8_load 85 = .ok (.iload_n 2, 1) := by decide +kernel
theorem dX8_load_86 : decode cX8_load 86 = .ok (.iaload, 1) := by decide +kernel
theorem dX8_load_87 : decode cX8_load 87 = .ok (.istore_n 3, 1) := by decide +kernel
theorem dX8_load_88 : decode cX8_load 88 = .ok (.iload_n 3, 1) := by decide +kernel
theorem dX8_load_89 : decode cX8_load 89 = .ok (.bipush 46, 2) := by decide +kernel
theorem dX8_load_91 : decode cX8_load 91 = .ok (.if_icmp .ne 16, 3) := by decide +kernel
theorem dX8_load_94 : decode cX8_load 94 = .ok (.aload_n 0, 1) := by decide +kernel
theorem dX8_load_95 : decode cX8_load 95 = .ok (.dup, 1) := by decide +kernel
theorem dX8_load_96 : decode cX8_load 96 = .ok (.getfield 69, 3) := by decide +kernel
theorem dX8_load_99 : decode cX8_load 99 = .ok (.iconst 1, 1) := by decide +kernel
theorem dX8_load_100 : decode cX8_load 100 = .ok (.iadd, 1) := by decide +kernel
theorem dX8_load_101 : decode cX8_load 101 = .ok (.putfield 69, 3) := by decide +kernel
theorem dX8_load_104 : decode cX8_load 104 = .ok (.goto 158, 3) := by decide +kernel
theorem dX8_load_107 : decode cX8_load 107 = .ok (.iload_n 3, 1) := by decide +kernel
theorem dX8_load_108 : decode cX8_load 108 = .ok (.bipush 65, 2) := by decide +kernel
theorem dX8_load_110 : decode cX8_load 110 = .ok (.bipush 69, 2) := by decide +kernel
theorem dX8_load_112 : decode cX8_load 112 = .ok (.invokestatic 57, 3) := by decide +kernel
theorem dX8_load_115 : decode cX8_load 115 = .ok (.ifCond .eq 73, 3) := by decide +kernel
theorem dX8_load_118 : decode cX8_load 118 = .ok (.iconst 0, 1) := by decide +kernel
theorem dX8_load_119 : decode cX8_load 119 = .ok (.istore 4, 2) := by decide +kernel
theorem dX8_load_121 : decode cX8_load 121 = .ok (.iload 4, 2) := by decide +kernel
theorem dX8_load_123 : decode cX8_load 123 = .ok (.iconst 5, 1) := by decide +kernel
theorem dX8_load_124 : decode cX8_load 124 = .ok (.if_icmp .ge 39, 3) := by decide +kernel
theorem dX8_load_127 : decode cX8_load 127 = .ok (.aload_n 0, 1) := by decide +kernel
theorem dX8_load_128 : decode cX8_load 128 = .ok (.getfield 16, 3) := by decide +kernel
theorem dX8_load_131 : decode cX8_load 131 = .ok (.iload 4, 2) := by decide +kernel
theorem dX8_load_133 : decode cX8_load 133 = .ok (.dup2, 1) := by decide +kernel
theorem dX8_load_134 : decode cX8_load 134 = .ok (.iaload, 1) := by decide +kernel
theorem dX8_load_135 : decode cX8_load 135 = .ok (.iload_n 1, 1) := by decide +kernel
theorem dX8_load_136 : decode cX8_load 136 = .ok (.iload 4, 2) := by decide +kernel
theorem dX8_load_138 : decode cX8_load 138 = .ok (.ishr, 1) := by decide +kernel
theorem dX8_load_139 : decode cX8_load 139 = .ok (.iconst 1, 1) := by decide +kernel
theorem dX8_load_140 : decode cX8_load 140 = .ok (.iand, 1) := by decide +kernel
theorem dX8_load_141 : decode cX8_load 141 = .ok (.iconst 1, 1) := by decide +kernel
theorem dX8_load_142 : decode cX8_load 142 = .ok (.if_icmp .ne 12, 3) := by decide +kernel
theorem dX8_load_145 : decode cX8_load 145 = .ok (.iconst 1, 1) := by decide +kernel
theorem dX8_load_146 : decode cX8_load 146 = .ok (.iload_n 3, 1) := by decide +kernel
theorem dX8_load_147 : decode cX8_load 147 = .ok (.bipush 65, 2) := by decide +kernel
theorem dX8_load_149 : decode cX8_load 149 = .ok (.isub, 1) := by decide +kernel
theorem dX8_load_150 : decode cX8_load 150 = .ok (.ishl, 1) := by decide +kernel
theorem dX8_load_151 : decode cX8_load 151 = .ok (.goto 4, 3) := by decide +kernel
theorem dX8_load_154 : decode cX8_load 154 = .ok (.iconst 0, 1) := by decide +kernel
theorem dX8_load_155 : decode cX8_load 155 = .ok (.ior, 1) := by decide +kernel
theorem dX8_load_156 : decode cX8_load 156 = .ok (.iastore, 1) := by decide +kernel
theorem dX8_load_157 : decode cX8_load 157 = .ok (.iinc 4 1, 3) := by decide +kernel
theorem dX8_load_160 : decode cX8_load 160 = .ok (.goto (-39), 3) := by decide +kernel
theorem dX8_load_163 : decode cX8_load 163 = .ok (.aload_n 0, 1) := by decide +kernel
theorem dX8_load_164 : decode cX8_load 164 = .ok (.getfield 7, 3) := by decide +kernel
theorem dX8_load_167 : decode cX8_load 167 = .ok (.iload_n 3, 1) := by decide +kernel
theorem dX8_load_168 : decode cX8_load 168 = .ok (.bipush 65, 2) := by decide +kernel
theorem dX8_load_170 : decode cX8_load 170 = .ok (.isub, 1) := by decide +kernel
theorem dX8_load_171 : decode cX8_load 171 = .ok (.aload_n 0, 1) := by decide +kernel
theorem dX8_load_172 : decode cX8_load 172 = .ok (.getfield 69, 3) := by decide +kernel
theorem dX8_load_175 : decode cX8_load 175 = .ok (.iastore, 1) := by decide +kernel
theorem dX8_load_176 : decode cX8_load 176 = .ok (.iload_n 1, 1) := by decide +kernel
theorem dX8_load_177 : decode cX8_load 177 = .ok (.iconst 1, 1) := by decide +kernel
theorem dX8_load_178 : decode cX8_load 178 = .ok (.iload_n 3, 1) := by decide +kernel
theorem dX8_load_179 : decode cX8_load 179 = .ok (.bipush 65, 2) := by decide +kernel
theorem dX8_load_181 : decode cX8_load 181 = .ok (.isub, 1) := by decide +kernel
theorem dX8_load_182 : decode cX8_load 182 = .ok (.ishl, 1) := by decide +kernel
theorem dX8_load_183 : decode cX8_load 183 = .ok (.ior, 1) := by decide +kernel
theorem dX8_load_184 : decode cX8_load 184 = .ok (.istore_n 1, 1) := by decide +kernel
theorem dX8_load_185 : decode cX8_load 185 = .ok (.goto 77, 3) := by decide +kernel
theorem dX8_load_188 : decode cX8_load 188 = .ok (.iload_n 3, 1) := by decide +kernel
theorem dX8_load_189 : decode cX8_load 189 = .ok (.bipush 97, 2) := by decide +kernel
theorem dX8_load_191 : decode cX8_load 191 = .ok (.bipush 101, 2) := by decide +kernel
theorem dX8_load_193 : decode cX8_load 193 = .ok (.invokestatic 57, 3) := by decide +kernel
theorem dX8_load_196 : decode cX8_load 196 = .ok (.ifCond .eq 30, 3) := by decide +kernel
theorem dX8_load_199 : decode cX8_load 199 = .ok (.aload_n 0, 1) := by decide +kernel
theorem dX8_load_200 : decode cX8_load 200 = .ok (.getfield 13, 3) := by decide +kernel
theorem dX8_load_203 : decode cX8_load 203 = .ok (.iload_n 3, 1) := by decide +kernel
theorem dX8_load_204 : decode cX8_load 204 = .ok (.bipush 97, 2) := by decide +kernel
theorem dX8_load_206 : decode cX8_load 206 = .ok (.isub, 1) := by decide +kernel
theorem dX8_load_207 : decode cX8_load 207 = .ok (.aload_n 0, 1) := by decide +kernel
theorem dX8_load_208 : decode cX8_load 208 = .ok (.getfield 69, 3) := by decide +kernel
theorem dX8_load_211 : decode cX8_load 211 = .ok (.iastore, 1) := by decide +kernel
theorem dX8_load_212 : decode cX8_load 212 = .ok (.iload_n 1, 1) := by decide +kernel
theorem dX8_load_213 : decode cX8_load 213 = .ok (.iconst 1, 1) := by decide +kernel
theorem dX8_load_214 : decode cX8_load 214 = .ok (.iload_n 3, 1) := by decide +kernel
theorem dX8_load_215 : decode cX8_load 215 = .ok (.bipush 97, 2) := by decide +kernel
theorem dX8_load_217 : decode cX8_load 217 = .ok (.isub, 1) := by decide +kernel
theorem dX8_load_218 : decode cX8_load 218 = .ok (.ishl, 1) := by decide +kernel
theorem dX8_load_219 : decode cX8_load 219 = .ok (.iconst (-1), 1) := by decide +kernel
theorem dX8_load_220 : decode cX8_load 220 = .ok (.ixor, 1) := by decide +kernel
theorem dX8_load_221 : decode cX8_load 221 = .ok (.iand, 1) := by decide +kernel
theorem dX8_load_222 : decode cX8_load 222 = .ok (.istore_n 1, 1) := by decide +kernel
theorem dX8_load_223 : decode cX8_load 223 = .ok (.goto 39, 3) := by decide +kernel
theorem dX8_load_226 : decode cX8_load 226 = .ok (.aload_n 0, 1) := by decide +kernel
theorem dX8_load_227 : decode cX8_load 227 = .ok (.getfield 19, 3) := by decide +kernel
theorem dX8_load_230 : decode cX8_load 230 = .ok (.iload_n 3, 1) := by decide +kernel
theorem dX8_load_231 : decode cX8_load 231 = .ok (.bipush 120, 2) := by decide +kernel
theorem dX8_load_233 : decode cX8_load 233 = .ok (.isub, 1) := by decide +kernel
theorem dX8_load_234 : decode cX8_load 234 = .ok (.aload_n 0, 1) := by decide +kernel
theorem dX8_load_235 : decode cX8_load 235 = .ok (.getfield 69, 3) := by decide +kernel
theorem dX8_load_238 : decode cX8_load 238 = .ok (.iastore, 1) := by decide +kernel
theorem dX8_load_239 : decode cX8_load 239 = .ok (.aload_n 0, 1) := by decide +kernel
theorem dX8_load_240 : decode cX8_load 240 = .ok (.getfield 22, 3) := by decide +kernel
theorem dX8_load_243 : decode cX8_load 243 = .ok (.aload_n 0, 1) := by decide +kernel
theorem dX8_load_244 : decode cX8_load 244 = .ok (.getfield 72, 3) := by decide +kernel
theorem dX8_load_247 : decode cX8_load 247 = .ok (.iload_n 3, 1) := by decide +kernel
theorem dX8_load_248 : decode cX8_load 248 = .ok (.bipush 120, 2) := by decide +kernel
theorem dX8_load_250 : decode cX8_load 250 = .ok (.isub, 1) := by decide +kernel
theorem dX8_load_251 : decode cX8_load 251 = .ok (.iastore, 1) := by decide +kernel
theorem dX8_load_252 : decode cX8_load 252 = .ok (.aload_n 0, 1) := by decide +kernel
theorem dX8_load_253 : decode cX8_load 253 = .ok (.dup, 1) := by decide +kernel
theorem dX8_load_254 : decode cX8_load 254 = .ok (.getfield 72, 3) := by decide +kernel
theorem dX8_load_257 : decode cX8_load 257 = .ok (.iconst 1, 1) := by decide +kernel
theorem dX8_load_258 : decode cX8_load 258 = .ok (.iadd, 1) := by decide +kernel
theorem dX8_load_259 : decode cX8_load 259 = .ok (.putfield 72, 3) := by decide +kernel
theorem dX8_load_262 : decode cX8_load 262 = .ok (.iinc 2 1, 3) := by decide +kernel
theorem dX8_load_265 : decode cX8_load 265 = .ok (.goto (-192), 3) := by decide +kernel
theorem dX8_load_268 : decode cX8_load 268 = .ok (.aload_n 0, 1) := by decide +kernel
theorem dX8_load_269 : decode cX8_load 269 = .ok (.invokevirtual 75, 3) := by decide +kernel
theorem dX8_load_272 : decode cX8_load 272 = .ok (.aload_n 0, 1) := by decide +kernel
theorem dX8_load_273 : decode cX8_load 273 = .ok (.iconst 0, 1) := by decide +kernel
theorem dX8_load_274 : decode cX8_load 274 = .ok (.putfield 61, 3) := by decide +kernel
theorem dX8_load_277 : decode cX8_load 277 = .ok (.aload_n 0, 1) := by decide +kernel
theorem dX8_load_278 : decode cX8_load 278 = .ok (.getfield 69, 3) := by decide +kernel
theorem dX8_load_281 : decode cX8_load 281 = .ok (.ireturn, 1) := by decide +kernel
set_option maxRecDepth 20000 in
theorem ggX8_target_X8_in : GoodIn wsX8_target wsX8_in := goodIn_r _ [5] (by decide +kernel) (by decide +kernel)
set_option maxRecDepth 20000 in
theorem gX8_target_X8_in : GoodIn wsX8_target (va_wsS RX8 57 yX8_in wsX8_in) := goodIn_app (goodIn_of _ (by decide +kernel)) ggX8_target_X8_in
set_option maxRecDepth 20000 in
theorem ggX8_target_X8_unlink : GoodIn wsX8_target wsX8_unlink := goodIn_r _ [9, 10, 11, 12, 13, 14, 15, 16, 17, 18, 19, 20, 21, 22, 23, 24, 25, 26, 27, 28, 29, 30, 31, 32] (by decide +kernel) (by decide +kernel)
set_option maxRecDepth 20000 in
theorem gX8_target_X8_unlink : GoodIn wsX8_target (wsV RX8 75 RX8 yX8_unlink wsX8_unlink) := goodIn_app (goodIn_of _ (by decide +kernel)) ggX8_target_X8_unlink
theorem dX8_target_0 : decode cX8_target 0 = .ok (.iload_n 1, 1) := by decide +kernel
theorem dX8_target_1 : decode cX8_target 1 = .ok (.iconst 0, 1) := by decide +kernel
theorem dX8_target_2 : decode cX8_target 2 = .ok (.bipush 8, 2) := by decide +kernel
theorem dX8_target_4 : decode cX8_target 4 = .ok (.invokestatic 57, 3) := by decide +kernel
theorem dX8_target_7 : decode cX8_target 7 = .ok (.ifCond .ne 6, 3) := by decide +kernel
theorem dX8_target_10 : decode cX8_target 10 = .ok (.bipush (-2), 2) := by decide +kernel
theorem dX8_target_12 : decode cX8_target 12 = .ok (.ireturn, 1) := by decide +kernel
theorem dX8_target_13 : decode cX8_target 13 = .ok (.aload_n 0, 1) := by decide +kernel
theorem dX8_target_14 : decode cX8_target 14 = .ok (.getfield 78, 3) := by decide +kernel
theorem dX8_target_17 : decode cX8_target 17 = .ok (.istore_n 2, 1) := by decide +kernel
theorem dX8_target_18 : decode cX8_target 18 = .ok (.aload_n 0, 1) := by decide +kernel
theorem dX8_target_19 : decode cX8_target 19 = .ok (.iload_n 1, 1) := by decide +kernel
theorem dX8_target_20 : decode cX8_target 20 = .ok (.putfield 78, 3) := by decide +kernel
theorem dX8_target_23 : decode cX8_target 23 = .ok (.aload_n 0, 1) := by decide +kernel
theorem dX8_target_24 : decode cX8_target 24 = .ok (.invokevirtual 75, 3) := by decide +kernel
theorem dX8_target_27 : decode cX8_target 27 = .ok (.iload_n 2, 1) := by decide +kernel
theorem dX8_target_28 : decode cX8_target 28 = .ok (.ireturn, 1) := by decide +kernel
set_option maxRecDepth 20000 in
theorem ggX8_link_X8_in : GoodIn wsX8_link wsX8_in := goodIn_r _ [7] (by decide +kernel) (by decide +kernel)
set_option maxRecDepth 20000 in
theorem gX8_link_X8_in : GoodIn wsX8_link (va_wsS RX8 57 yX8_in wsX8_in) := goodIn_app (goodIn_of _ (by decide +kernel)) ggX8_link_X8_in
theorem dX8_link_0 : decode cX8_link 0 = .ok (.iload_n 1, 1) := by decide +kernel
theorem dX8_link_1 : decode cX8_link 1 = .ok (.iconst 0, 1) := by decide +kernel
theorem dX8_link_2 : decode cX8_link 2 = .ok (.aload_n 0, 1) := by decide +kernel
theorem dX8_link_3 : decode cX8_link 3 = .ok (.getfield 69, 3) := by decide +kernel
theorem dX8_link_6 : decode cX8_link 6 = .ok (.iconst 1, 1) := by decide +kernel
theorem dX8_link_7 : decode cX8_link 7 = .ok (.isub, 1) := by decide +kernel
theorem dX8_link_8 : decode cX8_link 8 = .ok (.invokestatic 57, 3) := by decide +kernel
theorem dX8_link_11 : decode cX8_link 11 = .ok (.ifCond .eq 17, 3) := by decide +kernel
theorem dX8_link_14 : decode cX8_link 14 = .ok (.iload_n 2, 1) := by decide +kernel
theorem dX8_link_15 : decode cX8_link 15 = .ok (.iconst 0, 1) := by decide +kernel
theorem dX8_link_16 : decode cX8_link 16 = .ok (.aload_n 0, 1) := by decide +kernel
theorem dX8_link_17 : decode cX8_link 17 = .ok (.getfield 78, 3) := by decide +kernel
theorem dX8_link_20 : decode cX8_link 20 = .ok (.iconst 1, 1) := by decide +kernel
theorem dX8_link_21 : decode cX8_link 21 = .ok (.isub, 1) := by decide +kernel
theorem dX8_link_22 : decode cX8_link 22 = .ok (.invokestatic 57, 3) := by decide +kernel
theorem dX8_link_25 : decode cX8_link 25 = .ok (.ifCond .ne 5, 3) := by decide +kernel
theorem dX8_link_28 : decode cX8_link 28 = .ok (.iconst (-1), 1) := by decide +kernel
theorem dX8_link_29 : decode cX8_link 29 = .ok (.ireturn, 1) := by decide +kernel
theorem dX8_link_30 : decode cX8_link 30 = .ok (.aload_n 0, 1) := by decide +kernel
theorem dX8_link_31 : decode cX8_link 31 = .ok (.getfield 25, 3) := by decide +kernel
theorem dX8_link_34 : decode cX8_link 34 = .ok (.iload_n 1, 1) := by decide +kernel
theorem dX8_link_35 : decode cX8_link 35 = .ok (.dup2, 1) := by decide +kernel
theorem dX8_link_36 : decode cX8_link 36 = .ok (.iaload, 1) := by decide +kernel
theorem dX8_link_37 : decode cX8_link 37 = .ok (.iconst 1, 1) := by decide +kernel
theorem dX8_link_38 : decode cX8_link 38 = .ok (.iload_n 2, 1) := by decide +kernel
theorem dX8_link_39 : decode cX8_link 39 = .ok (.ishl, 1) := by decide +kernel
theorem dX8_link_40 : decode cX8_link 40 = .ok (.ixor, 1) := by decide +kernel
theorem dX8_link_41 : decode cX8_link 41 = .ok (.iastore, 1) := by decide +kernel
theorem dX8_link_42 : decode cX8_link 42 = .ok (.aload_n 0, 1) := by decide +kernel
theorem dX8_link_43 : decode cX8_link 43 = .ok (.getfield 25, 3) := by decide +kernel
theorem dX8_link_46 : decode cX8_link 46 = .ok (.iload_n 1, 1) := by decide +kernel
theorem dX8_link_47 : decode cX8_link 47 = .ok (.iaload, 1) := by decide +kernel
theorem dX8_link_48 : decode cX8_link 48 = .ok (.iload_n 2, 1) := by decide +kernel
theorem dX8_link_49 : decode cX8_link 49 = .ok (.ishr, 1) := by decide +kernel
theorem dX8_link_50 : decode cX8_link 50 = .ok (.iconst 1, 1) := by decide +kernel
theorem dX8_link_51 : decode cX8_link 51 = .ok (.iand, 1) := by decide +kernel
theorem dX8_link_52 : decode cX8_link 52 = .ok (.ireturn, 1) := by decide +kernel
set_option maxRecDepth 20000 in
theorem ggX8_isThere_X8_in : GoodIn wsX8_isThere wsX8_in := goodIn_r _ [5] (by decide +kernel) (by decide +kernel)
set_option maxRecDepth 20000 in
theorem gX8_isThere_X8_in : GoodIn wsX8_isThere (va_wsS RX8 57 yX8_in wsX8_in) := goodIn_app (goodIn_of _ (by decide +kernel)) ggX8_isThere_X8_in
theorem dX8_isThere_0 : decode cX8_isThere 0 = .ok (.iload_n 1, 1) := by decide +kernel
theorem dX8_isThere_1 : decode cX8_isThere 1 = .ok (.iconst 0, 1) := by decide +kernel
theorem dX8_isThere_2 : decode cX8_isThere 2 = .ok (.iconst 4, 1) := by decide +kernel
theorem dX8_isThere_3 : decode cX8_isThere 3 = .ok (.invokestatic 57, 3) := by decide +kernel
theorem dX8_isThere_6 : decode cX8_isThere 6 = .ok (.ifCond .eq 16, 3) := by decide +kernel
theorem dX8_isThere_9 : decode cX8_isThere 9 = .ok (.aload_n 0, 1) := by decide +kernel
theorem dX8_isThere_10 : decode cX8_isThere 10 = .ok (.getfield 7, 3) := by decide +kernel
theorem dX8_isThere_13 : decode cX8_isThere 13 = .ok (.iload_n 1, 1) := by decide +kernel
theorem dX8_isThere_14 : decode cX8_isThere 14 = .ok (.iaload, 1) := by decide +kernel
theorem dX8_isThere_15 : decode cX8_isThere 15 = .ok (.ifCond .lt 7, 3) := by decide +kernel
theorem dX8_isThere_18 : decode cX8_isThere 18 = .ok (.iconst 1, 1) := by decide +kernel
theorem dX8_isThere_19 : decode cX8_isThere 19 = .ok (.goto 4, 3) := by decide +kernel
theorem dX8_isThere_22 : decode cX8_isThere 22 = .ok (.iconst 0, 1) := by decide +kernel
theorem dX8_isThere_23 : decode cX8_isThere 23 = .ok (.ireturn, 1) := by decide +kernel
theorem dX8_anchor_0 : decode cX8_anchor 0 = .ok (.iload_n 1, 1) := by decide +kernel
theorem dX8_anchor_1 : decode cX8_anchor 1 = .ok (.iconst 1, 1) := by decide +kernel
theorem dX8_anchor_2 : decode cX8_anchor 2 = .ok (.isub, 1) := by decide +kernel
theorem dX8_anchor_3 : decode cX8_anchor 3 = .ok (.istore_n 2, 1) := by decide +kernel
theorem dX8_anchor_4 : decode cX8_anchor 4 = .ok (.iload_n 2, 1) := by decide +kernel
theorem dX8_anchor_5 : decode cX8_anchor 5 = .ok (.ifCond .lt 44, 3) := by decide +kernel
theorem dX8_anchor_8 : decode cX8_anchor 8 = .ok (.aload_n 0, 1) := by decide +kernel
theorem dX8_anchor_9 : decode cX8_anchor 9 = .ok (.getfield 78, 3) := by decide +kernel
theorem dX8_anchor_12 : decode cX8_anchor 12 = .ok (.iconst 1, 1) := by decide +kernel
theorem dX8_anchor_13 : decode cX8_anchor 13 = .ok (.isub, 1) := by decide +kernel
theorem dX8_anchor_14 : decode cX8_anchor 14 = .ok (.istore_n 3, 1) := by decide +kernel
theorem dX8_anchor_15 : decode cX8_anchor 15 = .ok (.iload_n 3, 1) := by decide +kernel
theorem dX8_anchor_16 : decode cX8_anchor 16 = .ok (.ifCond .lt 27, 3) := by decide +kernel
theorem dX8_anchor_19 : decode cX8_anchor 19 = .ok (.aload_n 0, 1) := by decide +kernel
theorem dX8_anchor_20 : decode cX8_anchor 20 = .ok (.getfield 25, 3) := by decide +kernel
theorem dX8_anchor_23 : decode cX8_anchor 23 = .ok (.iload_n 2, 1) := by decide +kernel
theorem dX8_anchor_24 : decode cX8_anchor 24 = .ok (.iaload, 1) := by decide +kernel
theorem dX8_anchor_25 : decode cX8_anchor 25 = .ok (.iload_n 3, 1) := by decide +kernel
theorem dX8_anchor_26 : decode cX8_anchor 26 = .ok (.ishr, 1) := by decide +kernel
theorem dX8_anchor_27 : decode cX8_anchor 27 = .ok (.iconst 1, 1) := by decide +kernel
theorem dX8_anchor_28 : decode cX8_anchor 28 = .ok (.iand, 1) := by decide +kernel
theorem dX8_anchor_29 : decode cX8_anchor 29 = .ok (.iconst 1, 1) := by decide +kernel
theorem dX8_anchor_30 : decode cX8_anchor 30 = .ok (.if_icmp .ne 7, 3) := by decide +kernel
theorem dX8_anchor_33 : decode cX8_anchor 33 = .ok (.iload_n 3, 1) := by decide +kernel
theorem dX8_anchor_34 : decode cX8_anchor 34 = .ok (.iconst 1, 1) := by decide +kernel
theorem dX8_anchor_35 : decode cX8_anchor 35 = .ok (.iadd, 1) := by decide +kernel
theorem dX8_anchor_36 : decode cX8_anchor 36 = .ok (.ireturn, 1) := by decide +kernel
theorem dX8_anchor_37 : decode cX8_anchor 37 = .ok (.iinc 3 (-1), 3) := by decide +kernel
theorem dX8_anchor_40 : decode cX8_anchor 40 = .ok (.goto (-25), 3) := by decide +kernel
theorem dX8_anchor_43 : decode cX8_anchor 43 = .ok (.iinc 2 (-1), 3) := by decide +kernel
theorem dX8_anchor_46 : decode cX8_anchor 46 = .ok (.goto (-42), 3) := by decide +kernel
theorem dX8_anchor_49 : decode cX8_anchor 49 = .ok (.iconst 0, 1) := by decide +kernel
theorem dX8_anchor_50 : decode cX8_anchor 50 = .ok (.ireturn, 1) := by decide +kernel
theorem dX8_linksOf_0 : decode cX8_linksOf 0 = .ok (.iconst 0, 1) := by decide +kernel
theorem dX8_linksOf_1 : decode cX8_linksOf 1 = .ok (.istore_n 2, 1) := by decide +kernel
theorem dX8_linksOf_2 : decode cX8_linksOf 2 = .ok (.aload_n 0, 1) := by decide +kernel
theorem dX8_linksOf_3 : decode cX8_linksOf 3 = .ok (.getfield 7, 3) := by decide +kernel
theorem dX8_linksOf_6 : decode cX8_linksOf 6 = .ok (.iload_n 1, 1) := by decide +kernel
theorem dX8_linksOf_7 : decode cX8_linksOf 7 = .ok (.iaload, 1) := by decide +kernel
theorem dX8_linksOf_8 : decode cX8_linksOf 8 = .ok (.istore_n 3, 1) := by decide +kernel
theorem dX8_linksOf_9 : decode cX8_linksOf 9 = .ok (.iload_n 3, 1) := by decide +kernel
theorem dX8_linksOf_10 : decode cX8_linksOf 10 = .ok (.aload_n 0, 1) := by decide +kernel
theorem dX8_linksOf_11 : decode cX8_linksOf 11 = .ok (.getfield 13, 3) := by decide +kernel
theorem dX8_linksOf_14 : decode cX8_linksOf 14 = .ok (.iload_n 1, 1) := by decide +kernel
theorem dX8_linksOf_15 : decode cX8_linksOf 15 = .ok (.iaload, 1) := by decide +kernel
theorem dX8_linksOf_16 : decode cX8_linksOf 16 = .ok (.if_icmp .ge 18, 3) := by decide +kernel
theorem dX8_linksOf_19 : decode cX8_linksOf 19 = .ok (.iload_n 2, 1) := by decide +kernel
theorem dX8_linksOf_20 : decode cX8_linksOf 20 = .ok (.aload_n 0, 1) := by decide +kernel
theorem dX8_linksOf_21 : decode cX8_linksOf 21 = .ok (.getfield 25, 3) := by decide +kernel
theorem dX8_linksOf_24 : decode cX8_linksOf 24 = .ok (.iload_n 3, 1) := by decide +kernel
theorem dX8_linksOf_25 : decode cX8_linksOf 25 = .ok (.iaload, 1) := by decide +kernel
theorem dX8_linksOf_26 : decode cX8_linksOf 26 = .ok (.ior, 1) := by decide +kernel
theorem dX8_linksOf_27 : decode cX8_linksOf 27 = .ok (.istore_n 2, 1) := by decide +kernel
theorem dX8_linksOf_28 : decode cX8_linksOf 28 = .ok (.iinc 3 1, 3) := by decide +kernel
theorem dX8_linksOf_31 : decode cX8_linksOf 31 = .ok (.goto (-22), 3) := by decide +kernel
theorem dX8_linksOf_34 : decode cX8_linksOf 34 = .ok (.iload_n 2, 1) := by decide +kernel
theorem dX8_linksOf_35 : decode cX8_linksOf 35 = .ok (.ireturn, 1) := by decide +kernel
set_option maxRecDepth 20000 in
theorem ggX8_wantedFrom_X8_linksOf : GoodIn wsX8_wantedFrom wsX8_linksOf := goodIn_r _ [6, 1, 7, 8, 14, 15, 16, 17, 18, 19, 20, 21, 22, 23, 24, 25, 26, 27, 28, 29, 30, 31, 32, 33, 34, 35] (by decide +kernel) (by decide +kernel)
set_option maxRecDepth 20000 in
theorem gX8_wantedFrom_X8_linksOf : GoodIn wsX8_wantedFrom (wsV RX8 81 RX8 yX8_linksOf wsX8_linksOf) := goodIn_app (goodIn_of _ (by decide +kernel)) ggX8_wantedFrom_X8_linksOf
set_option maxRecDepth 20000 in
theorem ggX8_wantedFrom_X8_anchor : GoodIn wsX8_wantedFrom wsX8_anchor := goodIn_r _ [12, 13, 8, 14, 15, 16, 17, 18, 19, 20, 21, 22, 23, 24, 25, 26, 27, 28, 29, 30, 31, 32, 33, 34, 35] (by decide +kernel) (by decide +kernel)
set_option maxRecDepth 20000 in
theorem gX8_wantedFrom_X8_anchor : GoodIn wsX8_wantedFrom (wsV RX8 85 RX8 yX8_anchor wsX8_anchor) := goodIn_app (goodIn_of _ (by decide +kernel)) ggX8_wantedFrom_X8_anchor
theorem dX8_wantedFrom_0 : decode cX8_wantedFrom 0 = .ok (.aload_n 0, 1) := by decide +kernel
theorem dX8_wantedFrom_1 : decode cX8_wantedFrom 1 = .ok (.iload_n 1, 1) := by decide +kernel
theorem dX8_wantedFrom_2 : decode cX8_wantedFrom 2 = .ok (.invokevirtual 81, 3) := by decide +kernel
theorem dX8_wantedFrom_5 : decode cX8_wantedFrom 5 = .ok (.istore_n 2, 1) := by decide +kernel
theorem dX8_wantedFrom_6 : decode cX8_wantedFrom 6 = .ok (.iload_n 2, 1) := by decide +kernel
theorem dX8_wantedFrom_7 : decode cX8_wantedFrom 7 = .ok (.ifCond .ne 14, 3) := by decide +kernel
theorem dX8_wantedFrom_10 : decode cX8_wantedFrom 10 = .ok (.aload_n 0, 1) := by decide +kernel
theorem dX8_wantedFrom_11 : decode cX8_wantedFrom 11 = .ok (.aload_n 0, 1) := by decide +kernel
theorem dX8_wantedFrom_12 : decode cX8_wantedFrom 12 = .ok (.getfield 7, 3) := by decide +kernel
theorem dX8_wantedFrom_15 : decode cX8_wantedFrom 15 = .ok (.iload_n 1, 1) := by decide +kernel
theorem dX8_wantedFrom_16 : decode cX8_wantedFrom 16 = .ok (.iaload, 1) := by decide +kernel
theorem dX8_wantedFrom_17 : decode cX8_wantedFrom 17 = .ok (.invokevirtual 85, 3) := by decide +kernel
theorem dX8_wantedFrom_20 : decode cX8_wantedFrom 20 = .ok (.ireturn, 1) := by decide +kernel
theorem dX8_wantedFrom_21 : decode cX8_wantedFrom 21 = .ok (.iconst 0, 1) := by decide +kernel
theorem dX8_wantedFrom_22 : decode cX8_wantedFrom 22 = .ok (.istore_n 3, 1) := by decide +kernel
theorem dX8_wantedFrom_23 : decode cX8_wantedFrom 23 = .ok (.iload_n 2, 1) := by decide +kernel
theorem dX8_wantedFrom_24 : decode cX8_wantedFrom 24 = .ok (.iload_n 3, 1) := by decide +kernel
theorem dX8_wantedFrom_25 : decode cX8_wantedFrom 25 = .ok (.ishr, 1) := by decide +kernel
theorem dX8_wantedFrom_26 : decode cX8_wantedFrom 26 = .ok (.iconst 1, 1) := by decide +kernel
theorem dX8_wantedFrom_27 : decode cX8_wantedFrom 27 = .ok (.iand, 1) := by decide +kernel
theorem dX8_wantedFrom_28 : decode cX8_wantedFrom 28 = .ok (.ifCond .ne 9, 3) := by decide +kernel
theorem dX8_wantedFrom_31 : decode cX8_wantedFrom 31 = .ok (.iinc 3 1, 3) := by decide +kernel
theorem dX8_wantedFrom_34 : decode cX8_wantedFrom 34 = .ok (.goto (-11), 3) := by decide +kernel
theorem dX8_wantedFrom_37 : decode cX8_wantedFrom 37 = .ok (.iload_n 3, 1) := by decide +kernel
theorem dX8_wantedFrom_38 : decode cX8_wantedFrom 38 = .ok (.ireturn, 1) := by decide +kernel
set_option maxRecDepth 20000 in
theorem ggX8_wantedTo_X8_linksOf : GoodIn wsX8_wantedTo wsX8_linksOf := goodIn_r _ [7, 1, 8, 9, 14, 15, 16, 17, 18, 19, 20, 21, 22, 23, 24, 25, 26, 27, 28, 29, 30, 31, 32, 33, 34, 35] (by decide +kernel) (by decide +kernel)
set_option maxRecDepth 20000 in
theorem gX8_wantedTo_X8_linksOf : GoodIn wsX8_wantedTo (wsV RX8 81 RX8 yX8_linksOf wsX8_linksOf) := goodIn_app (goodIn_of _ (by decide +kernel)) ggX8_wantedTo_X8_linksOf
set_option maxRecDepth 20000 in
theorem ggX8_wantedTo_X8_anchor : GoodIn wsX8_wantedTo wsX8_anchor := goodIn_r _ [13, 2, 9, 14, 15, 16, 17, 18, 19, 20, 21, 22, 23, 24, 25, 26, 27, 28, 29, 30, 31, 32, 33, 34, 35] (by decide +kernel) (by decide +kernel)
set_option maxRecDepth 20000 in
theorem gX8_wantedTo_X8_anchor : GoodIn wsX8_wantedTo (wsV RX8 85 RX8 yX8_anchor wsX8_anchor) := goodIn_app (goodIn_of _ (by decide +kernel)) ggX8_wantedTo_X8_anchor
theorem dX8_wantedTo_0 : decode cX8_wantedTo 0 = .ok (.aload_n 0, 1) := by decide +kernel
theorem dX8_wantedTo_1 : decode cX8_wantedTo 1 = .ok (.iload_n 1, 1) := by decide +kernel
theorem dX8_wantedTo_2 : decode cX8_wantedTo 2 = .ok (.invokevirtual 81, 3) := by decide +kernel
theorem dX8_wantedTo_5 : decode cX8_wantedTo 5 = .ok (.istore_n 2, 1) := by decide +kernel
theorem dX8_wantedTo_6 : decode cX8_wantedTo 6 = .ok (.iload_n 2, 1) := by decide +kernel
theorem dX8_wantedTo_7 : decode cX8_wantedTo 7 = .ok (.ifCond .ne 14, 3) := by decide +kernel
theorem dX8_wantedTo_10 : decode cX8_wantedTo 10 = .ok (.aload_n 0, 1) := by decide +kernel
theorem dX8_wantedTo_11 : decode cX8_wantedTo 11 = .ok (.aload_n 0, 1) := by decide +kernel
theorem dX8_wantedTo_12 : decode cX8_wantedTo 12 = .ok (.getfield 7, 3) := by decide +kernel
theorem dX8_wantedTo_15 : decode cX8_wantedTo 15 = .ok (.iload_n 1, 1) := by decide +kernel
theorem dX8_wantedTo_16 : decode cX8_wantedTo 16 = .ok (.iaload, 1) := by decide +kernel
theorem dX8_wantedTo_17 : decode cX8_wantedTo 17 = .ok (.invokevirtual 85, 3) := by decide +kernel
theorem dX8_wantedTo_20 : decode cX8_wantedTo 20 = .ok (.ireturn, 1) := by decide +kernel
theorem dX8_wantedTo_21 : decode cX8_wantedTo 21 = .ok (.aload_n 0, 1) := by decide +kernel
theorem dX8_wantedTo_22 : decode cX8_wantedTo 22 = .ok (.getfield 78, 3) := by decide +kernel
theorem dX8_wantedTo_25 : decode cX8_wantedTo 25 = .ok (.istore_n 3, 1) := by decide +kernel
theorem dX8_wantedTo_26 : decode cX8_wantedTo 26 = .ok (.iload_n 2, 1) := by decide +kernel
theorem dX8_wantedTo_27 : decode cX8_wantedTo 27 = .ok (.iload_n 3, 1) := by decide +kernel
theorem dX8_wantedTo_28 : decode cX8_wantedTo 28 = .ok (.iconst 1, 1) := by decide +kernel
theorem dX8_wantedTo_29 : decode cX8_wantedTo 29 = .ok (.isub, 1) := by decide +kernel
theorem dX8_wantedTo_30 : decode cX8_wantedTo 30 = .ok (.ishr, 1) := by decide +kernel
theorem dX8_wantedTo_31 : decode cX8_wantedTo 31 = .ok (.iconst 1, 1) := by decide +kernel
theorem dX8_wantedTo_32 : decode cX8_wantedTo 32 = .ok (.iand, 1) := by decide +kernel
theorem dX8_wantedTo_33 : decode cX8_wantedTo 33 = .ok (.ifCond .ne 9, 3) := by decide +kernel
theorem dX8_wantedTo_36 : decode cX8_wantedTo 36 = .ok (.iinc 3 (-1), 3) := by decide +kernel
theorem dX8_wantedTo_39 : decode cX8_wantedTo 39 = .ok (.goto (-13), 3) := by decide +kernel
theorem dX8_wantedTo_42 : decode cX8_wantedTo 42 = .ok (.iload_n 3, 1) := by decide +kernel
theorem dX8_wantedTo_43 : decode cX8_wantedTo 43 = .ok (.ireturn, 1) := by decide +kernel
set_option maxRecDepth 20000 in
theorem ggX8_costOf_X8_wantedFrom : GoodIn wsX8_costOf wsX8_wantedFrom := goodIn_r _ [5, 6, 7, 8, 9, 4, 10, 11, 12, 13, 14, 15, 16, 17, 28, 29, 30, 31, 32, 33, 34, 35, 36, 37, 38, 39, 40, 41, 42, 43, 44, 45, 46, 47, 48, 49] (by decide +kernel) (by decide +kernel)
set_option maxRecDepth 20000 in
theorem gX8_costOf_X8_wantedFrom : GoodIn wsX8_costOf (wsV RX8 88 RX8 yX8_wantedFrom wsX8_wantedFrom) := goodIn_app (goodIn_of _ (by decide +kernel)) ggX8_costOf_X8_wantedFrom
set_option maxRecDepth 20000 in
theorem ggX8_costOf_X8_wantedTo : GoodIn wsX8_costOf wsX8_wantedTo := goodIn_r _ [21, 6, 17, 7, 8, 9, 4, 10, 11, 12, 13, 14, 15, 16, 28, 29, 30, 31, 32, 33, 34, 35, 36, 37, 38, 39, 40, 41, 42, 43, 44, 45, 46, 47, 48, 49] (by decide +kernel) (by decide +kernel)
set_option maxRecDepth 20000 in
theorem gX8_costOf_X8_wantedTo : GoodIn wsX8_costOf (wsV RX8 91 RX8 yX8_wantedTo wsX8_wantedTo) := goodIn_app (goodIn_of _ (by decide +kernel)) ggX8_costOf_X8_wantedTo
set_option maxRecDepth 20000 in
theorem ggX8_costOf_X8_off : GoodIn wsX8_costOf wsX8_off := goodIn_r _ [24] (by decide +kernel) (by decide +kernel)
set_option maxRecDepth 20000 in
theorem gX8_costOf_X8_off : GoodIn wsX8_costOf (va_wsS RX8 94 yX8_off wsX8_off) := goodIn_app (goodIn_of _ (by decide +kernel)) ggX8_costOf_X8_off
set_option maxRecDepth 20000 in
theorem ggX8_costOf_X8_greater : GoodIn wsX8_costOf wsX8_greater := goodIn_r _ [27] (by decide +kernel) (by decide +kernel)
set_option maxRecDepth 20000 in
theorem gX8_costOf_X8_greater : GoodIn wsX8_costOf (va_wsS RX8 98 yX8_greater wsX8_greater) := goodIn_app (goodIn_of _ (by decide +kernel)) ggX8_costOf_X8_greater
theorem dX8_costOf_0 : decode cX8_costOf 0 = .ok (.aload_n 0, 1) := by decide +kernel
theorem dX8_costOf_1 : decode cX8_costOf 1 = .ok (.iload_n 1, 1) := by decide +kernel
theorem dX8_costOf_2 : decode cX8_costOf 2 = .ok (.invokevirtual 88, 3) := by decide +kernel
theorem dX8_costOf_5 : decode cX8_costOf 5 = .ok (.istore 4, 2) := by decide +kernel
theorem dX8_costOf_7 : decode cX8_costOf 7 = .ok (.aload_n 0, 1) := by decide +kernel
theorem dX8_costOf_8 : decode cX8_costOf 8 = .ok (.iload_n 1, 1) := by decide +kernel
theorem dX8_costOf_9 : decode cX8_costOf 9 = .ok (.invokevirtual 91, 3) := by decide +kernel
theorem dX8_costOf_12 : decode cX8_costOf 12 = .ok (.istore 5, 2) := by decide +kernel
theorem dX8_costOf_14 : decode cX8_costOf 14 = .ok (.iload 4, 2) := by decide +kernel
theorem dX8_costOf_16 : decode cX8_costOf 16 = .ok (.iload_n 2, 1) := by decide +kernel
theorem dX8_costOf_17 : decode cX8_costOf 17 = .ok (.invokestatic 94, 3) := by decide +kernel
theorem dX8_costOf_20 : decode cX8_costOf 20 = .ok (.iload 5, 2) := by decide +kernel
theorem dX8_costOf_22 : decode cX8_costOf 22 = .ok (.iload_n 3, 1) := by decide +kernel
theorem dX8_costOf_23 : decode cX8_costOf 23 = .ok (.invokestatic 94, 3) := by decide +kernel
theorem dX8_costOf_26 : decode cX8_costOf 26 = .ok (.iadd, 1) := by decide +kernel
theorem dX8_costOf_27 : decode cX8_costOf 27 = .ok (.istore 6, 2) := by decide +kernel
theorem dX8_costOf_29 : decode cX8_costOf 29 = .ok (.iload_n 1, 1) := by decide +kernel
theorem dX8_costOf_30 : decode cX8_costOf 30 = .ok (.iconst 4, 1) := by decide +kernel
theorem dX8_costOf_31 : decode cX8_costOf 31 = .ok (.if_icmp .ne 21, 3) := by decide +kernel
theorem dX8_costOf_34 : decode cX8_costOf 34 = .ok (.iconst 2, 1) := by decide +kernel
theorem dX8_costOf_35 : decode cX8_costOf 35 = .ok (.iload 4, 2) := by decide +kernel
theorem dX8_costOf_37 : decode cX8_costOf 37 = .ok (.iload_n 2, 1) := by decide +kernel
theorem dX8_costOf_38 : decode cX8_costOf 38 = .ok (.invokestatic 94, 3) := by decide +kernel
theorem dX8_costOf_41 : decode cX8_costOf 41 = .ok (.iload 5, 2) := by decide +kernel
theorem dX8_costOf_43 : decode cX8_costOf 43 = .ok (.iload_n 3, 1) := by decide +kernel
theorem dX8_costOf_44 : decode cX8_costOf 44 = .ok (.invokestatic 94, 3) := by decide +kernel
theorem dX8_costOf_47 : decode cX8_costOf 47 = .ok (.invokestatic 98, 3) := by decide +kernel
theorem dX8_costOf_50 : decode cX8_costOf 50 = .ok (.imul, 1) := by decide +kernel
theorem dX8_costOf_51 : decode cX8_costOf 51 = .ok (.ireturn, 1) := by decide +kernel
theorem dX8_costOf_52 : decode cX8_costOf 52 = .ok (.iload 4, 2) := by decide +kernel
theorem dX8_costOf_54 : decode cX8_costOf 54 = .ok (.istore 7, 2) := by decide +kernel
theorem dX8_costOf_56 : decode cX8_costOf 56 = .ok (.iload 7, 2) := by decide +kernel
theorem dX8_costOf_58 : decode cX8_costOf 58 = .ok (.iload 5, 2) := by decide +kernel
theorem dX8_costOf_60 : decode cX8_costOf 60 = .ok (.if_icmp .ge 36, 3) := by decide +kernel
theorem dX8_costOf_63 : decode cX8_costOf 63 = .ok (.iload_n 1, 1) := by decide +kernel
theorem dX8_costOf_64 : decode cX8_costOf 64 = .ok (.iconst 1, 1) := by decide +kernel
theorem dX8_costOf_65 : decode cX8_costOf 65 = .ok (.if_icmp .le 31, 3) := by decide +kernel
theorem dX8_costOf_68 : decode cX8_costOf 68 = .ok (.iload 6, 2) := by decide +kernel
theorem dX8_costOf_70 : decode cX8_costOf 70 = .ok (.iload 7, 2) := by decide +kernel
theorem dX8_costOf_72 : decode cX8_costOf 72 = .ok (.iload_n 2, 1) := by decide +kernel
theorem dX8_costOf_73 : decode cX8_costOf 73 = .ok (.if_icmp .lt 9, 3) := by decide +kernel
theorem dX8_costOf_76 : decode cX8_costOf 76 = .ok (.iload 7, 2) := by decide +kernel
theorem dX8_costOf_78 : decode cX8_costOf 78 = .ok (.iload_n 3, 1) := by decide +kernel
theorem dX8_costOf_79 : decode cX8_costOf 79 = .ok (.if_icmp .lt 7, 3) := by decide +kernel
theorem dX8_costOf_82 : decode cX8_costOf 82 = .ok (.iconst 2, 1) := by decide +kernel
theorem dX8_costOf_83 : decode cX8_costOf 83 = .ok (.goto 4, 3) := by decide +kernel
theorem dX8_costOf_86 : decode cX8_costOf 86 = .ok (.iconst 0, 1) := by decide +kernel
theorem dX8_costOf_87 : decode cX8_costOf 87 = .ok (.iadd, 1) := by decide +kernel
theorem dX8_costOf_88 : decode cX8_costOf 88 = .ok (.istore 6, 2) := by decide +kernel
theorem dX8_costOf_90 : decode cX8_costOf 90 = .ok (.iinc 7 1, 3) := by decide +kernel
theorem dX8_costOf_93 : decode cX8_costOf 93 = .ok (.goto (-37), 3) := by decide +kernel
theorem dX8_costOf_96 : decode cX8_costOf 96 = .ok (.iload 6, 2) := by decide +kernel
theorem dX8_costOf_98 : decode cX8_costOf 98 = .ok (.ireturn, 1) := by decide +kernel
theorem dX8_at_0 : decode cX8_at 0 = .ok (.bipush 81, 2) := by decide +kernel
theorem dX8_at_2 : decode cX8_at 2 = .ok (.iload_n 0, 1) := by decide +kernel
theorem dX8_at_3 : decode cX8_at 3 = .ok (.imul, 1) := by decide +kernel
theorem dX8_at_4 : decode cX8_at 4 = .ok (.bipush 9, 2) := by decide +kernel
theorem dX8_at_6 : decode cX8_at 6 = .ok (.iload_n 1, 1) := by decide +kernel
theorem dX8_at_7 : decode cX8_at 7 = .ok (.imul, 1) := by decide +kernel
theorem dX8_at_8 : decode cX8_at 8 = .ok (.iadd, 1) := by decide +kernel
theorem dX8_at_9 : decode cX8_at 9 = .ok (.iload_n 2, 1) := by decide +kernel
theorem dX8_at_10 : decode cX8_at 10 = .ok (.iadd, 1) := by decide +kernel
theorem dX8_at_11 : decode cX8_at 11 = .ok (.ireturn, 1) := by decide +kernel
theorem dX8_least_0 : decode cX8_least 0 = .ok (.lload_n 0, 1) := by decide +kernel
theorem dX8_least_1 : decode cX8_least 1 = .ok (.lload_n 2, 1) := by decide +kernel
theorem dX8_least_2 : decode cX8_least 2 = .ok (.lcmp, 1) := by decide +kernel
theorem dX8_least_3 : decode cX8_least 3 = .ok (.ifCond .ge 7, 3) := by decide +kernel
theorem dX8_least_6 : decode cX8_least 6 = .ok (.lload_n 0, 1) := by decide +kernel
theorem dX8_least_7 : decode cX8_least 7 = .ok (.goto 4, 3) := by decide +kernel
theorem dX8_least_10 : decode cX8_least 10 = .ok (.lload_n 2, 1) := by decide +kernel
theorem dX8_least_11 : decode cX8_least 11 = .ok (.lreturn, 1) := by decide +kernel
theorem dX8_areApart_0 : decode cX8_areApart 0 = .ok (.iconst 1, 1) := by decide +kernel
theorem dX8_areApart_1 : decode cX8_areApart 1 = .ok (.istore_n 3, 1) := by decide +kernel
theorem dX8_areApart_2 : decode cX8_areApart 2 = .ok (.iconst 0, 1) := by decide +kernel
theorem dX8_areApart_3 : decode cX8_areApart 3 = .ok (.istore 4, 2) := by decide +kernel
theorem dX8_areApart_5 : decode cX8_areApart 5 = .ok (.iload 4, 2) := by decide +kernel
theorem dX8_areApart_7 : decode cX8_areApart 7 = .ok (.iconst 5, 1) := by decide +kernel
theorem dX8_areApart_8 : decode cX8_areApart 8 = .ok (.if_icmp .ge 61, 3) := by decide +kernel
theorem dX8_areApart_11 : decode cX8_areApart 11 = .ok (.iload_n 3, 1) := by decide +kernel
theorem dX8_areApart_12 : decode cX8_areApart 12 = .ok (.ifCond .eq 49, 3) := by decide +kernel
theorem dX8_areApart_15 : decode cX8_areApart 15 = .ok (.iload_n 1, 1) := by decide +kernel
theorem dX8_areApart_16 : decode cX8_areApart 16 = .ok (.iload 4, 2) := by decide +kernel
theorem dX8_areApart_18 : decode cX8_areApart 18 = .ok (.ishr, 1) := by decide +kernel
theorem dX8_areApart_19 : decode cX8_areApart 19 = .ok (.iconst 1, 1) := by decide +kernel
theorem dX8_areApart_20 : decode cX8_areApart 20 = .ok (.iand, 1) := by decide +kernel
theorem dX8_areApart_21 : decode cX8_areApart 21 = .ok (.ifCond .eq 15, 3) := by decide +kernel
theorem dX8_areApart_24 : decode cX8_areApart 24 = .ok (.aload_n 0, 1) := by decide +kernel
theorem dX8_areApart_25 : decode cX8_areApart 25 = .ok (.getfield 16, 3) := by decide +kernel
theorem dX8_areApart_28 : decode cX8_areApart 28 = .ok (.iload 4, 2) := by decide +kernel
theorem dX8_areApart_30 : decode cX8_areApart 30 = .ok (.iaload, 1) := by decide +kernel
theorem dX8_areApart_31 : decode cX8_areApart 31 = .ok (.iload_n 2, 1) := by decide +kernel
theorem dX8_areApart_32 : decode cX8_areApart 32 = .ok (.iand, 1) := by decide +kernel
theorem dX8_areApart_33 : decode cX8_areApart 33 = .ok (.ifCond .ne 28, 3) := by decide +kernel
theorem dX8_areApart_36 : decode cX8_areApart 36 = .ok (.iload_n 2, 1) := by decide +kernel
theorem dX8_areApart_37 : decode cX8_areApart 37 = .ok (.iload 4, 2) := by decide +kernel
theorem dX8_areApart_39 : decode cX8_areApart 39 = .ok (.ishr, 1) := by decide +kernel
theorem dX8_areApart_40 : decode cX8_areApart 40 = .ok (.iconst 1, 1) := by decide +kernel
theorem dX8_areApart_41 : decode cX8_areApart 41 = .ok (.iand, 1) := by decide +kernel
theorem dX8_areApart_42 : decode cX8_areApart 42 = .ok (.ifCond .eq 15, 3) := by decide +kernel
theorem dX8_areApart_45 : decode cX8_areApart 45 = .ok (.aload_n 0, 1) := by decide +kernel
theorem dX8_areApart_46 : decode cX8_areApart 46 = .ok (.getfield 16, 3) := by decide +kernel
theorem dX8_areApart_49 : decode cX8_areApart 49 = .ok (.iload 4, 2) := by decide +kernel
theorem dX8_areApart_51 : decode cX8_areApart 51 = .ok (.iaload, 1) := by decide +kernel
theorem dX8_areApart_52 : decode cX8_areApart 52 = .ok (.iload_n 1, 1) := by decide +kernel
theorem dX8_areApart_53 : decode cX8_areApart 53 = .ok (.iand, 1) := by decide +kernel
theorem dX8_areApart_54 : decode cX8_areApart 54 = .ok (.ifCond .ne 7, 3) := by decide +kernel
theorem dX8_areApart_57 : decode cX8_areApart 57 = .ok (.iconst 1, 1) := by decide +kernel
theorem dX8_areApart_58 : decode cX8_areApart 58 = .ok (.goto 4, 3) := by decide +kernel
theorem dX8_areApart_61 : decode cX8_areApart 61 = .ok (.iconst 0, 1) := by decide +kernel
theorem dX8_areApart_62 : decode cX8_areApart 62 = .ok (.istore_n 3, 1) := by decide +kernel
theorem dX8_areApart_63 : decode cX8_areApart 63 = .ok (.iinc 4 1, 3) := by decide +kernel
theorem dX8_areApart_66 : decode cX8_areApart 66 = .ok (.goto (-61), 3) := by decide +kernel
theorem dX8_areApart_69 : decode cX8_areApart 69 = .ok (.iload_n 3, 1) := by decide +kernel
theorem dX8_areApart_70 : decode cX8_areApart 70 = .ok (.ireturn, 1) := by decide +kernel
theorem dX8_isHeld_0 : decode cX8_isHeld 0 = .ok (.iconst 0, 1) := by decide +kernel
theorem dX8_isHeld_1 : decode cX8_isHeld 1 = .ok (.istore_n 3, 1) := by decide +kernel
theorem dX8_isHeld_2 : decode cX8_isHeld 2 = .ok (.iconst 0, 1) := by decide +kernel
theorem dX8_isHeld_3 : decode cX8_isHeld 3 = .ok (.istore 4, 2) := by decide +kernel
theorem dX8_isHeld_5 : decode cX8_isHeld 5 = .ok (.iload 4, 2) := by decide +kernel
theorem dX8_isHeld_7 : decode cX8_isHeld 7 = .ok (.iconst 5, 1) := by decide +kernel
theorem dX8_isHeld_8 : decode cX8_isHeld 8 = .ok (.if_icmp .ge 44, 3) := by decide +kernel
theorem dX8_isHeld_11 : decode cX8_isHeld 11 = .ok (.iload_n 3, 1) := by decide +kernel
theorem dX8_isHeld_12 : decode cX8_isHeld 12 = .ok (.ifCond .ne 28, 3) := by decide +kernel
theorem dX8_isHeld_15 : decode cX8_isHeld 15 = .ok (.iload_n 2, 1) := by decide +kernel
theorem dX8_isHeld_16 : decode cX8_isHeld 16 = .ok (.iload 4, 2) := by decide +kernel
theorem dX8_isHeld_18 : decode cX8_isHeld 18 = .ok (.ishr, 1) := by decide +kernel
theorem dX8_isHeld_19 : decode cX8_isHeld 19 = .ok (.iconst 1, 1) := by decide +kernel
theorem dX8_isHeld_20 : decode cX8_isHeld 20 = .ok (.iand, 1) := by decide +kernel
theorem dX8_isHeld_21 : decode cX8_isHeld 21 = .ok (.iconst 1, 1) := by decide +kernel
theorem dX8_isHeld_22 : decode cX8_isHeld 22 = .ok (.if_icmp .ne 22, 3) := by decide +kernel
theorem dX8_isHeld_25 : decode cX8_isHeld 25 = .ok (.aload_n 0, 1) := by decide +kernel
theorem dX8_isHeld_26 : decode cX8_isHeld 26 = .ok (.getfield 16, 3) := by decide +kernel
theorem dX8_isHeld_29 : decode cX8_isHeld 29 = .ok (.iload 4, 2) := by decide +kernel
theorem dX8_isHeld_31 : decode cX8_isHeld 31 = .ok (.iaload, 1) := by decide +kernel
theorem dX8_isHeld_32 : decode cX8_isHeld 32 = .ok (.iload_n 1, 1) := by decide +kernel
theorem dX8_isHeld_33 : decode cX8_isHeld 33 = .ok (.ishr, 1) := by decide +kernel
theorem dX8_isHeld_34 : decode cX8_isHeld 34 = .ok (.iconst 1, 1) := by decide +kernel
theorem dX8_isHeld_35 : decode cX8_isHeld 35 = .ok (.iand, 1) := by decide +kernel
theorem dX8_isHeld_36 : decode cX8_isHeld 36 = .ok (.iconst 1, 1) := by decide +kernel
theorem dX8_isHeld_37 : decode cX8_isHeld 37 = .ok (.if_icmp .ne 7, 3) := by decide +kernel
theorem dX8_isHeld_40 : decode cX8_isHeld 40 = .ok (.iconst 1, 1) := by decide +kernel
theorem dX8_isHeld_41 : decode cX8_isHeld 41 = .ok (.goto 4, 3) := by decide +kernel
theorem dX8_isHeld_44 : decode cX8_isHeld 44 = .ok (.iconst 0, 1) := by decide +kernel
theorem dX8_isHeld_45 : decode cX8_isHeld 45 = .ok (.istore_n 3, 1) := by decide +kernel
theorem dX8_isHeld_46 : decode cX8_isHeld 46 = .ok (.iinc 4 1, 3) := by decide +kernel
theorem dX8_isHeld_49 : decode cX8_isHeld 49 = .ok (.goto (-44), 3) := by decide +kernel
theorem dX8_isHeld_52 : decode cX8_isHeld 52 = .ok (.iload_n 3, 1) := by decide +kernel
theorem dX8_isHeld_53 : decode cX8_isHeld 53 = .ok (.ireturn, 1) := by decide +kernel
set_option maxRecDepth 20000 in
theorem ggX8_code_X8_costOf : GoodIn wsX8_code wsX8_costOf := goodIn_r _ [5, 6, 7, 8, 4, 9, 10, 11, 12, 13, 14, 15, 16, 17, 18, 19, 20, 21, 22, 23, 24, 25, 26, 27, 28, 29, 30, 31, 32, 33, 34, 35, 36, 37, 38, 39, 40, 41, 42, 43, 44, 45, 46, 47, 48, 49, 50, 51, 52, 53] (by decide +kernel) (by decide +kernel)
set_option maxRecDepth 20000 in
theorem gX8_code_X8_costOf : GoodIn wsX8_code (wsV RX8 101 RX8 yX8_costOf wsX8_costOf) := goodIn_app (goodIn_of _ (by decide +kernel)) ggX8_code_X8_costOf
theorem dX8_code_0 : decode cX8_code 0 = .ok (.aload_n 0, 1) := by decide +kernel
theorem dX8_code_1 : decode cX8_code 1 = .ok (.iload_n 1, 1) := by decide +kernel
theorem dX8_code_2 : decode cX8_code 2 = .ok (.iload_n 2, 1) := by decide +kernel
theorem dX8_code_3 : decode cX8_code 3 = .ok (.iload_n 3, 1) := by decide +kernel
theorem dX8_code_4 : decode cX8_code 4 = .ok (.invokevirtual 101, 3) := by decide +kernel
theorem dX8_code_7 : decode cX8_code 7 = .ok (.i2l, 1) := by decide +kernel
theorem dX8_code_8 : decode cX8_code 8 = .ok (.bipush 40, 2) := by decide +kernel
theorem dX8_code_10 : decode cX8_code 10 = .ok (.lshl, 1) := by decide +kernel
theorem dX8_code_11 : decode cX8_code 11 = .ok (.bipush 16, 2) := by decide +kernel
theorem dX8_code_13 : decode cX8_code 13 = .ok (.iload_n 2, 1) := by decide +kernel
theorem dX8_code_14 : decode cX8_code 14 = .ok (.imul, 1) := by decide +kernel
theorem dX8_code_15 : decode cX8_code 15 = .ok (.iload_n 3, 1) := by decide +kernel
theorem dX8_code_16 : decode cX8_code 16 = .ok (.iadd, 1) := by decide +kernel
theorem dX8_code_17 : decode cX8_code 17 = .ok (.i2l, 1) := by decide +kernel
theorem dX8_code_18 : decode cX8_code 18 = .ok (.bipush 8, 2) := by decide +kernel
theorem dX8_code_20 : decode cX8_code 20 = .ok (.iconst 4, 1) := by decide +kernel
theorem dX8_code_21 : decode cX8_code 21 = .ok (.iload_n 1, 1) := by decide +kernel
theorem dX8_code_22 : decode cX8_code 22 = .ok (.isub, 1) := by decide +kernel
theorem dX8_code_23 : decode cX8_code 23 = .ok (.imul, 1) := by decide +kernel
theorem dX8_code_24 : decode cX8_code 24 = .ok (.lshl, 1) := by decide +kernel
theorem dX8_code_25 : decode cX8_code 25 = .ok (.ladd, 1) := by decide +kernel
theorem dX8_code_26 : decode cX8_code 26 = .ok (.lreturn, 1) := by decide +kernel
set_option maxRecDepth 20000 in
theorem ggX8_leastOf_X8_areApart : GoodIn wsX8_leastOf wsX8_areApart := goodIn_r _ [7, 8, 53, 54, 55, 56, 57, 58, 59, 60, 61, 62, 63, 64, 65, 66, 67, 68, 69, 70, 71, 72, 73, 74] (by decide +kernel) (by decide +kernel)
set_option maxRecDepth 20000 in
theorem gX8_leastOf_X8_areApart : GoodIn wsX8_leastOf (wsV RX8 107 RX8 yX8_areApart wsX8_areApart) := goodIn_app (goodIn_of _ (by decide +kernel)) ggX8_leastOf_X8_areApart
set_option maxRecDepth 20000 in
theorem ggX8_leastOf_X8_at : GoodIn wsX8_leastOf wsX8_at := goodIn_r _ [11] (by decide +kernel) (by decide +kernel)
set_option maxRecDepth 20000 in
theorem gX8_leastOf_X8_at : GoodIn wsX8_leastOf (va_wsS RX8 111 yX8_at wsX8_at) := goodIn_app (goodIn_of _ (by decide +kernel)) ggX8_leastOf_X8_at
set_option maxRecDepth 20000 in
theorem ggX8_leastOf_X8_least : GoodIn wsX8_leastOf wsX8_least := goodIn_r _ [14] (by decide +kernel) (by decide +kernel)
set_option maxRecDepth 20000 in
theorem gX8_leastOf_X8_least : GoodIn wsX8_leastOf (va_wsS RX8 114 yX8_least wsX8_least) := goodIn_app (goodIn_of _ (by decide +kernel)) ggX8_leastOf_X8_least
set_option maxRecDepth 20000 in
theorem ggX8_leastOf_X8_isHeld : GoodIn wsX8_leastOf wsX8_isHeld := goodIn_r _ [18, 8, 53, 54, 55, 56, 57, 58, 59, 60, 61, 62, 63, 64, 65, 66, 67, 68, 69, 70, 71, 72, 73, 74] (by decide +kernel) (by decide +kernel)
set_option maxRecDepth 20000 in
theorem gX8_leastOf_X8_isHeld : GoodIn wsX8_leastOf (wsV RX8 118 RX8 yX8_isHeld wsX8_isHeld) := goodIn_app (goodIn_of _ (by decide +kernel)) ggX8_leastOf_X8_isHeld
set_option maxRecDepth 20000 in
theorem ggX8_leastOf_X8_code : GoodIn wsX8_leastOf wsX8_code := goodIn_r _ [22, 23, 24, 25, 6, 26, 27, 28, 29, 30, 31, 32, 33, 34, 35, 36, 37, 38, 39, 40, 41, 42, 43, 44, 45, 46, 47, 48, 49, 50, 51, 52, 53, 54, 55, 56, 57, 58, 59, 60, 61, 62, 63, 64, 65, 66, 67, 68, 69, 70, 71, 72, 73, 74] (by decide +kernel) (by decide +kernel)
set_option maxRecDepth 20000 in
theorem gX8_leastOf_X8_code : GoodIn wsX8_leastOf (wsV RX8 121 RX8 yX8_code wsX8_code) := goodIn_app (goodIn_of _ (by decide +kernel)) ggX8_leastOf_X8_code
theorem dX8_leastOf_0 : decode cX8_leastOf 0 = .ok (.ldc2_w 105, 3) := by decide +kernel
theorem dX8_leastOf_3 : decode cX8_leastOf 3 = .ok (.lstore 4, 2) := by decide +kernel
theorem dX8_leastOf_5 : decode cX8_leastOf 5 = .ok (.iconst 1, 1) := by decide +kernel
theorem dX8_leastOf_6 : decode cX8_leastOf 6 = .ok (.istore 6, 2) := by decide +kernel
theorem dX8_leastOf_8 : decode cX8_leastOf 8 = .ok (.iload 6, 2) := by decide +kernel
theorem dX8_leastOf_10 : decode cX8_leastOf 10 = .ok (.iload_n 1, 1) := by decide +kernel
theorem dX8_leastOf_11 : decode cX8_leastOf 11 = .ok (.if_icmp .ge 117, 3) := by decide +kernel
theorem dX8_leastOf_14 : decode cX8_leastOf 14 = .ok (.iload 6, 2) := by decide +kernel
theorem dX8_leastOf_16 : decode cX8_leastOf 16 = .ok (.iload_n 1, 1) := by decide +kernel
theorem dX8_leastOf_17 : decode cX8_leastOf 17 = .ok (.iand, 1) := by decide +kernel
theorem dX8_leastOf_18 : decode cX8_leastOf 18 = .ok (.iload 6, 2) := by decide +kernel
theorem dX8_leastOf_20 : decode cX8_leastOf 20 = .ok (.if_icmp .ne 102, 3) := by decide +kernel
theorem dX8_leastOf_23 : decode cX8_leastOf 23 = .ok (.aload_n 0, 1) := by decide +kernel
theorem dX8_leastOf_24 : decode cX8_leastOf 24 = .ok (.iload 6, 2) := by decide +kernel
theorem dX8_leastOf_26 : decode cX8_leastOf 26 = .ok (.iload_n 1, 1) := by decide +kernel
theorem dX8_leastOf_27 : decode cX8_leastOf 27 = .ok (.iload 6, 2) := by decide +kernel
theorem dX8_leastOf_29 : decode cX8_leastOf 29 = .ok (.iconst (-1), 1) := by decide +kernel
theorem dX8_leastOf_30 : decode cX8_leastOf 30 = .ok (.ixor, 1) := by decide +kernel
theorem dX8_leastOf_31 : decode cX8_leastOf 31 = .ok (.iand, 1) := by decide +kernel
theorem dX8_leastOf_32 : decode cX8_leastOf 32 = .ok (.invokevirtual 107, 3) := by decide +kernel
theorem dX8_leastOf_35 : decode cX8_leastOf 35 = .ok (.ifCond .eq 87, 3) := by decide +kernel
theorem dX8_leastOf_38 : decode cX8_leastOf 38 = .ok (.iload_n 2, 1) := by decide +kernel
theorem dX8_leastOf_39 : decode cX8_leastOf 39 = .ok (.istore 7, 2) := by decide +kernel
theorem dX8_leastOf_41 : decode cX8_leastOf 41 = .ok (.iload 7, 2) := by decide +kernel
theorem dX8_leastOf_43 : decode cX8_leastOf 43 = .ok (.iload_n 3, 1) := by decide +kernel
theorem dX8_leastOf_44 : decode cX8_leastOf 44 = .ok (.if_icmp .gt 78, 3) := by decide +kernel
theorem dX8_leastOf_47 : decode cX8_leastOf 47 = .ok (.aload_n 0, 1) := by decide +kernel
theorem dX8_leastOf_48 : decode cX8_leastOf 48 = .ok (.getfield 34, 3) := by decide +kernel
theorem dX8_leastOf_51 : decode cX8_leastOf 51 = .ok (.iload 6, 2) := by decide +kernel
theorem dX8_leastOf_53 : decode cX8_leastOf 53 = .ok (.iload_n 2, 1) := by decide +kernel
theorem dX8_leastOf_54 : decode cX8_leastOf 54 = .ok (.iload 7, 2) := by decide +kernel
theorem dX8_leastOf_56 : decode cX8_leastOf 56 = .ok (.invokestatic 111, 3) := by decide +kernel
theorem dX8_leastOf_59 : decode cX8_leastOf 59 = .ok (.laload, 1) := by decide +kernel
theorem dX8_leastOf_60 : decode cX8_leastOf 60 = .ok (.lstore 8, 2) := by decide +kernel
theorem dX8_leastOf_62 : decode cX8_leastOf 62 = .ok (.aload_n 0, 1) := by decide +kernel
theorem dX8_leastOf_63 : decode cX8_leastOf 63 = .ok (.getfield 34, 3) := by decide +kernel
theorem dX8_leastOf_66 : decode cX8_leastOf 66 = .ok (.iload_n 1, 1) := by decide +kernel
theorem dX8_leastOf_67 : decode cX8_leastOf 67 = .ok (.iload 6, 2) := by decide +kernel
theorem dX8_leastOf_69 : decode cX8_leastOf 69 = .ok (.iconst (-1), 1) := by decide +kernel
theorem dX8_leastOf_70 : decode cX8_leastOf 70 = .ok (.ixor, 1) := by decide +kernel
theorem dX8_leastOf_71 : decode cX8_leastOf 71 = .ok (.iand, 1) := by decide +kernel
theorem dX8_leastOf_72 : decode cX8_leastOf 72 = .ok (.iload 7, 2) := by decide +kernel
theorem dX8_leastOf_74 : decode cX8_leastOf 74 = .ok (.iload_n 3, 1) := by decide +kernel
theorem dX8_leastOf_75 : decode cX8_leastOf 75 = .ok (.invokestatic 111, 3) := by decide +kernel
theorem dX8_leastOf_78 : decode cX8_leastOf 78 = .ok (.laload, 1) := by decide +kernel
theorem dX8_leastOf_79 : decode cX8_leastOf 79 = .ok (.lstore 10, 2) := by decide +kernel
theorem dX8_leastOf_81 : decode cX8_leastOf 81 = .ok (.lload 8, 2) := by decide +kernel
theorem dX8_leastOf_83 : decode cX8_leastOf 83 = .ok (.ldc2_w 105, 3) := by decide +kernel
theorem dX8_leastOf_86 : decode cX8_leastOf 86 = .ok (.lcmp, 1) := by decide +kernel
theorem dX8_leastOf_87 : decode cX8_leastOf 87 = .ok (.ifCond .ge 25, 3) := by decide +kernel
theorem dX8_leastOf_90 : decode cX8_leastOf 90 = .ok (.lload 10, 2) := by decide +kernel
theorem dX8_leastOf_92 : decode cX8_leastOf 92 = .ok (.ldc2_w 105, 3) := by decide +kernel
theorem dX8_leastOf_95 : decode cX8_leastOf 95 = .ok (.lcmp, 1) := by decide +kernel
theorem dX8_leastOf_96 : decode cX8_leastOf 96 = .ok (.ifCond .ge 16, 3) := by decide +kernel
theorem dX8_leastOf_99 : decode cX8_leastOf 99 = .ok (.lload 4, 2) := by decide +kernel
theorem dX8_leastOf_101 : decode cX8_leastOf 101 = .ok (.lload 8, 2) := by decide +kernel
theorem dX8_leastOf_103 : decode cX8_leastOf 103 = .ok (.lload 10, 2) := by decide +kernel
theorem dX8_leastOf_105 : decode cX8_leastOf 105 = .ok (.ladd, 1) := by decide +kernel
theorem dX8_leastOf_106 : decode cX8_leastOf 106 = .ok (.invokestatic 114, 3) := by decide +kernel
theorem dX8_leastOf_109 : decode cX8_leastOf 109 = .ok (.goto 5, 3) := by decide +kernel
theorem dX8_leastOf_112 : decode cX8_leastOf 112 = .ok (.lload 4, 2) := by decide +kernel
theorem dX8_leastOf_114 : decode cX8_leastOf 114 = .ok (.lstore 4, 2) := by decide +kernel
theorem dX8_leastOf_116 : decode cX8_leastOf 116 = .ok (.iinc 7 1, 3) := by decide +kernel
theorem dX8_leastOf_119 : decode cX8_leastOf 119 = .ok (.goto (-78), 3) := by decide +kernel
theorem dX8_leastOf_122 : decode cX8_leastOf 122 = .ok (.iinc 6 1, 3) := by decide +kernel
theorem dX8_leastOf_125 : decode cX8_leastOf 125 = .ok (.goto (-117), 3) := by decide +kernel
theorem dX8_leastOf_128 : decode cX8_leastOf 128 = .ok (.iconst 0, 1) := by decide +kernel
theorem dX8_leastOf_129 : decode cX8_leastOf 129 = .ok (.istore 6, 2) := by decide +kernel
theorem dX8_leastOf_131 : decode cX8_leastOf 131 = .ok (.iload 6, 2) := by decide +kernel
theorem dX8_leastOf_133 : decode cX8_leastOf 133 = .ok (.iconst 5, 1) := by decide +kernel
theorem dX8_leastOf_134 : decode cX8_leastOf 134 = .ok (.if_icmp .ge 121, 3) := by decide +kernel
theorem dX8_leastOf_137 : decode cX8_leastOf 137 = .ok (.iload_n 1, 1) := by decide +kernel
theorem dX8_leastOf_138 : decode cX8_leastOf 138 = .ok (.iconst 1, 1) := by decide +kernel
theorem dX8_leastOf_139 : decode cX8_leastOf 139 = .ok (.iload 6, 2) := by decide +kernel
theorem dX8_leastOf_141 : decode cX8_leastOf 141 = .ok (.ishl, 1) := by decide +kernel
theorem dX8_leastOf_142 : decode cX8_leastOf 142 = .ok (.iconst (-1), 1) := by decide +kernel
theorem dX8_leastOf_143 : decode cX8_leastOf 143 = .ok (.ixor, 1) := by decide +kernel
theorem dX8_leastOf_144 : decode cX8_leastOf 144 = .ok (.iand, 1) := by decide +kernel
theorem dX8_leastOf_145 : decode cX8_leastOf 145 = .ok (.istore 7, 2) := by decide +kernel
theorem dX8_leastOf_147 : decode cX8_leastOf 147 = .ok (.iload_n 1, 1) := by decide +kernel
theorem dX8_leastOf_148 : decode cX8_leastOf 148 = .ok (.iload 6, 2) := by decide +kernel
theorem dX8_leastOf_150 : decode cX8_leastOf 150 = .ok (.ishr, 1) := by decide +kernel
theorem dX8_leastOf_151 : decode cX8_leastOf 151 = .ok (.iconst 1, 1) := by decide +kernel
theorem dX8_leastOf_152 : decode cX8_leastOf 152 = .ok (.iand, 1) := by decide +kernel
theorem dX8_leastOf_153 : decode cX8_leastOf 153 = .ok (.iconst 1, 1) := by decide +kernel
theorem dX8_leastOf_154 : decode cX8_leastOf 154 = .ok (.if_icmp .ne 95, 3) := by decide +kernel
theorem dX8_leastOf_157 : decode cX8_leastOf 157 = .ok (.aload_n 0, 1) := by decide +kernel
theorem dX8_leastOf_158 : decode cX8_leastOf 158 = .ok (.iload 6, 2) := by decide +kernel
theorem dX8_leastOf_160 : decode cX8_leastOf 160 = .ok (.iload 7, 2) := by decide +kernel
theorem dX8_leastOf_162 : decode cX8_leastOf 162 = .ok (.invokevirtual 118, 3) := by decide +kernel
theorem dX8_leastOf_165 : decode cX8_leastOf 165 = .ok (.ifCond .ne 84, 3) := by decide +kernel
theorem dX8_leastOf_168 : decode cX8_leastOf 168 = .ok (.iload_n 2, 1) := by decide +kernel
theorem dX8_leastOf_169 : decode cX8_leastOf 169 = .ok (.istore 8, 2) := by decide +kernel
theorem dX8_leastOf_171 : decode cX8_leastOf 171 = .ok (.iload 8, 2) := by decide +kernel
theorem dX8_leastOf_173 : decode cX8_leastOf 173 = .ok (.iload_n 3, 1) := by decide +kernel
theorem dX8_leastOf_174 : decode cX8_leastOf 174 = .ok (.if_icmp .gt 75, 3) := by decide +kernel
theorem dX8_leastOf_177 : decode cX8_leastOf 177 = .ok (.iload 8, 2) := by decide +kernel
theorem dX8_leastOf_179 : decode cX8_leastOf 179 = .ok (.istore 9, 2) := by decide +kernel
theorem dX8_leastOf_181 : decode cX8_leastOf 181 = .ok (.iload 9, 2) := by decide +kernel
theorem dX8_leastOf_183 : decode cX8_leastOf 183 = .ok (.iload_n 3, 1) := by decide +kernel
theorem dX8_leastOf_184 : decode cX8_leastOf 184 = .ok (.if_icmp .gt 59, 3) := by decide +kernel
theorem dX8_leastOf_187 : decode cX8_leastOf 187 = .ok (.aload_n 0, 1) := by decide +kernel
theorem dX8_leastOf_188 : decode cX8_leastOf 188 = .ok (.getfield 34, 3) := by decide +kernel
theorem dX8_leastOf_191 : decode cX8_leastOf 191 = .ok (.iload 7, 2) := by decide +kernel
theorem dX8_leastOf_193 : decode cX8_leastOf 193 = .ok (.iload 8, 2) := by decide +kernel
theorem dX8_leastOf_195 : decode cX8_leastOf 195 = .ok (.iload 9, 2) := by decide +kernel
theorem dX8_leastOf_197 : decode cX8_leastOf 197 = .ok (.invokestatic 111, 3) := by decide +kernel
theorem dX8_leastOf_200 : decode cX8_leastOf 200 = .ok (.laload, 1) := by decide +kernel
theorem dX8_leastOf_201 : decode cX8_leastOf 201 = .ok (.lstore 10, 2) := by decide +kernel
theorem dX8_leastOf_203 : decode cX8_leastOf 203 = .ok (.lload 10, 2) := by decide +kernel
theorem dX8_leastOf_205 : decode cX8_leastOf 205 = .ok (.ldc2_w 105, 3) := by decide +kernel
theorem dX8_leastOf_208 : decode cX8_leastOf 208 = .ok (.lcmp, 1) := by decide +kernel
theorem dX8_leastOf_209 : decode cX8_leastOf 209 = .ok (.ifCond .ge 24, 3) := by decide +kernel
theorem dX8_leastOf_212 : decode cX8_leastOf 212 = .ok (.lload 4, 2) := by decide +kernel
theorem dX8_leastOf_214 : decode cX8_leastOf 214 = .ok (.lload 10, 2) := by decide +kernel
theorem dX8_leastOf_216 : decode cX8_leastOf 216 = .ok (.aload_n 0, 1) := by decide +kernel
theorem dX8_leastOf_217 : decode cX8_leastOf 217 = .ok (.iload 6, 2) := by decide +kernel
theorem dX8_leastOf_219 : decode cX8_leastOf 219 = .ok (.iload 8, 2) := by decide +kernel
theorem dX8_leastOf_221 : decode cX8_leastOf 221 = .ok (.iload 9, 2) := by decide +kernel
theorem dX8_leastOf_223 : decode cX8_leastOf 223 = .ok (.invokevirtual 121, 3) := by decide +kernel
theorem dX8_leastOf_226 : decode cX8_leastOf 226 = .ok (.ladd, 1) := by decide +kernel
theorem dX8_leastOf_227 : decode cX8_leastOf 227 = .ok (.invokestatic 114, 3) := by decide +kernel
theorem dX8_leastOf_230 : decode cX8_leastOf 230 = .ok (.goto 5, 3) := by decide +kernel
theorem dX8_leastOf_233 : decode cX8_leastOf 233 = .ok (.lload 4, 2) := by decide +kernel
theorem dX8_leastOf_235 : decode cX8_leastOf 235 = .ok (.lstore 4, 2) := by decide +kernel
theorem dX8_leastOf_237 : decode cX8_leastOf 237 = .ok (.iinc 9 1, 3) := by decide +kernel
theorem dX8_leastOf_240 : decode cX8_leastOf 240 = .ok (.goto (-59), 3) := by decide +kernel
theorem dX8_leastOf_243 : decode cX8_leastOf 243 = .ok (.iinc 8 1, 3) := by decide +kernel
theorem dX8_leastOf_246 : decode cX8_leastOf 246 = .ok (.goto (-75), 3) := by decide +kernel
theorem dX8_leastOf_249 : decode cX8_leastOf 249 = .ok (.iinc 6 1, 3) := by decide +kernel
theorem dX8_leastOf_252 : decode cX8_leastOf 252 = .ok (.goto (-121), 3) := by decide +kernel
theorem dX8_leastOf_255 : decode cX8_leastOf 255 = .ok (.lload 4, 2) := by decide +kernel
theorem dX8_leastOf_257 : decode cX8_leastOf 257 = .ok (.lreturn, 1) := by decide +kernel
set_option maxRecDepth 20000 in
theorem ggX8_there_X8_isThere : GoodIn wsX8_there wsX8_isThere := goodIn_r _ [5, 6, 7, 8, 4, 9, 10, 11, 12, 13, 14, 15, 16, 17, 18, 19, 20, 21, 22, 23, 24, 25, 26, 27, 28, 29, 30, 31] (by decide +kernel) (by decide +kernel)
set_option maxRecDepth 20000 in
theorem gX8_there_X8_isThere : GoodIn wsX8_there (wsV RX8 125 RX8 yX8_isThere wsX8_isThere) := goodIn_app (goodIn_of _ (by decide +kernel)) ggX8_there_X8_isThere
theorem dX8_there_0 : decode cX8_there 0 = .ok (.iconst 0, 1) := by decide +kernel
theorem dX8_there_1 : decode cX8_there 1 = .ok (.istore_n 1, 1) := by decide +kernel
theorem dX8_there_2 : decode cX8_there 2 = .ok (.iconst 0, 1) := by decide +kernel
theorem dX8_there_3 : decode cX8_there 3 = .ok (.istore_n 2, 1) := by decide +kernel
theorem dX8_there_4 : decode cX8_there 4 = .ok (.iload_n 2, 1) := by decide +kernel
theorem dX8_there_5 : decode cX8_there 5 = .ok (.iconst 5, 1) := by decide +kernel
theorem dX8_there_6 : decode cX8_there 6 = .ok (.if_icmp .ge 27, 3) := by decide +kernel
theorem dX8_there_9 : decode cX8_there 9 = .ok (.iload_n 1, 1) := by decide +kernel
theorem dX8_there_10 : decode cX8_there 10 = .ok (.aload_n 0, 1) := by decide +kernel
theorem dX8_there_11 : decode cX8_there 11 = .ok (.iload_n 2, 1) := by decide +kernel
theorem dX8_there_12 : decode cX8_there 12 = .ok (.invokevirtual 125, 3) := by decide +kernel
theorem dX8_there_15 : decode cX8_there 15 = .ok (.ifCond .eq 9, 3) := by decide +kernel
theorem dX8_there_18 : decode cX8_there 18 = .ok (.iconst 1, 1) := by decide +kernel
theorem dX8_there_19 : decode cX8_there 19 = .ok (.iload_n 2, 1) := by decide +kernel
theorem dX8_there_20 : decode cX8_there 20 = .ok (.ishl, 1) := by decide +kernel
theorem dX8_there_21 : decode cX8_there 21 = .ok (.goto 4, 3) := by decide +kernel
theorem dX8_there_24 : decode cX8_there 24 = .ok (.iconst 0, 1) := by decide +kernel
theorem dX8_there_25 : decode cX8_there 25 = .ok (.ior, 1) := by decide +kernel
theorem dX8_there_26 : decode cX8_there 26 = .ok (.istore_n 1, 1) := by decide +kernel
theorem dX8_there_27 : decode cX8_there 27 = .ok (.iinc 2 1, 3) := by decide +kernel
theorem dX8_there_30 : decode cX8_there 30 = .ok (.goto (-26), 3) := by decide +kernel
theorem dX8_there_33 : decode cX8_there 33 = .ok (.iload_n 1, 1) := by decide +kernel
theorem dX8_there_34 : decode cX8_there 34 = .ok (.ireturn, 1) := by decide +kernel
set_option maxRecDepth 20000 in
theorem ggX8_place_X8_there : GoodIn wsX8_place wsX8_there := goodIn_r _ [12, 13, 14, 15, 11, 16, 17, 18, 19, 20, 81, 82, 83, 84, 85, 86, 87, 88, 89, 90, 91, 92, 93, 94, 95, 96, 97, 98, 99, 100, 101, 102] (by decide +kernel) (by decide +kernel)
set_option maxRecDepth 20000 in
theorem gX8_place_X8_there : GoodIn wsX8_place (wsV RX8 129 RX8 yX8_there wsX8_there) := goodIn_app (goodIn_of _ (by decide +kernel)) ggX8_place_X8_there
set_option maxRecDepth 20000 in
theorem ggX8_place_X8_at : GoodIn wsX8_place wsX8_at := goodIn_r _ [23] (by decide +kernel) (by decide +kernel)
set_option maxRecDepth 20000 in
theorem gX8_place_X8_at : GoodIn wsX8_place (va_wsS RX8 111 yX8_at wsX8_at) := goodIn_app (goodIn_of _ (by decide +kernel)) ggX8_place_X8_at
set_option maxRecDepth 20000 in
theorem ggX8_place_X8_leastOf : GoodIn wsX8_place wsX8_leastOf := goodIn_r _ [27, 3, 2, 28, 29, 30, 11, 31, 32, 21, 22, 23, 33, 34, 35, 36, 37, 38, 39, 40, 41, 42, 43, 44, 45, 46, 47, 48, 49, 50, 51, 17, 52, 53, 54, 55, 56, 57, 58, 59, 60, 61, 1, 62, 63, 64, 65, 66, 67, 68, 69, 70, 71, 81, 82, 83, 84, 85, 86, 87, 88, 89, 90, 91, 92, 93, 94, 95, 96, 97, 98, 99, 100, 101, 102] (by decide +kernel) (by decide +kernel)
set_option maxRecDepth 20000 in
theorem gX8_place_X8_leastOf : GoodIn wsX8_place (wsV RX8 132 RX8 yX8_leastOf wsX8_leastOf) := goodIn_app (goodIn_of _ (by decide +kernel)) ggX8_place_X8_leastOf
set_option maxRecDepth 20000 in
theorem ggX8_place_X8_placeMarks : GoodIn wsX8_place wsX8_placeMarks := goodIn_r _ [75, 1, 76, 77, 78, 79, 80, 58, 59, 60, 11, 61, 57, 66, 67, 68, 81, 82, 83, 84, 85, 86, 87, 88, 89, 90, 91, 92, 93, 94, 95, 96, 97, 98, 99, 100, 101, 102] (by decide +kernel) (by decide +kernel)
set_option maxRecDepth 20000 in
theorem gX8_place_X8_placeMarks : GoodIn wsX8_place (wsV RX8 141 RX8 yX8_placeMarks wsX8_placeMarks) := goodIn_app (goodIn_of _ (by decide +kernel)) ggX8_place_X8_placeMarks
theorem dX8_place_0 : decode cX8_place 0 = .ok (.aload_n 0, 1) := by decide +kernel
theorem dX8_place_1 : decode cX8_place 1 = .ok (.invokevirtual 129, 3) := by decide +kernel
theorem dX8_place_4 : decode cX8_place 4 = .ok (.istore_n 1, 1) := by decide +kernel
theorem dX8_place_5 : decode cX8_place 5 = .ok (.iconst 0, 1) := by decide +kernel
theorem dX8_place_6 : decode cX8_place 6 = .ok (.istore_n 2, 1) := by decide +kernel
theorem dX8_place_7 : decode cX8_place 7 = .ok (.iload_n 2, 1) := by decide +kernel
theorem dX8_place_8 : decode cX8_place 8 = .ok (.iload_n 1, 1) := by decide +kernel
theorem dX8_place_9 : decode cX8_place 9 = .ok (.if_icmp .gt 84, 3) := by decide +kernel
theorem dX8_place_12 : decode cX8_place 12 = .ok (.iconst 0, 1) := by decide +kernel
theorem dX8_place_13 : decode cX8_place 13 = .ok (.istore_n 3, 1) := by decide +kernel
theorem dX8_place_14 : decode cX8_place 14 = .ok (.iload_n 3, 1) := by decide +kernel
theorem dX8_place_15 : decode cX8_place 15 = .ok (.aload_n 0, 1) := by decide +kernel
theorem dX8_place_16 : decode cX8_place 16 = .ok (.getfield 78, 3) := by decide +kernel
theorem dX8_place_19 : decode cX8_place 19 = .ok (.if_icmp .gt 68, 3) := by decide +kernel
theorem dX8_place_22 : decode cX8_place 22 = .ok (.iload_n 3, 1) := by decide +kernel
theorem dX8_place_23 : decode cX8_place 23 = .ok (.istore 4, 2) := by decide +kernel
theorem dX8_place_25 : decode cX8_place 25 = .ok (.iload 4, 2) := by decide +kernel
theorem dX8_place_27 : decode cX8_place 27 = .ok (.aload_n 0, 1) := by decide +kernel
theorem dX8_place_28 : decode cX8_place 28 = .ok (.getfield 78, 3) := by decide +kernel
theorem dX8_place_31 : decode cX8_place 31 = .ok (.if_icmp .gt 50, 3) := by decide +kernel
theorem dX8_place_34 : decode cX8_place 34 = .ok (.aload_n 0, 1) := by decide +kernel
theorem dX8_place_35 : decode cX8_place 35 = .ok (.getfield 34, 3) := by decide +kernel
theorem dX8_place_38 : decode cX8_place 38 = .ok (.iload_n 2, 1) := by decide +kernel
theorem dX8_place_39 : decode cX8_place 39 = .ok (.iload_n 3, 1) := by decide +kernel
theorem dX8_place_40 : decode cX8_place 40 = .ok (.iload 4, 2) := by decide +kernel
theorem dX8_place_42 : decode cX8_place 42 = .ok (.invokestatic 111, 3) := by decide +kernel
theorem dX8_place_45 : decode cX8_place 45 = .ok (.iload_n 2, 1) := by decide +kernel
theorem dX8_place_46 : decode cX8_place 46 = .ok (.ifCond .ne 7, 3) := by decide +kernel
theorem dX8_place_49 : decode cX8_place 49 = .ok (.lconst 0, 1) := by decide +kernel
theorem dX8_place_50 : decode cX8_place 50 = .ok (.goto 24, 3) := by decide +kernel
theorem dX8_place_53 : decode cX8_place 53 = .ok (.iload_n 2, 1) := by decide +kernel
theorem dX8_place_54 : decode cX8_place 54 = .ok (.iload_n 1, 1) := by decide +kernel
theorem dX8_place_55 : decode cX8_place 55 = .ok (.iand, 1) := by decide +kernel
theorem dX8_place_56 : decode cX8_place 56 = .ok (.iload_n 2, 1) := by decide +kernel
theorem dX8_place_57 : decode cX8_place 57 = .ok (.if_icmp .ne 14, 3) := by decide +kernel
theorem dX8_place_60 : decode cX8_place 60 = .ok (.aload_n 0, 1) := by decide +kernel
theorem dX8_place_61 : decode cX8_place 61 = .ok (.iload_n 2, 1) := by decide +kernel
theorem dX8_place_62 : decode cX8_place 62 = .ok (.iload_n 3, 1) := by decide +kernel
theorem dX8_place_63 : decode cX8_place 63 = .ok (.iload 4, 2) := by decide +kernel
theorem dX8_place_65 : decode cX8_place 65 = .ok (.invokevirtual 132, 3) := by decide +kernel
theorem dX8_place_68 : decode cX8_place 68 = .ok (.goto 6, 3) := by decide +kernel
theorem dX8_place_71 : decode cX8_place 71 = .ok (.ldc2_w 105, 3) := by decide +kernel
theorem dX8_place_74 : decode cX8_place 74 = .ok (.lastore, 1) := by decide +kernel
theorem dX8_place_75 : decode cX8_place 75 = .ok (.iinc 4 1, 3) := by decide +kernel
theorem dX8_place_78 : decode cX8_place 78 = .ok (.goto (-53), 3) := by decide +kernel
theorem dX8_place_81 : decode cX8_place 81 = .ok (.iinc 3 1, 3) := by decide +kernel
theorem dX8_place_84 : decode cX8_place 84 = .ok (.goto (-70), 3) := by decide +kernel
theorem dX8_place_87 : decode cX8_place 87 = .ok (.iinc 2 1, 3) := by decide +kernel
theorem dX8_place_90 : decode cX8_place 90 = .ok (.goto (-83), 3) := by decide +kernel
theorem dX8_place_93 : decode cX8_place 93 = .ok (.aload_n 0, 1) := by decide +kernel
theorem dX8_place_94 : decode cX8_place 94 = .ok (.aload_n 0, 1) := by decide +kernel
theorem dX8_place_95 : decode cX8_place 95 = .ok (.getfield 34, 3) := by decide +kernel
theorem dX8_place_98 : decode cX8_place 98 = .ok (.iload_n 1, 1) := by decide +kernel
theorem dX8_place_99 : decode cX8_place 99 = .ok (.iconst 0, 1) := by decide +kernel
theorem dX8_place_100 : decode cX8_place 100 = .ok (.aload_n 0, 1) := by decide +kernel
theorem dX8_place_101 : decode cX8_place 101 = .ok (.getfield 78, 3) := by decide +kernel
theorem dX8_place_104 : decode cX8_place 104 = .ok (.invokestatic 111, 3) := by decide +kernel
theorem dX8_place_107 : decode cX8_place 107 = .ok (.laload, 1) := by decide +kernel
theorem dX8_place_108 : decode cX8_place 108 = .ok (.putfield 135, 3) := by decide +kernel
theorem dX8_place_111 : decode cX8_place 111 = .ok (.iconst 0, 1) := by decide +kernel
theorem dX8_place_112 : decode cX8_place 112 = .ok (.istore_n 2, 1) := by decide +kernel
theorem dX8_place_113 : decode cX8_place 113 = .ok (.iload_n 2, 1) := by decide +kernel
theorem dX8_place_114 : decode cX8_place 114 = .ok (.iconst 5, 1) := by decide +kernel
theorem dX8_place_115 : decode cX8_place 115 = .ok (.if_icmp .ge 46, 3) := by decide +kernel
theorem dX8_place_118 : decode cX8_place 118 = .ok (.aload_n 0, 1) := by decide +kernel
theorem dX8_place_119 : decode cX8_place 119 = .ok (.getfield 135, 3) := by decide +kernel
theorem dX8_place_122 : decode cX8_place 122 = .ok (.bipush 8, 2) := by decide +kernel
theorem dX8_place_124 : decode cX8_place 124 = .ok (.iconst 4, 1) := by decide +kernel
theorem dX8_place_125 : decode cX8_place 125 = .ok (.iload_n 2, 1) := by decide +kernel
theorem dX8_place_126 : decode cX8_place 126 = .ok (.isub, 1) := by decide +kernel
theorem dX8_place_127 : decode cX8_place 127 = .ok (.imul, 1) := by decide +kernel
theorem dX8_place_128 : decode cX8_place 128 = .ok (.lshr, 1) := by decide +kernel
theorem dX8_place_129 : decode cX8_place 129 = .ok (.ldc2_w 139, 3) := by decide +kernel
theorem dX8_place_132 : decode cX8_place 132 = .ok (.land, 1) := by decide +kernel
theorem dX8_place_133 : decode cX8_place 133 = .ok (.l2i, 1) := by decide +kernel
theorem dX8_place_134 : decode cX8_place 134 = .ok (.istore_n 3, 1) := by decide +kernel
theorem dX8_place_135 : decode cX8_place 135 = .ok (.aload_n 0, 1) := by decide +kernel
theorem dX8_place_136 : decode cX8_place 136 = .ok (.getfield 38, 3) := by decide +kernel
theorem dX8_place_139 : decode cX8_place 139 = .ok (.iload_n 2, 1) := by decide +kernel
theorem dX8_place_140 : decode cX8_place 140 = .ok (.iload_n 3, 1) := by decide +kernel
theorem dX8_place_141 : decode cX8_place 141 = .ok (.bipush 16, 2) := by decide +kernel
theorem dX8_place_143 : decode cX8_place 143 = .ok (.idiv, 1) := by decide +kernel
theorem dX8_place_144 : decode cX8_place 144 = .ok (.iastore, 1) := by decide +kernel
theorem dX8_place_145 : decode cX8_place 145 = .ok (.aload_n 0, 1) := by decide +kernel
theorem dX8_place_146 : decode cX8_place 146 = .ok (.getfield 41, 3) := by decide +kernel
theorem dX8_place_149 : decode cX8_place 149 = .ok (.iload_n 2, 1) := by decide +kernel
theorem dX8_place_150 : decode cX8_place 150 = .ok (.iload_n 3, 1) := by decide +kernel
theorem dX8_place_151 : decode cX8_place 151 = .ok (.bipush 16, 2) := by decide +kernel
theorem dX8_place_153 : decode cX8_place 153 = .ok (.irem, 1) := by decide +kernel
theorem dX8_place_154 : decode cX8_place 154 = .ok (.iastore, 1) := by decide +kernel
theorem dX8_place_155 : decode cX8_place 155 = .ok (.iinc 2 1, 3) := by decide +kernel
theorem dX8_place_158 : decode cX8_place 158 = .ok (.goto (-45), 3) := by decide +kernel
theorem dX8_place_161 : decode cX8_place 161 = .ok (.aload_n 0, 1) := by decide +kernel
theorem dX8_place_162 : decode cX8_place 162 = .ok (.invokevirtual 141, 3) := by decide +kernel
theorem dX8_place_165 : decode cX8_place 165 = .ok (.return_, 1) := by decide +kernel
set_option maxRecDepth 20000 in
theorem ggX8_placeMarks_X8_anchor : GoodIn wsX8_placeMarks wsX8_anchor := goodIn_r _ [11, 1, 12, 16, 17, 18, 19, 20, 21, 22, 23, 24, 25, 26, 27, 28, 29, 30, 31, 32, 33, 34, 35, 36, 37] (by decide +kernel) (by decide +kernel)
set_option maxRecDepth 20000 in
theorem gX8_placeMarks_X8_anchor : GoodIn wsX8_placeMarks (wsV RX8 85 RX8 yX8_anchor wsX8_anchor) := goodIn_app (goodIn_of _ (by decide +kernel)) ggX8_placeMarks_X8_anchor
set_option maxRecDepth 20000 in
theorem ggX8_placeMarks_X8_off : GoodIn wsX8_placeMarks wsX8_off := goodIn_r _ [15] (by decide +kernel) (by decide +kernel)
set_option maxRecDepth 20000 in
theorem gX8_placeMarks_X8_off : GoodIn wsX8_placeMarks (va_wsS RX8 94 yX8_off wsX8_off) := goodIn_app (goodIn_of _ (by decide +kernel)) ggX8_placeMarks_X8_off
theorem dX8_placeMarks_0 : decode cX8_placeMarks 0 = .ok (.aload_n 0, 1) := by decide +kernel
theorem dX8_placeMarks_1 : decode cX8_placeMarks 1 = .ok (.getfield 78, 3) := by decide +kernel
theorem dX8_placeMarks_4 : decode cX8_placeMarks 4 = .ok (.iconst 1, 1) := by decide +kernel
theorem dX8_placeMarks_5 : decode cX8_placeMarks 5 = .ok (.iadd, 1) := by decide +kernel
theorem dX8_placeMarks_6 : decode cX8_placeMarks 6 = .ok (.istore_n 1, 1) := by decide +kernel
theorem dX8_placeMarks_7 : decode cX8_placeMarks 7 = .ok (.iconst 1, 1) := by decide +kernel
theorem dX8_placeMarks_8 : decode cX8_placeMarks 8 = .ok (.istore_n 2, 1) := by decide +kernel
theorem dX8_placeMarks_9 : decode cX8_placeMarks 9 = .ok (.iconst 0, 1) := by decide +kernel
theorem dX8_placeMarks_10 : decode cX8_placeMarks 10 = .ok (.istore_n 3, 1) := by decide +kernel
theorem dX8_placeMarks_11 : decode cX8_placeMarks 11 = .ok (.iload_n 3, 1) := by decide +kernel
theorem dX8_placeMarks_12 : decode cX8_placeMarks 12 = .ok (.aload_n 0, 1) := by decide +kernel
theorem dX8_placeMarks_13 : decode cX8_placeMarks 13 = .ok (.getfield 72, 3) := by decide +kernel
theorem dX8_placeMarks_16 : decode cX8_placeMarks 16 = .ok (.if_icmp .ge 13, 3) := by decide +kernel
theorem dX8_placeMarks_19 : decode cX8_placeMarks 19 = .ok (.iload_n 2, 1) := by decide +kernel
theorem dX8_placeMarks_20 : decode cX8_placeMarks 20 = .ok (.iload_n 1, 1) := by decide +kernel
theorem dX8_placeMarks_21 : decode cX8_placeMarks 21 = .ok (.imul, 1) := by decide +kernel
theorem dX8_placeMarks_22 : decode cX8_placeMarks 22 = .ok (.istore_n 2, 1) := by decide +kernel
theorem dX8_placeMarks_23 : decode cX8_placeMarks 23 = .ok (.iinc 3 1, 3) := by decide +kernel
theorem dX8_placeMarks_26 : decode cX8_placeMarks 26 = .ok (.goto (-15), 3) := by decide +kernel
theorem dX8_placeMarks_29 : decode cX8_placeMarks 29 = .ok (.aload_n 0, 1) := by decide +kernel
theorem dX8_placeMarks_30 : decode cX8_placeMarks 30 = .ok (.bipush (-6), 2) := by decide +kernel
theorem dX8_placeMarks_32 : decode cX8_placeMarks 32 = .ok (.putfield 144, 3) := by decide +kernel
theorem dX8_placeMarks_35 : decode cX8_placeMarks 35 = .ok (.iconst 0, 1) := by decide +kernel
theorem dX8_placeMarks_36 : decode cX8_placeMarks 36 = .ok (.istore_n 3, 1) := by decide +kernel
theorem dX8_placeMarks_37 : decode cX8_placeMarks 37 = .ok (.iload_n 3, 1) := by decide +kernel
theorem dX8_placeMarks_38 : decode cX8_placeMarks 38 = .ok (.iload_n 2, 1) := by decide +kernel
theorem dX8_placeMarks_39 : decode cX8_placeMarks 39 = .ok (.if_icmp .ge 178, 3) := by decide +kernel
theorem dX8_placeMarks_42 : decode cX8_placeMarks 42 = .ok (.iconst 0, 1) := by decide +kernel
theorem dX8_placeMarks_43 : decode cX8_placeMarks 43 = .ok (.istore 4, 2) := by decide +kernel
theorem dX8_placeMarks_45 : decode cX8_placeMarks 45 = .ok (.iconst 0, 1) := by decide +kernel
theorem dX8_placeMarks_46 : decode cX8_placeMarks 46 = .ok (.istore 5, 2) := by decide +kernel
theorem dX8_placeMarks_48 : decode cX8_placeMarks 48 = .ok (.iload_n 2, 1) := by decide +kernel
theorem dX8_placeMarks_49 : decode cX8_placeMarks 49 = .ok (.iload_n 1, 1) := by decide +kernel
theorem dX8_placeMarks_50 : decode cX8_placeMarks 50 = .ok (.idiv, 1) := by decide +kernel
theorem dX8_placeMarks_51 : decode cX8_placeMarks 51 = .ok (.istore 6, 2) := by decide +kernel
theorem dX8_placeMarks_53 : decode cX8_placeMarks 53 = .ok (.iconst 1, 1) := by decide +kernel
theorem dX8_placeMarks_54 : decode cX8_placeMarks 54 = .ok (.istore 7, 2) := by decide +kernel
theorem dX8_placeMarks_56 : decode cX8_placeMarks 56 = .ok (.iconst 0, 1) := by decide +kernel
theorem dX8_placeMarks_57 : decode cX8_placeMarks 57 = .ok (.istore 8, 2) := by decide +kernel
theorem dX8_placeMarks_59 : decode cX8_placeMarks 59 = .ok (.iload 8, 2) := by decide +kernel
theorem dX8_placeMarks_61 : decode cX8_placeMarks 61 = .ok (.aload_n 0, 1) := by decide +kernel
theorem dX8_placeMarks_62 : decode cX8_placeMarks 62 = .ok (.getfield 72, 3) := by decide +kernel
theorem dX8_placeMarks_65 : decode cX8_placeMarks 65 = .ok (.if_icmp .ge 72, 3) := by decide +kernel
theorem dX8_placeMarks_68 : decode cX8_placeMarks 68 = .ok (.iload_n 3, 1) := by decide +kernel
theorem dX8_placeMarks_69 : decode cX8_placeMarks 69 = .ok (.iload 6, 2) := by decide +kernel
theorem dX8_placeMarks_71 : decode cX8_placeMarks 71 = .ok (.idiv, 1) := by decide +kernel
theorem dX8_placeMarks_72 : decode cX8_placeMarks 72 = .ok (.iload_n 1, 1) := by decide +kernel
theorem dX8_placeMarks_73 : decode cX8_placeMarks 73 = .ok (.irem, 1) := by decide +kernel
theorem dX8_placeMarks_74 : decode cX8_placeMarks 74 = .ok (.istore 9, 2) := by decide +kernel
theorem dX8_placeMarks_76 : decode cX8_placeMarks 76 = .ok (.iload 7, 2) := by decide +kernel
theorem dX8_placeMarks_78 : decode cX8_placeMarks 78 = .ok (.ifCond .eq 14, 3) := by decide +kernel
theorem dX8_placeMarks_81 : decode cX8_placeMarks 81 = .ok (.iload 9, 2) := by decide +kernel
theorem dX8_placeMarks_83 : decode cX8_placeMarks 83 = .ok (.iload 5, 2) := by decide +kernel
theorem dX8_placeMarks_85 : decode cX8_placeMarks 85 = .ok (.if_icmp .lt 7, 3) := by decide +kernel
theorem dX8_placeMarks_88 : decode cX8_placeMarks 88 = .ok (.iconst 1, 1) := by decide +kernel
theorem dX8_placeMarks_89 : decode cX8_placeMarks 89 = .ok (.goto 4, 3) := by decide +kernel
theorem dX8_placeMarks_92 : decode cX8_placeMarks 92 = .ok (.iconst 0, 1) := by decide +kernel
theorem dX8_placeMarks_93 : decode cX8_placeMarks 93 = .ok (.istore 7, 2) := by decide +kernel
theorem dX8_placeMarks_95 : decode cX8_placeMarks 95 = .ok (.iload 9, 2) := by decide +kernel
theorem dX8_placeMarks_97 : decode cX8_placeMarks 97 = .ok (.istore 5, 2) := by decide +kernel
theorem dX8_placeMarks_99 : decode cX8_placeMarks 99 = .ok (.iload 4, 2) := by decide +kernel
theorem dX8_placeMarks_101 : decode cX8_placeMarks 101 = .ok (.iload 9, 2) := by decide +kernel
theorem dX8_placeMarks_103 : decode cX8_placeMarks 103 = .ok (.aload_n 0, 1) := by decide +kernel
theorem dX8_placeMarks_104 : decode cX8_placeMarks 104 = .ok (.aload_n 0, 1) := by decide +kernel
theorem dX8_placeMarks_105 : decode cX8_placeMarks 105 = .ok (.getfield 19, 3) := by decide +kernel
theorem dX8_placeMarks_108 : decode cX8_placeMarks 108 = .ok (.aload_n 0, 1) := by decide +kernel
theorem dX8_placeMarks_109 : decode cX8_placeMarks 109 = .ok (.getfield 22, 3) := by decide +kernel
theorem dX8_placeMarks_112 : decode cX8_placeMarks 112 = .ok (.iload 8, 2) := by decide +kernel
theorem dX8_placeMarks_114 : decode cX8_placeMarks 114 = .ok (.iaload, 1) := by decide +kernel
theorem dX8_placeMarks_115 : decode cX8_placeMarks 115 = .ok (.iaload, 1) := by decide +kernel
theorem dX8_placeMarks_116 : decode cX8_placeMarks 116 = .ok (.invokevirtual 85, 3) := by decide +kernel
theorem dX8_placeMarks_119 : decode cX8_placeMarks 119 = .ok (.invokestatic 94, 3) := by decide +kernel
theorem dX8_placeMarks_122 : decode cX8_placeMarks 122 = .ok (.iadd, 1) := by decide +kernel
theorem dX8_placeMarks_123 : decode cX8_placeMarks 123 = .ok (.istore 4, 2) := by decide +kernel
theorem dX8_placeMarks_125 : decode cX8_placeMarks 125 = .ok (.iload 6, 2) := by decide +kernel
theorem dX8_placeMarks_127 : decode cX8_placeMarks 127 = .ok (.iload_n 1, 1) := by decide +kernel
theorem dX8_placeMarks_128 : decode cX8_placeMarks 128 = .ok (.idiv, 1) := by decide +kernel
theorem dX8_placeMarks_129 : decode cX8_placeMarks 129 = .ok (.istore 6, 2) := by decide +kernel
theorem dX8_placeMarks_131 : decode cX8_placeMarks 131 = .ok (.iinc 8 1, 3) := by decide +kernel
theorem dX8_placeMarks_134 : decode cX8_placeMarks 134 = .ok (.goto (-75), 3) := by decide +kernel
theorem dX8_placeMarks_137 : decode cX8_placeMarks 137 = .ok (.iload 7, 2) := by decide +kernel
theorem dX8_placeMarks_139 : decode cX8_placeMarks 139 = .ok (.ifCond .eq 72, 3) := by decide +kernel
theorem dX8_placeMarks_142 : decode cX8_placeMarks 142 = .ok (.aload_n 0, 1) := by decide +kernel
theorem dX8_placeMarks_143 : decode cX8_placeMarks 143 = .ok (.getfield 144, 3) := by decide +kernel
theorem dX8_placeMarks_146 : decode cX8_placeMarks 146 = .ok (.ifCond .lt 12, 3) := by decide +kernel
theorem dX8_placeMarks_149 : decode cX8_placeMarks 149 = .ok (.iload 4, 2) := by decide +kernel
theorem dX8_placeMarks_151 : decode cX8_placeMarks 151 = .ok (.aload_n 0, 1) := by decide +kernel
theorem dX8_placeMarks_152 : decode cX8_placeMarks 152 = .ok (.getfield 144, 3) := by decide +kernel
theorem dX8_placeMarks_155 : decode cX8_placeMarks 155 = .ok (.if_icmp .ge 56, 3) := by decide +kernel
theorem dX8_placeMarks_158 : decode cX8_placeMarks 158 = .ok (.aload_n 0, 1) := by decide +kernel
theorem dX8_placeMarks_159 : decode cX8_placeMarks 159 = .ok (.iload 4, 2) := by decide +kernel
theorem dX8_placeMarks_161 : decode cX8_placeMarks 161 = .ok (.putfield 144, 3) := by decide +kernel
theorem dX8_placeMarks_164 : decode cX8_placeMarks 164 = .ok (.iload_n 2, 1) := by decide +kernel
theorem dX8_placeMarks_165 : decode cX8_placeMarks 165 = .ok (.iload_n 1, 1) := by decide +kernel
theorem dX8_placeMarks_166 : decode cX8_placeMarks 166 = .ok (.idiv, 1) := by decide +kernel
theorem dX8_placeMarks_167 : decode cX8_placeMarks 167 = .ok (.istore 6, 2) := by decide +kernel
theorem dX8_placeMarks_169 : decode cX8_placeMarks 169 = .ok (.iconst 0, 1) := by decide +kernel
theorem dX8_placeMarks_170 : decode cX8_placeMarks 170 = .ok (.istore 8, 2) := by decide +kernel
theorem dX8_placeMarks_172 : decode cX8_placeMarks 172 = .ok (.iload 8, 2) := by decide +kernel
theorem dX8_placeMarks_174 : decode cX8_placeMarks 174 = .ok (.aload_n 0, 1) := by decide +kernel
theorem dX8_placeMarks_175 : decode cX8_placeMarks 175 = .ok (.getfield 72, 3) := by decide +kernel
theorem dX8_placeMarks_178 : decode cX8_placeMarks 178 = .ok (.if_icmp .ge 33, 3) := by decide +kernel
theorem dX8_placeMarks_181 : decode cX8_placeMarks 181 = .ok (.aload_n 0, 1) := by decide +kernel
theorem dX8_placeMarks_182 : decode cX8_placeMarks 182 = .ok (.getfield 44, 3) := by decide +kernel
theorem dX8_placeMarks_185 : decode cX8_placeMarks 185 = .ok (.aload_n 0, 1) := by decide +kernel
theorem dX8_placeMarks_186 : decode cX8_placeMarks 186 = .ok (.getfield 22, 3) := by decide +kernel
theorem dX8_placeMarks_189 : decode cX8_placeMarks 189 = .ok (.iload 8, 2) := by decide +kernel
theorem dX8_placeMarks_191 : decode cX8_placeMarks 191 = .ok (.iaload, 1) := by decide +kernel
theorem dX8_placeMarks_192 : decode cX8_placeMarks 192 = .ok (.iload_n 3, 1) := by decide +kernel
theorem dX8_placeMarks_193 : decode cX8_placeMarks 193 = .ok (.iload 6, 2) := by decide +kernel
theorem dX8_placeMarks_195 : decode cX8_placeMarks 195 = .ok (.idiv, 1) := by decide +kernel
theorem dX8_placeMarks_196 : decode cX8_placeMarks 196 = .ok (.iload_n 1, 1) := by decide +kernel
theorem dX8_placeMarks_197 : decode cX8_placeMarks 197 = .ok (.irem, 1) := by decide +kernel
theorem dX8_placeMarks_198 : decode cX8_placeMarks 198 = .ok (.iastore, 1) := by decide +kernel
theorem dX8_placeMarks_199 : decode cX8_placeMarks 199 = .ok (.iload 6, 2) := by decide +kernel
theorem dX8_placeMarks_201 : decode cX8_placeMarks 201 = .ok (.iload_n 1, 1) := by decide +kernel
theorem dX8_placeMarks_202 : decode cX8_placeMarks 202 = .ok (.idiv, 1) := by decide +kernel
theorem dX8_placeMarks_203 : decode cX8_placeMarks 203 = .ok (.istore 6, 2) := by decide +kernel
theorem dX8_placeMarks_205 : decode cX8_placeMarks 205 = .ok (.iinc 8 1, 3) := by decide +kernel
theorem dX8_placeMarks_208 : decode cX8_placeMarks 208 = .ok (.goto (-36), 3) := by decide +kernel
theorem dX8_placeMarks_211 : decode cX8_placeMarks 211 = .ok (.iinc 3 1, 3) := by decide +kernel
theorem dX8_placeMarks_214 : decode cX8_placeMarks 214 = .ok (.goto (-177), 3) := by decide +kernel
theorem dX8_placeMarks_217 : decode cX8_placeMarks 217 = .ok (.return_, 1) := by decide +kernel
set_option maxRecDepth 20000 in
theorem ggX8_depth_X8_isThere : GoodIn wsX8_depth wsX8_isThere := goodIn_r _ [6, 7, 8, 9, 5, 10, 11, 12, 13, 14, 15, 16, 17, 18, 19, 20, 21, 22, 23, 24, 25, 26, 27, 28, 29, 30, 31, 32] (by decide +kernel) (by decide +kernel)
set_option maxRecDepth 20000 in
theorem gX8_depth_X8_isThere : GoodIn wsX8_depth (wsV RX8 125 RX8 yX8_isThere wsX8_isThere) := goodIn_app (goodIn_of _ (by decide +kernel)) ggX8_depth_X8_isThere
theorem dX8_depth_0 : decode cX8_depth 0 = .ok (.iconst 0, 1) := by decide +kernel
theorem dX8_depth_1 : decode cX8_depth 1 = .ok (.istore_n 2, 1) := by decide +kernel
theorem dX8_depth_2 : decode cX8_depth 2 = .ok (.iconst 0, 1) := by decide +kernel
theorem dX8_depth_3 : decode cX8_depth 3 = .ok (.istore_n 3, 1) := by decide +kernel
theorem dX8_depth_4 : decode cX8_depth 4 = .ok (.iload_n 3, 1) := by decide +kernel
theorem dX8_depth_5 : decode cX8_depth 5 = .ok (.iconst 5, 1) := by decide +kernel
theorem dX8_depth_6 : decode cX8_depth 6 = .ok (.if_icmp .ge 39, 3) := by decide +kernel
theorem dX8_depth_9 : decode cX8_depth 9 = .ok (.iload_n 2, 1) := by decide +kernel
theorem dX8_depth_10 : decode cX8_depth 10 = .ok (.aload_n 0, 1) := by decide +kernel
theorem dX8_depth_11 : decode cX8_depth 11 = .ok (.iload_n 3, 1) := by decide +kernel
theorem dX8_depth_12 : decode cX8_depth 12 = .ok (.invokevirtual 125, 3) := by decide +kernel
theorem dX8_depth_15 : decode cX8_depth 15 = .ok (.ifCond .eq 21, 3) := by decide +kernel
theorem dX8_depth_18 : decode cX8_depth 18 = .ok (.aload_n 0, 1) := by decide +kernel
theorem dX8_depth_19 : decode cX8_depth 19 = .ok (.getfield 16, 3) := by decide +kernel
theorem dX8_depth_22 : decode cX8_depth 22 = .ok (.iload_n 3, 1) := by decide +kernel
theorem dX8_depth_23 : decode cX8_depth 23 = .ok (.iaload, 1) := by decide +kernel
theorem dX8_depth_24 : decode cX8_depth 24 = .ok (.iload_n 1, 1) := by decide +kernel
theorem dX8_depth_25 : decode cX8_depth 25 = .ok (.ishr, 1) := by decide +kernel
theorem dX8_depth_26 : decode cX8_depth 26 = .ok (.iconst 1, 1) := by decide +kernel
theorem dX8_depth_27 : decode cX8_depth 27 = .ok (.iand, 1) := by decide +kernel
theorem dX8_depth_28 : decode cX8_depth 28 = .ok (.iconst 1, 1) := by decide +kernel
theorem dX8_depth_29 : decode cX8_depth 29 = .ok (.if_icmp .ne 7, 3) := by decide +kernel
theorem dX8_depth_32 : decode cX8_depth 32 = .ok (.iconst 1, 1) := by decide +kernel
theorem dX8_depth_33 : decode cX8_depth 33 = .ok (.goto 4, 3) := by decide +kernel
theorem dX8_depth_36 : decode cX8_depth 36 = .ok (.iconst 0, 1) := by decide +kernel
theorem dX8_depth_37 : decode cX8_depth 37 = .ok (.iadd, 1) := by decide +kernel
theorem dX8_depth_38 : decode cX8_depth 38 = .ok (.istore_n 2, 1) := by decide +kernel
theorem dX8_depth_39 : decode cX8_depth 39 = .ok (.iinc 3 1, 3) := by decide +kernel
theorem dX8_depth_42 : decode cX8_depth 42 = .ok (.goto (-38), 3) := by decide +kernel
theorem dX8_depth_45 : decode cX8_depth 45 = .ok (.iload_n 2, 1) := by decide +kernel
theorem dX8_depth_46 : decode cX8_depth 46 = .ok (.ireturn, 1) := by decide +kernel
set_option maxRecDepth 20000 in
theorem ggX8_pair_X8_isThere : GoodIn wsX8_pair wsX8_isThere := goodIn_r _ [10, 1, 11, 12, 9, 13, 89, 90, 91, 92, 93, 94, 95, 96, 97, 98, 99, 100, 101, 102, 103, 104, 105, 106, 107, 108, 109, 110] (by decide +kernel) (by decide +kernel)
set_option maxRecDepth 20000 in
theorem gX8_pair_X8_isThere : GoodIn wsX8_pair (wsV RX8 125 RX8 yX8_isThere wsX8_isThere) := goodIn_app (goodIn_of _ (by decide +kernel)) ggX8_pair_X8_isThere
set_option maxRecDepth 20000 in
theorem ggX8_pair_X8_in : GoodIn wsX8_pair wsX8_in := goodIn_r _ [13] (by decide +kernel) (by decide +kernel)
set_option maxRecDepth 20000 in
theorem gX8_pair_X8_in : GoodIn wsX8_pair (va_wsS RX8 57 yX8_in wsX8_in) := goodIn_app (goodIn_of _ (by decide +kernel)) ggX8_pair_X8_in
set_option maxRecDepth 20000 in
theorem ggX8_pair_X8_place : GoodIn wsX8_pair wsX8_place := goodIn_r _ [17, 18, 19, 20, 21, 22, 4, 5, 23, 24, 25, 9, 26, 6, 7, 8, 10, 1, 11, 12, 13, 27, 28, 29, 30, 31, 32, 33, 34, 35, 36, 37, 3, 38, 39, 40, 41, 42, 43, 44, 45, 46, 47, 48, 49, 50, 51, 52, 53, 54, 55, 56, 57, 58, 59, 60, 2, 61, 62, 63, 64, 65, 66, 67, 68, 69, 70, 71, 72, 73, 74, 75, 76, 77, 78, 79, 80, 81, 82, 83, 84, 89, 90, 91, 92, 93, 94, 95, 96, 97, 98, 99, 100, 101, 102, 103, 104, 105, 106, 107, 108, 109, 110] (by decide +kernel) (by decide +kernel)
set_option maxRecDepth 20000 in
theorem gX8_pair_X8_place : GoodIn wsX8_pair (wsV RX8 147 RX8 yX8_place wsX8_place) := goodIn_app (goodIn_of _ (by decide +kernel)) ggX8_pair_X8_place
set_option maxRecDepth 20000 in
theorem ggX8_pair_X8_depth : GoodIn wsX8_pair wsX8_depth := goodIn_r _ [88, 3, 6, 7, 8, 9, 10, 1, 11, 12, 13, 89, 90, 91, 92, 93, 94, 95, 96, 97, 98, 99, 100, 101, 102, 103, 104, 105, 106, 107, 108, 109, 110] (by decide +kernel) (by decide +kernel)
set_option maxRecDepth 20000 in
theorem gX8_pair_X8_depth : GoodIn wsX8_pair (wsV RX8 150 RX8 yX8_depth wsX8_depth) := goodIn_app (goodIn_of _ (by decide +kernel)) ggX8_pair_X8_depth
set_option maxRecDepth 20000 in
theorem ggX8_pair_X8_wantedFrom : GoodIn wsX8_pair wsX8_wantedFrom := goodIn_r _ [56, 1, 57, 58, 59, 9, 60, 2, 61, 62, 63, 64, 65, 18, 89, 90, 91, 92, 93, 94, 95, 96, 97, 98, 99, 100, 101, 102, 103, 104, 105, 106, 107, 108, 109, 110] (by decide +kernel) (by decide +kernel)
set_option maxRecDepth 20000 in
theorem gX8_pair_X8_wantedFrom : GoodIn wsX8_pair (wsV RX8 88 RX8 yX8_wantedFrom wsX8_wantedFrom) := goodIn_app (goodIn_of _ (by decide +kernel)) ggX8_pair_X8_wantedFrom
set_option maxRecDepth 20000 in
theorem ggX8_pair_X8_wantedTo : GoodIn wsX8_pair wsX8_wantedTo := goodIn_r _ [69, 1, 18, 57, 58, 59, 9, 60, 2, 61, 62, 63, 64, 65, 89, 90, 91, 92, 93, 94, 95, 96, 97, 98, 99, 100, 101, 102, 103, 104, 105, 106, 107, 108, 109, 110] (by decide +kernel) (by decide +kernel)
set_option maxRecDepth 20000 in
theorem gX8_pair_X8_wantedTo : GoodIn wsX8_pair (wsV RX8 91 RX8 yX8_wantedTo wsX8_wantedTo) := goodIn_app (goodIn_of _ (by decide +kernel)) ggX8_pair_X8_wantedTo
set_option maxRecDepth 20000 in
theorem ggX8_pair_X8_costOf : GoodIn wsX8_pair wsX8_costOf := goodIn_r _ [52, 53, 54, 55, 9, 56, 1, 57, 58, 59, 60, 2, 61, 62, 63, 64, 65, 18, 66, 67, 68, 69, 70, 71, 72, 73, 74, 75, 89, 90, 91, 92, 93, 94, 95, 96, 97, 98, 99, 100, 101, 102, 103, 104, 105, 106, 107, 108, 109, 110] (by decide +kernel) (by decide +kernel)
set_option maxRecDepth 20000 in
theorem gX8_pair_X8_costOf : GoodIn wsX8_pair (wsV RX8 101 RX8 yX8_costOf wsX8_costOf) := goodIn_app (goodIn_of _ (by decide +kernel)) ggX8_pair_X8_costOf
set_option maxRecDepth 20000 in
theorem ggX8_pair_X8_linksOf : GoodIn wsX8_pair wsX8_linksOf := goodIn_r _ [60, 1, 2, 61, 89, 90, 91, 92, 93, 94, 95, 96, 97, 98, 99, 100, 101, 102, 103, 104, 105, 106, 107, 108, 109, 110] (by decide +kernel) (by decide +kernel)
set_option maxRecDepth 20000 in
theorem gX8_pair_X8_linksOf : GoodIn wsX8_pair (wsV RX8 81 RX8 yX8_linksOf wsX8_linksOf) := goodIn_app (goodIn_of _ (by decide +kernel)) ggX8_pair_X8_linksOf
theorem dX8_pair_0 : decode cX8_pair 0 = .ok (.aload_n 0, 1) := by decide +kernel
theorem dX8_pair_1 : decode cX8_pair 1 = .ok (.iload_n 1, 1) := by decide +kernel
theorem dX8_pair_2 : decode cX8_pair 2 = .ok (.invokevirtual 125, 3) := by decide +kernel
theorem dX8_pair_5 : decode cX8_pair 5 = .ok (.ifCond .ne 5, 3) := by decide +kernel
theorem dX8_pair_8 : decode cX8_pair 8 = .ok (.iconst (-1), 1) := by decide +kernel
theorem dX8_pair_9 : decode cX8_pair 9 = .ok (.ireturn, 1) := by decide +kernel
theorem dX8_pair_10 : decode cX8_pair 10 = .ok (.iload_n 2, 1) := by decide +kernel
theorem dX8_pair_11 : decode cX8_pair 11 = .ok (.iconst 0, 1) := by decide +kernel
theorem dX8_pair_12 : decode cX8_pair 12 = .ok (.bipush 9, 2) := by decide +kernel
theorem dX8_pair_14 : decode cX8_pair 14 = .ok (.invokestatic 57, 3) := by decide +kernel
theorem dX8_pair_17 : decode cX8_pair 17 = .ok (.ifCond .ne 6, 3) := by decide +kernel
theorem dX8_pair_20 : decode cX8_pair 20 = .ok (.bipush (-2), 2) := by decide +kernel
theorem dX8_pair_22 : decode cX8_pair 22 = .ok (.ireturn, 1) := by decide +kernel
theorem dX8_pair_23 : decode cX8_pair 23 = .ok (.aload_n 0, 1) := by decide +kernel
theorem dX8_pair_24 : decode cX8_pair 24 = .ok (.invokevirtual 147, 3) := by decide +kernel
theorem dX8_pair_27 : decode cX8_pair 27 = .ok (.iload_n 2, 1) := by decide +kernel
theorem dX8_pair_28 : decode cX8_pair 28 = .ok (.tableswitch 123 0 8 #[52, 59, 66, 72, 79, 85, 91, 98, 105], 52) := by decide +kernel
theorem dX8_pair_80 : decode cX8_pair 80 = .ok (.aload_n 0, 1) := by decide +kernel
theorem dX8_pair_81 : decode cX8_pair 81 = .ok (.getfield 7, 3) := by decide +kernel
theorem dX8_pair_84 : decode cX8_pair 84 = .ok (.iload_n 1, 1) := by decide +kernel
theorem dX8_pair_85 : decode cX8_pair 85 = .ok (.iaload, 1) := by decide +kernel
theorem dX8_pair_86 : decode cX8_pair 86 = .ok (.ireturn, 1) := by decide +kernel
theorem dX8_pair_87 : decode cX8_pair 87 = .ok (.aload_n 0, 1) := by decide +kernel
theorem dX8_pair_88 : decode cX8_pair 88 = .ok (.getfield 13, 3) := by decide +kernel
theorem dX8_pair_91 : decode cX8_pair 91 = .ok (.iload_n 1, 1) := by decide +kernel
theorem dX8_pair_92 : decode cX8_pair 92 = .ok (.iaload, 1) := by decide +kernel
theorem dX8_pair_93 : decode cX8_pair 93 = .ok (.ireturn, 1) := by decide +kernel
theorem dX8_pair_94 : decode cX8_pair 94 = .ok (.aload_n 0, 1) := by decide +kernel
theorem dX8_pair_95 : decode cX8_pair 95 = .ok (.iload_n 1, 1) := by decide +kernel
theorem dX8_pair_96 : decode cX8_pair 96 = .ok (.invokevirtual 150, 3) := by decide +kernel
theorem dX8_pair_99 : decode cX8_pair 99 = .ok (.ireturn, 1) := by decide +kernel
theorem dX8_pair_100 : decode cX8_pair 100 = .ok (.aload_n 0, 1) := by decide +kernel
theorem dX8_pair_101 : decode cX8_pair 101 = .ok (.getfield 16, 3) := by decide +kernel
theorem dX8_pair_104 : decode cX8_pair 104 = .ok (.iload_n 1, 1) := by decide +kernel
theorem dX8_pair_105 : decode cX8_pair 105 = .ok (.iaload, 1) := by decide +kernel
theorem dX8_pair_106 : decode cX8_pair 106 = .ok (.ireturn, 1) := by decide +kernel
theorem dX8_pair_107 : decode cX8_pair 107 = .ok (.aload_n 0, 1) := by decide +kernel
theorem dX8_pair_108 : decode cX8_pair 108 = .ok (.iload_n 1, 1) := by decide +kernel
theorem dX8_pair_109 : decode cX8_pair 109 = .ok (.invokevirtual 88, 3) := by decide +kernel
theorem dX8_pair_112 : decode cX8_pair 112 = .ok (.ireturn, 1) := by decide +kernel
theorem dX8_pair_113 : decode cX8_pair 113 = .ok (.aload_n 0, 1) := by decide +kernel
theorem dX8_pair_114 : decode cX8_pair 114 = .ok (.iload_n 1, 1) := by decide +kernel
theorem dX8_pair_115 : decode cX8_pair 115 = .ok (.invokevirtual 91, 3) := by decide +kernel
theorem dX8_pair_118 : decode cX8_pair 118 = .ok (.ireturn, 1) := by decide +kernel
theorem dX8_pair_119 : decode cX8_pair 119 = .ok (.aload_n 0, 1) := by decide +kernel
theorem dX8_pair_120 : decode cX8_pair 120 = .ok (.getfield 38, 3) := by decide +kernel
theorem dX8_pair_123 : decode cX8_pair 123 = .ok (.iload_n 1, 1) := by decide +kernel
theorem dX8_pair_124 : decode cX8_pair 124 = .ok (.iaload, 1) := by decide +kernel
theorem dX8_pair_125 : decode cX8_pair 125 = .ok (.ireturn, 1) := by decide +kernel
theorem dX8_pair_126 : decode cX8_pair 126 = .ok (.aload_n 0, 1) := by decide +kernel
theorem dX8_pair_127 : decode cX8_pair 127 = .ok (.getfield 41, 3) := by decide +kernel
theorem dX8_pair_130 : decode cX8_pair 130 = .ok (.iload_n 1, 1) := by decide +kernel
theorem dX8_pair_131 : decode cX8_pair 131 = .ok (.iaload, 1) := by decide +kernel
