set_option maxRecDepth 20000 in
theorem ggX6_writeGap_X6_addEmpty : GoodIn wsX6_writeGap wsX6_addEmpty := goodIn_r _ [15, 4, 5, 6, 16, 17, 18, 9, 19, 20, 21, 79, 80, 81] (by decide +kernel) (by decide +kernel)
set_option maxRecDepth 20000 in
theorem gX6_writeGap_X6_addEmpty : GoodIn wsX6_writeGap (wsV RX6 60 RX6 yX6_addEmpty wsX6_addEmpty) := goodIn_app (goodIn_of _ (by decide +kernel)) ggX6_writeGap_X6_addEmpty
set_option maxRecDepth 20000 in
theorem ggX6_writeGap_X6_rankClosing : GoodIn wsX6_writeGap wsX6_rankClosing := goodIn_r _ [25, 26, 2, 27, 28, 29, 30, 31, 32, 33, 34, 35, 36, 37, 38, 39, 79, 80, 81, 71, 72, 73, 74, 75, 76, 77, 78, 59, 60, 61, 62, 63, 64, 65, 66, 67, 68, 69, 70] (by decide +kernel) (by decide +kernel)
set_option maxRecDepth 20000 in
theorem gX6_writeGap_X6_rankClosing : GoodIn wsX6_writeGap (wsV RX6 63 RX6 yX6_rankClosing wsX6_rankClosing) := goodIn_app (goodIn_of _ (by decide +kernel)) ggX6_writeGap_X6_rankClosing
set_option maxRecDepth 20000 in
theorem ggX6_writeGap_X6_addRanked : GoodIn wsX6_writeGap wsX6_addRanked := goodIn_r _ [43, 44, 45, 46, 9, 47, 26, 4, 5, 6, 16, 17, 18, 19, 20, 21, 79, 80, 81] (by decide +kernel) (by decide +kernel)
set_option maxRecDepth 20000 in
theorem gX6_writeGap_X6_addRanked : GoodIn wsX6_writeGap (wsV RX6 67 RX6 yX6_addRanked wsX6_addRanked) := goodIn_app (goodIn_of _ (by decide +kernel)) ggX6_writeGap_X6_addRanked
set_option maxRecDepth 20000 in
theorem ggX6_writeGap_X6_addMarks : GoodIn wsX6_writeGap wsX6_addMarks := goodIn_r _ [51, 52, 53, 54, 16, 17, 18, 9, 19, 20, 21, 59, 60, 61, 62, 63, 64, 65, 66, 67, 68, 69, 70, 82, 83, 84, 85, 79, 80, 81] (by decide +kernel) (by decide +kernel)
set_option maxRecDepth 20000 in
theorem gX6_writeGap_X6_addMarks : GoodIn wsX6_writeGap (wsV RX6 71 RX6 yX6_addMarks wsX6_addMarks) := goodIn_app (goodIn_of _ (by decide +kernel)) ggX6_writeGap_X6_addMarks
set_option maxRecDepth 20000 in
theorem ggX6_writeGap_X6_rankOpening : GoodIn wsX6_writeGap wsX6_rankOpening := goodIn_r _ [58, 26, 3, 27, 28, 29, 30, 31, 32, 33, 34, 35, 36, 37, 38, 39, 79, 80, 81, 71, 72, 73, 74, 75, 76, 77, 78, 59, 60, 61, 62, 63, 64, 65, 66, 67, 68, 69, 70] (by decide +kernel) (by decide +kernel)
set_option maxRecDepth 20000 in
theorem gX6_writeGap_X6_rankOpening : GoodIn wsX6_writeGap (wsV RX6 75 RX6 yX6_rankOpening wsX6_rankOpening) := goodIn_app (goodIn_of _ (by decide +kernel)) ggX6_writeGap_X6_rankOpening
theorem dX6_writeGap_0 : decode cX6_writeGap 0 = .ok (.iconst 0, 1) := by decide +kernel
theorem dX6_writeGap_1 : decode cX6_writeGap 1 = .ok (.istore 5, 2) := by decide +kernel
theorem dX6_writeGap_3 : decode cX6_writeGap 3 = .ok (.iconst 0, 1) := by decide +kernel
theorem dX6_writeGap_4 : decode cX6_writeGap 4 = .ok (.istore 6, 2) := by decide +kernel
theorem dX6_writeGap_6 : decode cX6_writeGap 6 = .ok (.iconst 0, 1) := by decide +kernel
theorem dX6_writeGap_7 : decode cX6_writeGap 7 = .ok (.istore 7, 2) := by decide +kernel
theorem dX6_writeGap_9 : decode cX6_writeGap 9 = .ok (.iconst 0, 1) := by decide +kernel
theorem dX6_writeGap_10 : decode cX6_writeGap 10 = .ok (.istore 8, 2) := by decide +kernel
theorem dX6_writeGap_12 : decode cX6_writeGap 12 = .ok (.iload 8, 2) := by decide +kernel
theorem dX6_writeGap_14 : decode cX6_writeGap 14 = .ok (.iconst 5, 1) := by decide +kernel
theorem dX6_writeGap_15 : decode cX6_writeGap 15 = .ok (.if_icmp .ge 128, 3) := by decide +kernel
theorem dX6_writeGap_18 : decode cX6_writeGap 18 = .ok (.aload_n 1, 1) := by decide +kernel
theorem dX6_writeGap_19 : decode cX6_writeGap 19 = .ok (.getfield 39, 3) := by decide +kernel
theorem dX6_writeGap_22 : decode cX6_writeGap 22 = .ok (.iload 8, 2) := by decide +kernel
theorem dX6_writeGap_24 : decode cX6_writeGap 24 = .ok (.invokestatic 44, 3) := by decide +kernel
theorem dX6_writeGap_27 : decode cX6_writeGap 27 = .ok (.ifCond .eq 110, 3) := by decide +kernel
theorem dX6_writeGap_30 : decode cX6_writeGap 30 = .ok (.aload_n 2, 1) := by decide +kernel
theorem dX6_writeGap_31 : decode cX6_writeGap 31 = .ok (.getfield 48, 3) := by decide +kernel
theorem dX6_writeGap_34 : decode cX6_writeGap 34 = .ok (.iload 8, 2) := by decide +kernel
theorem dX6_writeGap_36 : decode cX6_writeGap 36 = .ok (.iaload, 1) := by decide +kernel
theorem dX6_writeGap_37 : decode cX6_writeGap 37 = .ok (.iload 4, 2) := by decide +kernel
theorem dX6_writeGap_39 : decode cX6_writeGap 39 = .ok (.if_icmp .ne 7, 3) := by decide +kernel
theorem dX6_writeGap_42 : decode cX6_writeGap 42 = .ok (.iconst 1, 1) := by decide +kernel
theorem dX6_writeGap_43 : decode cX6_writeGap 43 = .ok (.goto 4, 3) := by decide +kernel
theorem dX6_writeGap_46 : decode cX6_writeGap 46 = .ok (.iconst 0, 1) := by decide +kernel
theorem dX6_writeGap_47 : decode cX6_writeGap 47 = .ok (.istore 9, 2) := by decide +kernel
theorem dX6_writeGap_49 : decode cX6_writeGap 49 = .ok (.aload_n 2, 1) := by decide +kernel
theorem dX6_writeGap_50 : decode cX6_writeGap 50 = .ok (.getfield 53, 3) := by decide +kernel
theorem dX6_writeGap_53 : decode cX6_writeGap 53 = .ok (.iload 8, 2) := by decide +kernel
theorem dX6_writeGap_55 : decode cX6_writeGap 55 = .ok (.iaload, 1) := by decide +kernel
theorem dX6_writeGap_56 : decode cX6_writeGap 56 = .ok (.iload 4, 2) := by decide +kernel
theorem dX6_writeGap_58 : decode cX6_writeGap 58 = .ok (.if_icmp .ne 7, 3) := by decide +kernel
theorem dX6_writeGap_61 : decode cX6_writeGap 61 = .ok (.iconst 1, 1) := by decide +kernel
theorem dX6_writeGap_62 : decode cX6_writeGap 62 = .ok (.goto 4, 3) := by decide +kernel
theorem dX6_writeGap_65 : decode cX6_writeGap 65 = .ok (.iconst 0, 1) := by decide +kernel
theorem dX6_writeGap_66 : decode cX6_writeGap 66 = .ok (.istore 10, 2) := by decide +kernel
theorem dX6_writeGap_68 : decode cX6_writeGap 68 = .ok (.iload 5, 2) := by decide +kernel
theorem dX6_writeGap_70 : decode cX6_writeGap 70 = .ok (.iload 9, 2) := by decide +kernel
theorem dX6_writeGap_72 : decode cX6_writeGap 72 = .ok (.ifCond .eq 15, 3) := by decide +kernel
theorem dX6_writeGap_75 : decode cX6_writeGap 75 = .ok (.iload 10, 2) := by decide +kernel
theorem dX6_writeGap_77 : decode cX6_writeGap 77 = .ok (.ifCond .eq 10, 3) := by decide +kernel
theorem dX6_writeGap_80 : decode cX6_writeGap 80 = .ok (.iconst 1, 1) := by decide +kernel
theorem dX6_writeGap_81 : decode cX6_writeGap 81 = .ok (.iload 8, 2) := by decide +kernel
theorem dX6_writeGap_83 : decode cX6_writeGap 83 = .ok (.ishl, 1) := by decide +kernel
theorem dX6_writeGap_84 : decode cX6_writeGap 84 = .ok (.goto 4, 3) := by decide +kernel
theorem dX6_writeGap_87 : decode cX6_writeGap 87 = .ok (.iconst 0, 1) := by decide +kernel
theorem dX6_writeGap_88 : decode cX6_writeGap 88 = .ok (.ior, 1) := by decide +kernel
theorem dX6_writeGap_89 : decode cX6_writeGap 89 = .ok (.istore 5, 2) := by decide +kernel
theorem dX6_writeGap_91 : decode cX6_writeGap 91 = .ok (.iload 6, 2) := by decide +kernel
theorem dX6_writeGap_93 : decode cX6_writeGap 93 = .ok (.iload 10, 2) := by decide +kernel
theorem dX6_writeGap_95 : decode cX6_writeGap 95 = .ok (.ifCond .eq 15, 3) := by decide +kernel
theorem dX6_writeGap_98 : decode cX6_writeGap 98 = .ok (.iload 9, 2) := by decide +kernel
theorem dX6_writeGap_100 : decode cX6_writeGap 100 = .ok (.ifCond .ne 10, 3) := by decide +kernel
theorem dX6_writeGap_103 : decode cX6_writeGap 103 = .ok (.iconst 1, 1) := by decide +kernel
theorem dX6_writeGap_104 : decode cX6_writeGap 104 = .ok (.iload 8, 2) := by decide +kernel
theorem dX6_writeGap_106 : decode cX6_writeGap 106 = .ok (.ishl, 1) := by decide +kernel
theorem dX6_writeGap_107 : decode cX6_writeGap 107 = .ok (.goto 4, 3) := by decide +kernel
theorem dX6_writeGap_110 : decode cX6_writeGap 110 = .ok (.iconst 0, 1) := by decide +kernel
theorem dX6_writeGap_111 : decode cX6_writeGap 111 = .ok (.ior, 1) := by decide +kernel
theorem dX6_writeGap_112 : decode cX6_writeGap 112 = .ok (.istore 6, 2) := by decide +kernel
theorem dX6_writeGap_114 : decode cX6_writeGap 114 = .ok (.iload 7, 2) := by decide +kernel
theorem dX6_writeGap_116 : decode cX6_writeGap 116 = .ok (.iload 9, 2) := by decide +kernel
theorem dX6_writeGap_118 : decode cX6_writeGap 118 = .ok (.ifCond .eq 15, 3) := by decide +kernel
theorem dX6_writeGap_121 : decode cX6_writeGap 121 = .ok (.iload 10, 2) := by decide +kernel
theorem dX6_writeGap_123 : decode cX6_writeGap 123 = .ok (.ifCond .ne 10, 3) := by decide +kernel
theorem dX6_writeGap_126 : decode cX6_writeGap 126 = .ok (.iconst 1, 1) := by decide +kernel
theorem dX6_writeGap_127 : decode cX6_writeGap 127 = .ok (.iload 8, 2) := by decide +kernel
theorem dX6_writeGap_129 : decode cX6_writeGap 129 = .ok (.ishl, 1) := by decide +kernel
theorem dX6_writeGap_130 : decode cX6_writeGap 130 = .ok (.goto 4, 3) := by decide +kernel
theorem dX6_writeGap_133 : decode cX6_writeGap 133 = .ok (.iconst 0, 1) := by decide +kernel
theorem dX6_writeGap_134 : decode cX6_writeGap 134 = .ok (.ior, 1) := by decide +kernel
theorem dX6_writeGap_135 : decode cX6_writeGap 135 = .ok (.istore 7, 2) := by decide +kernel
theorem dX6_writeGap_137 : decode cX6_writeGap 137 = .ok (.iinc 8 1, 3) := by decide +kernel
theorem dX6_writeGap_140 : decode cX6_writeGap 140 = .ok (.goto (-128), 3) := by decide +kernel
theorem dX6_writeGap_143 : decode cX6_writeGap 143 = .ok (.iload 5, 2) := by decide +kernel
theorem dX6_writeGap_145 : decode cX6_writeGap 145 = .ok (.aload_n 1, 1) := by decide +kernel
theorem dX6_writeGap_146 : decode cX6_writeGap 146 = .ok (.iload 6, 2) := by decide +kernel
theorem dX6_writeGap_148 : decode cX6_writeGap 148 = .ok (.invokestatic 56, 3) := by decide +kernel
theorem dX6_writeGap_151 : decode cX6_writeGap 151 = .ok (.iand, 1) := by decide +kernel
theorem dX6_writeGap_152 : decode cX6_writeGap 152 = .ok (.istore 8, 2) := by decide +kernel
theorem dX6_writeGap_154 : decode cX6_writeGap 154 = .ok (.iload 5, 2) := by decide +kernel
theorem dX6_writeGap_156 : decode cX6_writeGap 156 = .ok (.iload 8, 2) := by decide +kernel
theorem dX6_writeGap_158 : decode cX6_writeGap 158 = .ok (.iconst (-1), 1) := by decide +kernel
theorem dX6_writeGap_159 : decode cX6_writeGap 159 = .ok (.ixor, 1) := by decide +kernel
theorem dX6_writeGap_160 : decode cX6_writeGap 160 = .ok (.iand, 1) := by decide +kernel
theorem dX6_writeGap_161 : decode cX6_writeGap 161 = .ok (.aload_n 1, 1) := by decide +kernel
theorem dX6_writeGap_162 : decode cX6_writeGap 162 = .ok (.iload 7, 2) := by decide +kernel
theorem dX6_writeGap_164 : decode cX6_writeGap 164 = .ok (.invokestatic 56, 3) := by decide +kernel
theorem dX6_writeGap_167 : decode cX6_writeGap 167 = .ok (.iand, 1) := by decide +kernel
theorem dX6_writeGap_168 : decode cX6_writeGap 168 = .ok (.istore 9, 2) := by decide +kernel
theorem dX6_writeGap_170 : decode cX6_writeGap 170 = .ok (.aload_n 0, 1) := by decide +kernel
theorem dX6_writeGap_171 : decode cX6_writeGap 171 = .ok (.iload 8, 2) := by decide +kernel
theorem dX6_writeGap_173 : decode cX6_writeGap 173 = .ok (.invokevirtual 60, 3) := by decide +kernel
theorem dX6_writeGap_176 : decode cX6_writeGap 176 = .ok (.aload_n 0, 1) := by decide +kernel
theorem dX6_writeGap_177 : decode cX6_writeGap 177 = .ok (.aload_n 1, 1) := by decide +kernel
theorem dX6_writeGap_178 : decode cX6_writeGap 178 = .ok (.aload_n 2, 1) := by decide +kernel
theorem dX6_writeGap_179 : decode cX6_writeGap 179 = .ok (.invokevirtual 63, 3) := by decide +kernel
theorem dX6_writeGap_182 : decode cX6_writeGap 182 = .ok (.aload_n 0, 1) := by decide +kernel
theorem dX6_writeGap_183 : decode cX6_writeGap 183 = .ok (.iload 6, 2) := by decide +kernel
theorem dX6_writeGap_185 : decode cX6_writeGap 185 = .ok (.bipush 97, 2) := by decide +kernel
theorem dX6_writeGap_187 : decode cX6_writeGap 187 = .ok (.invokevirtual 67, 3) := by decide +kernel
theorem dX6_writeGap_190 : decode cX6_writeGap 190 = .ok (.aload_n 0, 1) := by decide +kernel
theorem dX6_writeGap_191 : decode cX6_writeGap 191 = .ok (.aload_n 1, 1) := by decide +kernel
theorem dX6_writeGap_192 : decode cX6_writeGap 192 = .ok (.aload_n 3, 1) := by decide +kernel
theorem dX6_writeGap_193 : decode cX6_writeGap 193 = .ok (.iload 4, 2) := by decide +kernel
theorem dX6_writeGap_195 : decode cX6_writeGap 195 = .ok (.invokevirtual 71, 3) := by decide +kernel
theorem dX6_writeGap_198 : decode cX6_writeGap 198 = .ok (.aload_n 0, 1) := by decide +kernel
theorem dX6_writeGap_199 : decode cX6_writeGap 199 = .ok (.iload 5, 2) := by decide +kernel
theorem dX6_writeGap_201 : decode cX6_writeGap 201 = .ok (.iload 8, 2) := by decide +kernel
theorem dX6_writeGap_203 : decode cX6_writeGap 203 = .ok (.iconst (-1), 1) := by decide +kernel
theorem dX6_writeGap_204 : decode cX6_writeGap 204 = .ok (.ixor, 1) := by decide +kernel
theorem dX6_writeGap_205 : decode cX6_writeGap 205 = .ok (.iand, 1) := by decide +kernel
theorem dX6_writeGap_206 : decode cX6_writeGap 206 = .ok (.iload 9, 2) := by decide +kernel
theorem dX6_writeGap_208 : decode cX6_writeGap 208 = .ok (.iconst (-1), 1) := by decide +kernel
theorem dX6_writeGap_209 : decode cX6_writeGap 209 = .ok (.ixor, 1) := by decide +kernel
theorem dX6_writeGap_210 : decode cX6_writeGap 210 = .ok (.iand, 1) := by decide +kernel
theorem dX6_writeGap_211 : decode cX6_writeGap 211 = .ok (.invokevirtual 60, 3) := by decide +kernel
theorem dX6_writeGap_214 : decode cX6_writeGap 214 = .ok (.aload_n 0, 1) := by decide +kernel
theorem dX6_writeGap_215 : decode cX6_writeGap 215 = .ok (.aload_n 1, 1) := by decide +kernel
theorem dX6_writeGap_216 : decode cX6_writeGap 216 = .ok (.aload_n 2, 1) := by decide +kernel
theorem dX6_writeGap_217 : decode cX6_writeGap 217 = .ok (.invokevirtual 75, 3) := by decide +kernel
theorem dX6_writeGap_220 : decode cX6_writeGap 220 = .ok (.aload_n 0, 1) := by decide +kernel
theorem dX6_writeGap_221 : decode cX6_writeGap 221 = .ok (.iload 7, 2) := by decide +kernel
theorem dX6_writeGap_223 : decode cX6_writeGap 223 = .ok (.bipush 65, 2) := by decide +kernel
theorem dX6_writeGap_225 : decode cX6_writeGap 225 = .ok (.invokevirtual 67, 3) := by decide +kernel
theorem dX6_writeGap_228 : decode cX6_writeGap 228 = .ok (.aload_n 0, 1) := by decide +kernel
theorem dX6_writeGap_229 : decode cX6_writeGap 229 = .ok (.iload 9, 2) := by decide +kernel
theorem dX6_writeGap_231 : decode cX6_writeGap 231 = .ok (.invokevirtual 60, 3) := by decide +kernel
theorem dX6_writeGap_234 : decode cX6_writeGap 234 = .ok (.return_, 1) := by decide +kernel
set_option maxRecDepth 20000 in
theorem ggX6_heldByAny_X7_has : GoodIn wsX6_heldByAny wsX7_has := goodIn_r _ [4] (by decide +kernel) (by decide +kernel)
set_option maxRecDepth 20000 in
theorem gX6_heldByAny_X7_has_n44 : GoodIn wsX6_heldByAny (wsX7_has) := ggX6_heldByAny_X7_has
theorem dX6_heldByAny_0 : decode cX6_heldByAny 0 = .ok (.iconst 0, 1) := by decide +kernel
theorem dX6_heldByAny_1 : decode cX6_heldByAny 1 = .ok (.istore_n 2, 1) := by decide +kernel
theorem dX6_heldByAny_2 : decode cX6_heldByAny 2 = .ok (.iconst 0, 1) := by decide +kernel
theorem dX6_heldByAny_3 : decode cX6_heldByAny 3 = .ok (.istore_n 3, 1) := by decide +kernel
theorem dX6_heldByAny_4 : decode cX6_heldByAny 4 = .ok (.iload_n 3, 1) := by decide +kernel
theorem dX6_heldByAny_5 : decode cX6_heldByAny 5 = .ok (.iconst 5, 1) := by decide +kernel
theorem dX6_heldByAny_6 : decode cX6_heldByAny 6 = .ok (.if_icmp .ge 26, 3) := by decide +kernel
theorem dX6_heldByAny_9 : decode cX6_heldByAny 9 = .ok (.iload_n 1, 1) := by decide +kernel
theorem dX6_heldByAny_10 : decode cX6_heldByAny 10 = .ok (.iload_n 3, 1) := by decide +kernel
theorem dX6_heldByAny_11 : decode cX6_heldByAny 11 = .ok (.invokestatic 44, 3) := by decide +kernel
theorem dX6_heldByAny_14 : decode cX6_heldByAny 14 = .ok (.ifCond .eq 12, 3) := by decide +kernel
theorem dX6_heldByAny_17 : decode cX6_heldByAny 17 = .ok (.iload_n 2, 1) := by decide +kernel
theorem dX6_heldByAny_18 : decode cX6_heldByAny 18 = .ok (.aload_n 0, 1) := by decide +kernel
theorem dX6_heldByAny_19 : decode cX6_heldByAny 19 = .ok (.getfield 78, 3) := by decide +kernel
theorem dX6_heldByAny_22 : decode cX6_heldByAny 22 = .ok (.iload_n 3, 1) := by decide +kernel
theorem dX6_heldByAny_23 : decode cX6_heldByAny 23 = .ok (.iaload, 1) := by decide +kernel
theorem dX6_heldByAny_24 : decode cX6_heldByAny 24 = .ok (.ior, 1) := by decide +kernel
theorem dX6_heldByAny_25 : decode cX6_heldByAny 25 = .ok (.istore_n 2, 1) := by decide +kernel
theorem dX6_heldByAny_26 : decode cX6_heldByAny 26 = .ok (.iinc 3 1, 3) := by decide +kernel
theorem dX6_heldByAny_29 : decode cX6_heldByAny 29 = .ok (.goto (-25), 3) := by decide +kernel
theorem dX6_heldByAny_32 : decode cX6_heldByAny 32 = .ok (.iload_n 2, 1) := by decide +kernel
theorem dX6_heldByAny_33 : decode cX6_heldByAny 33 = .ok (.ireturn, 1) := by decide +kernel
set_option maxRecDepth 20000 in
theorem ggX6_addEmpty_X7_has : GoodIn wsX6_addEmpty wsX7_has := goodIn_r _ [3] (by decide +kernel) (by decide +kernel)
set_option maxRecDepth 20000 in
theorem gX6_addEmpty_X7_has_n44 : GoodIn wsX6_addEmpty (wsX7_has) := ggX6_addEmpty_X7_has
set_option maxRecDepth 20000 in
theorem ggX6_addEmpty_X6_add : GoodIn wsX6_addEmpty wsX6_add := goodIn_r _ [8, 9, 10, 11, 12, 13] (by decide +kernel) (by decide +kernel)
set_option maxRecDepth 20000 in
theorem gX6_addEmpty_X6_add : GoodIn wsX6_addEmpty (wsV RX6 35 RX6 yX6_add wsX6_add) := goodIn_app (goodIn_of _ (by decide +kernel)) ggX6_addEmpty_X6_add
theorem dX6_addEmpty_0 : decode cX6_addEmpty 0 = .ok (.iconst 0, 1) := by decide +kernel
theorem dX6_addEmpty_1 : decode cX6_addEmpty 1 = .ok (.istore_n 2, 1) := by decide +kernel
theorem dX6_addEmpty_2 : decode cX6_addEmpty 2 = .ok (.iload_n 2, 1) := by decide +kernel
theorem dX6_addEmpty_3 : decode cX6_addEmpty 3 = .ok (.iconst 5, 1) := by decide +kernel
theorem dX6_addEmpty_4 : decode cX6_addEmpty 4 = .ok (.if_icmp .ge 33, 3) := by decide +kernel
theorem dX6_addEmpty_7 : decode cX6_addEmpty 7 = .ok (.iload_n 1, 1) := by decide +kernel
theorem dX6_addEmpty_8 : decode cX6_addEmpty 8 = .ok (.iload_n 2, 1) := by decide +kernel
theorem dX6_addEmpty_9 : decode cX6_addEmpty 9 = .ok (.invokestatic 44, 3) := by decide +kernel
theorem dX6_addEmpty_12 : decode cX6_addEmpty 12 = .ok (.ifCond .eq 19, 3) := by decide +kernel
theorem dX6_addEmpty_15 : decode cX6_addEmpty 15 = .ok (.aload_n 0, 1) := by decide +kernel
theorem dX6_addEmpty_16 : decode cX6_addEmpty 16 = .ok (.bipush 65, 2) := by decide +kernel
theorem dX6_addEmpty_18 : decode cX6_addEmpty 18 = .ok (.iload_n 2, 1) := by decide +kernel
theorem dX6_addEmpty_19 : decode cX6_addEmpty 19 = .ok (.iadd, 1) := by decide +kernel
theorem dX6_addEmpty_20 : decode cX6_addEmpty 20 = .ok (.invokevirtual 35, 3) := by decide +kernel
theorem dX6_addEmpty_23 : decode cX6_addEmpty 23 = .ok (.aload_n 0, 1) := by decide +kernel
theorem dX6_addEmpty_24 : decode cX6_addEmpty 24 = .ok (.bipush 97, 2) := by decide +kernel
theorem dX6_addEmpty_26 : decode cX6_addEmpty 26 = .ok (.iload_n 2, 1) := by decide +kernel
theorem dX6_addEmpty_27 : decode cX6_addEmpty 27 = .ok (.iadd, 1) := by decide +kernel
theorem dX6_addEmpty_28 : decode cX6_addEmpty 28 = .ok (.invokevirtual 35, 3) := by decide +kernel
theorem dX6_addEmpty_31 : decode cX6_addEmpty 31 = .ok (.iinc 2 1, 3) := by decide +kernel
theorem dX6_addEmpty_34 : decode cX6_addEmpty 34 = .ok (.goto (-32), 3) := by decide +kernel
theorem dX6_addEmpty_37 : decode cX6_addEmpty 37 = .ok (.return_, 1) := by decide +kernel
set_option maxRecDepth 20000 in
theorem ggX6_rankClosing_X4_depth : GoodIn wsX6_rankClosing wsX4_depth := goodIn_r _ [7, 8, 9, 10, 11, 12, 13, 14, 15, 27, 28, 29, 30, 31, 32, 33, 34, 35, 36, 37, 38] (by decide +kernel) (by decide +kernel)
set_option maxRecDepth 20000 in
theorem gX6_rankClosing_X4_depth : GoodIn wsX6_rankClosing (wsV RX6 81 RX4 yX4_depth wsX4_depth) := goodIn_app (goodIn_of _ (by decide +kernel)) ggX6_rankClosing_X4_depth
theorem dX6_rankClosing_0 : decode cX6_rankClosing 0 = .ok (.iconst 0, 1) := by decide +kernel
theorem dX6_rankClosing_1 : decode cX6_rankClosing 1 = .ok (.istore_n 3, 1) := by decide +kernel
theorem dX6_rankClosing_2 : decode cX6_rankClosing 2 = .ok (.iload_n 3, 1) := by decide +kernel
theorem dX6_rankClosing_3 : decode cX6_rankClosing 3 = .ok (.iconst 5, 1) := by decide +kernel
theorem dX6_rankClosing_4 : decode cX6_rankClosing 4 = .ok (.if_icmp .ge 33, 3) := by decide +kernel
theorem dX6_rankClosing_7 : decode cX6_rankClosing 7 = .ok (.aload_n 0, 1) := by decide +kernel
theorem dX6_rankClosing_8 : decode cX6_rankClosing 8 = .ok (.getfield 15, 3) := by decide +kernel
theorem dX6_rankClosing_11 : decode cX6_rankClosing 11 = .ok (.iload_n 3, 1) := by decide +kernel
theorem dX6_rankClosing_12 : decode cX6_rankClosing 12 = .ok (.aload_n 2, 1) := by decide +kernel
theorem dX6_rankClosing_13 : decode cX6_rankClosing 13 = .ok (.getfield 48, 3) := by decide +kernel
theorem dX6_rankClosing_16 : decode cX6_rankClosing 16 = .ok (.iload_n 3, 1) := by decide +kernel
theorem dX6_rankClosing_17 : decode cX6_rankClosing 17 = .ok (.iaload, 1) := by decide +kernel
theorem dX6_rankClosing_18 : decode cX6_rankClosing 18 = .ok (.iconst 5, 1) := by decide +kernel
theorem dX6_rankClosing_19 : decode cX6_rankClosing 19 = .ok (.imul, 1) := by decide +kernel
theorem dX6_rankClosing_20 : decode cX6_rankClosing 20 = .ok (.aload_n 1, 1) := by decide +kernel
theorem dX6_rankClosing_21 : decode cX6_rankClosing 21 = .ok (.iload_n 3, 1) := by decide +kernel
theorem dX6_rankClosing_22 : decode cX6_rankClosing 22 = .ok (.invokevirtual 81, 3) := by decide +kernel
theorem dX6_rankClosing_25 : decode cX6_rankClosing 25 = .ok (.iadd, 1) := by decide +kernel
theorem dX6_rankClosing_26 : decode cX6_rankClosing 26 = .ok (.iconst 5, 1) := by decide +kernel
theorem dX6_rankClosing_27 : decode cX6_rankClosing 27 = .ok (.imul, 1) := by decide +kernel
theorem dX6_rankClosing_28 : decode cX6_rankClosing 28 = .ok (.iload_n 3, 1) := by decide +kernel
theorem dX6_rankClosing_29 : decode cX6_rankClosing 29 = .ok (.iadd, 1) := by decide +kernel
theorem dX6_rankClosing_30 : decode cX6_rankClosing 30 = .ok (.iastore, 1) := by decide +kernel
theorem dX6_rankClosing_31 : decode cX6_rankClosing 31 = .ok (.iinc 3 1, 3) := by decide +kernel
theorem dX6_rankClosing_34 : decode cX6_rankClosing 34 = .ok (.goto (-32), 3) := by decide +kernel
theorem dX6_rankClosing_37 : decode cX6_rankClosing 37 = .ok (.return_, 1) := by decide +kernel
set_option maxRecDepth 20000 in
theorem ggX6_rankOpening_X4_depth : GoodIn wsX6_rankOpening wsX4_depth := goodIn_r _ [7, 8, 9, 10, 11, 12, 13, 14, 15, 27, 28, 29, 30, 31, 32, 33, 34, 35, 36, 37, 38] (by decide +kernel) (by decide +kernel)
set_option maxRecDepth 20000 in
theorem gX6_rankOpening_X4_depth : GoodIn wsX6_rankOpening (wsV RX6 81 RX4 yX4_depth wsX4_depth) := goodIn_app (goodIn_of _ (by decide +kernel)) ggX6_rankOpening_X4_depth
theorem dX6_rankOpening_0 : decode cX6_rankOpening 0 = .ok (.iconst 0, 1) := by decide +kernel
theorem dX6_rankOpening_1 : decode cX6_rankOpening 1 = .ok (.istore_n 3, 1) := by decide +kernel
theorem dX6_rankOpening_2 : decode cX6_rankOpening 2 = .ok (.iload_n 3, 1) := by decide +kernel
theorem dX6_rankOpening_3 : decode cX6_rankOpening 3 = .ok (.iconst 5, 1) := by decide +kernel
theorem dX6_rankOpening_4 : decode cX6_rankOpening 4 = .ok (.if_icmp .ge 33, 3) := by decide +kernel
theorem dX6_rankOpening_7 : decode cX6_rankOpening 7 = .ok (.aload_n 0, 1) := by decide +kernel
theorem dX6_rankOpening_8 : decode cX6_rankOpening 8 = .ok (.getfield 15, 3) := by decide +kernel
theorem dX6_rankOpening_11 : decode cX6_rankOpening 11 = .ok (.iload_n 3, 1) := by decide +kernel
theorem dX6_rankOpening_12 : decode cX6_rankOpening 12 = .ok (.aload_n 2, 1) := by decide +kernel
theorem dX6_rankOpening_13 : decode cX6_rankOpening 13 = .ok (.getfield 53, 3) := by decide +kernel
theorem dX6_rankOpening_16 : decode cX6_rankOpening 16 = .ok (.iload_n 3, 1) := by decide +kernel
theorem dX6_rankOpening_17 : decode cX6_rankOpening 17 = .ok (.iaload, 1) := by decide +kernel
theorem dX6_rankOpening_18 : decode cX6_rankOpening 18 = .ok (.iconst 5, 1) := by decide +kernel
theorem dX6_rankOpening_19 : decode cX6_rankOpening 19 = .ok (.imul, 1) := by decide +kernel
theorem dX6_rankOpening_20 : decode cX6_rankOpening 20 = .ok (.aload_n 1, 1) := by decide +kernel
theorem dX6_rankOpening_21 : decode cX6_rankOpening 21 = .ok (.iload_n 3, 1) := by decide +kernel
theorem dX6_rankOpening_22 : decode cX6_rankOpening 22 = .ok (.invokevirtual 81, 3) := by decide +kernel
theorem dX6_rankOpening_25 : decode cX6_rankOpening 25 = .ok (.isub, 1) := by decide +kernel
theorem dX6_rankOpening_26 : decode cX6_rankOpening 26 = .ok (.iconst 5, 1) := by decide +kernel
theorem dX6_rankOpening_27 : decode cX6_rankOpening 27 = .ok (.imul, 1) := by decide +kernel
theorem dX6_rankOpening_28 : decode cX6_rankOpening 28 = .ok (.iload_n 3, 1) := by decide +kernel
theorem dX6_rankOpening_29 : decode cX6_rankOpening 29 = .ok (.isub, 1) := by decide +kernel
theorem dX6_rankOpening_30 : decode cX6_rankOpening 30 = .ok (.iastore, 1) := by decide +kernel
theorem dX6_rankOpening_31 : decode cX6_rankOpening 31 = .ok (.iinc 3 1, 3) := by decide +kernel
theorem dX6_rankOpening_34 : decode cX6_rankOpening 34 = .ok (.goto (-32), 3) := by decide +kernel
theorem dX6_rankOpening_37 : decode cX6_rankOpening 37 = .ok (.return_, 1) := by decide +kernel
set_option maxRecDepth 20000 in
theorem ggX6_addRanked_X6_greatestRank : GoodIn wsX6_addRanked wsX6_greatestRank := goodIn_r _ [5, 6, 7, 8, 9, 16, 17, 18] (by decide +kernel) (by decide +kernel)
set_option maxRecDepth 20000 in
theorem gX6_addRanked_X6_greatestRank : GoodIn wsX6_addRanked (wsV RX6 85 RX6 yX6_greatestRank wsX6_greatestRank) := goodIn_app (goodIn_of _ (by decide +kernel)) ggX6_addRanked_X6_greatestRank
set_option maxRecDepth 20000 in
theorem ggX6_addRanked_X6_add : GoodIn wsX6_addRanked wsX6_add := goodIn_r _ [13, 14, 15, 16, 17, 18] (by decide +kernel) (by decide +kernel)
set_option maxRecDepth 20000 in
theorem gX6_addRanked_X6_add : GoodIn wsX6_addRanked (wsV RX6 35 RX6 yX6_add wsX6_add) := goodIn_app (goodIn_of _ (by decide +kernel)) ggX6_addRanked_X6_add
theorem dX6_addRanked_0 : decode cX6_addRanked 0 = .ok (.iload_n 1, 1) := by decide +kernel
theorem dX6_addRanked_1 : decode cX6_addRanked 1 = .ok (.istore_n 3, 1) := by decide +kernel
theorem dX6_addRanked_2 : decode cX6_addRanked 2 = .ok (.iconst 0, 1) := by decide +kernel
theorem dX6_addRanked_3 : decode cX6_addRanked 3 = .ok (.istore 4, 2) := by decide +kernel
theorem dX6_addRanked_5 : decode cX6_addRanked 5 = .ok (.iload 4, 2) := by decide +kernel
theorem dX6_addRanked_7 : decode cX6_addRanked 7 = .ok (.iconst 5, 1) := by decide +kernel
theorem dX6_addRanked_8 : decode cX6_addRanked 8 = .ok (.if_icmp .ge 37, 3) := by decide +kernel
theorem dX6_addRanked_11 : decode cX6_addRanked 11 = .ok (.iload_n 3, 1) := by decide +kernel
theorem dX6_addRanked_12 : decode cX6_addRanked 12 = .ok (.ifCond .eq 33, 3) := by decide +kernel
theorem dX6_addRanked_15 : decode cX6_addRanked 15 = .ok (.aload_n 0, 1) := by decide +kernel
theorem dX6_addRanked_16 : decode cX6_addRanked 16 = .ok (.iload_n 3, 1) := by decide +kernel
theorem dX6_addRanked_17 : decode cX6_addRanked 17 = .ok (.invokevirtual 85, 3) := by decide +kernel
theorem dX6_addRanked_20 : decode cX6_addRanked 20 = .ok (.istore 5, 2) := by decide +kernel
theorem dX6_addRanked_22 : decode cX6_addRanked 22 = .ok (.aload_n 0, 1) := by decide +kernel
theorem dX6_addRanked_23 : decode cX6_addRanked 23 = .ok (.iload_n 2, 1) := by decide +kernel
theorem dX6_addRanked_24 : decode cX6_addRanked 24 = .ok (.iload 5, 2) := by decide +kernel
theorem dX6_addRanked_26 : decode cX6_addRanked 26 = .ok (.iadd, 1) := by decide +kernel
theorem dX6_addRanked_27 : decode cX6_addRanked 27 = .ok (.invokevirtual 35, 3) := by decide +kernel
theorem dX6_addRanked_30 : decode cX6_addRanked 30 = .ok (.iload_n 3, 1) := by decide +kernel
theorem dX6_addRanked_31 : decode cX6_addRanked 31 = .ok (.iconst 1, 1) := by decide +kernel
theorem dX6_addRanked_32 : decode cX6_addRanked 32 = .ok (.iload 5, 2) := by decide +kernel
theorem dX6_addRanked_34 : decode cX6_addRanked 34 = .ok (.ishl, 1) := by decide +kernel
theorem dX6_addRanked_35 : decode cX6_addRanked 35 = .ok (.iconst (-1), 1) := by decide +kernel
theorem dX6_addRanked_36 : decode cX6_addRanked 36 = .ok (.ixor, 1) := by decide +kernel
theorem dX6_addRanked_37 : decode cX6_addRanked 37 = .ok (.iand, 1) := by decide +kernel
theorem dX6_addRanked_38 : decode cX6_addRanked 38 = .ok (.istore_n 3, 1) := by decide +kernel
theorem dX6_addRanked_39 : decode cX6_addRanked 39 = .ok (.iinc 4 1, 3) := by decide +kernel
theorem dX6_addRanked_42 : decode cX6_addRanked 42 = .ok (.goto (-37), 3) := by decide +kernel
theorem dX6_addRanked_45 : decode cX6_addRanked 45 = .ok (.return_, 1) := by decide +kernel
set_option maxRecDepth 20000 in
theorem ggX6_greatestRank_X7_has : GoodIn wsX6_greatestRank wsX7_has := goodIn_r _ [4] (by decide +kernel) (by decide +kernel)
set_option maxRecDepth 20000 in
theorem gX6_greatestRank_X7_has_n44 : GoodIn wsX6_greatestRank (wsX7_has) := ggX6_greatestRank_X7_has
theorem dX6_greatestRank_0 : decode cX6_greatestRank 0 = .ok (.iconst (-1), 1) := by decide +kernel
theorem dX6_greatestRank_1 : decode cX6_greatestRank 1 = .ok (.istore_n 2, 1) := by decide +kernel
theorem dX6_greatestRank_2 : decode cX6_greatestRank 2 = .ok (.iconst 0, 1) := by decide +kernel
theorem dX6_greatestRank_3 : decode cX6_greatestRank 3 = .ok (.istore_n 3, 1) := by decide +kernel
theorem dX6_greatestRank_4 : decode cX6_greatestRank 4 = .ok (.iload_n 3, 1) := by decide +kernel
theorem dX6_greatestRank_5 : decode cX6_greatestRank 5 = .ok (.iconst 5, 1) := by decide +kernel
theorem dX6_greatestRank_6 : decode cX6_greatestRank 6 = .ok (.if_icmp .ge 38, 3) := by decide +kernel
theorem dX6_greatestRank_9 : decode cX6_greatestRank 9 = .ok (.iload_n 1, 1) := by decide +kernel
theorem dX6_greatestRank_10 : decode cX6_greatestRank 10 = .ok (.iload_n 3, 1) := by decide +kernel
theorem dX6_greatestRank_11 : decode cX6_greatestRank 11 = .ok (.invokestatic 44, 3) := by decide +kernel
theorem dX6_greatestRank_14 : decode cX6_greatestRank 14 = .ok (.ifCond .eq 24, 3) := by decide +kernel
theorem dX6_greatestRank_17 : decode cX6_greatestRank 17 = .ok (.iload_n 2, 1) := by decide +kernel
theorem dX6_greatestRank_18 : decode cX6_greatestRank 18 = .ok (.ifCond .lt 18, 3) := by decide +kernel
theorem dX6_greatestRank_21 : decode cX6_greatestRank 21 = .ok (.aload_n 0, 1) := by decide +kernel
theorem dX6_greatestRank_22 : decode cX6_greatestRank 22 = .ok (.getfield 15, 3) := by decide +kernel
theorem dX6_greatestRank_25 : decode cX6_greatestRank 25 = .ok (.iload_n 3, 1) := by decide +kernel
theorem dX6_greatestRank_26 : decode cX6_greatestRank 26 = .ok (.iaload, 1) := by decide +kernel
theorem dX6_greatestRank_27 : decode cX6_greatestRank 27 = .ok (.aload_n 0, 1) := by decide +kernel
theorem dX6_greatestRank_28 : decode cX6_greatestRank 28 = .ok (.getfield 15, 3) := by decide +kernel
theorem dX6_greatestRank_31 : decode cX6_greatestRank 31 = .ok (.iload_n 2, 1) := by decide +kernel
theorem dX6_greatestRank_32 : decode cX6_greatestRank 32 = .ok (.iaload, 1) := by decide +kernel
theorem dX6_greatestRank_33 : decode cX6_greatestRank 33 = .ok (.if_icmp .le 5, 3) := by decide +kernel
theorem dX6_greatestRank_36 : decode cX6_greatestRank 36 = .ok (.iload_n 3, 1) := by decide +kernel
theorem dX6_greatestRank_37 : decode cX6_greatestRank 37 = .ok (.istore_n 2, 1) := by decide +kernel
theorem dX6_greatestRank_38 : decode cX6_greatestRank 38 = .ok (.iinc 3 1, 3) := by decide +kernel
theorem dX6_greatestRank_41 : decode cX6_greatestRank 41 = .ok (.goto (-37), 3) := by decide +kernel
theorem dX6_greatestRank_44 : decode cX6_greatestRank 44 = .ok (.iload_n 2, 1) := by decide +kernel
theorem dX6_greatestRank_45 : decode cX6_greatestRank 45 = .ok (.ireturn, 1) := by decide +kernel
set_option maxRecDepth 20000 in
theorem ggX6_addMarks_X6_add : GoodIn wsX6_addMarks wsX6_add := goodIn_r _ [8, 9, 10, 27, 28, 29] (by decide +kernel) (by decide +kernel)
set_option maxRecDepth 20000 in
theorem gX6_addMarks_X6_add : GoodIn wsX6_addMarks (wsV RX6 35 RX6 yX6_add wsX6_add) := goodIn_app (goodIn_of _ (by decide +kernel)) ggX6_addMarks_X6_add
theorem dX6_addMarks_0 : decode cX6_addMarks 0 = .ok (.iconst 0, 1) := by decide +kernel
theorem dX6_addMarks_1 : decode cX6_addMarks 1 = .ok (.istore 4, 2) := by decide +kernel
theorem dX6_addMarks_3 : decode cX6_addMarks 3 = .ok (.iload 4, 2) := by decide +kernel
theorem dX6_addMarks_5 : decode cX6_addMarks 5 = .ok (.aload_n 1, 1) := by decide +kernel
theorem dX6_addMarks_6 : decode cX6_addMarks 6 = .ok (.getfield 88, 3) := by decide +kernel
theorem dX6_addMarks_9 : decode cX6_addMarks 9 = .ok (.if_icmp .ge 38, 3) := by decide +kernel
theorem dX6_addMarks_12 : decode cX6_addMarks 12 = .ok (.aload_n 1, 1) := by decide +kernel
theorem dX6_addMarks_13 : decode cX6_addMarks 13 = .ok (.getfield 91, 3) := by decide +kernel
theorem dX6_addMarks_16 : decode cX6_addMarks 16 = .ok (.iload 4, 2) := by decide +kernel
theorem dX6_addMarks_18 : decode cX6_addMarks 18 = .ok (.iaload, 1) := by decide +kernel
theorem dX6_addMarks_19 : decode cX6_addMarks 19 = .ok (.istore 5, 2) := by decide +kernel
theorem dX6_addMarks_21 : decode cX6_addMarks 21 = .ok (.aload_n 2, 1) := by decide +kernel
theorem dX6_addMarks_22 : decode cX6_addMarks 22 = .ok (.getfield 94, 3) := by decide +kernel
theorem dX6_addMarks_25 : decode cX6_addMarks 25 = .ok (.iload 5, 2) := by decide +kernel
theorem dX6_addMarks_27 : decode cX6_addMarks 27 = .ok (.iaload, 1) := by decide +kernel
theorem dX6_addMarks_28 : decode cX6_addMarks 28 = .ok (.iload_n 3, 1) := by decide +kernel
theorem dX6_addMarks_29 : decode cX6_addMarks 29 = .ok (.if_icmp .ne 12, 3) := by decide +kernel
theorem dX6_addMarks_32 : decode cX6_addMarks 32 = .ok (.aload_n 0, 1) := by decide +kernel
theorem dX6_addMarks_33 : decode cX6_addMarks 33 = .ok (.bipush 120, 2) := by decide +kernel
theorem dX6_addMarks_35 : decode cX6_addMarks 35 = .ok (.iload 5, 2) := by decide +kernel
theorem dX6_addMarks_37 : decode cX6_addMarks 37 = .ok (.iadd, 1) := by decide +kernel
theorem dX6_addMarks_38 : decode cX6_addMarks 38 = .ok (.invokevirtual 35, 3) := by decide +kernel
theorem dX6_addMarks_41 : decode cX6_addMarks 41 = .ok (.iinc 4 1, 3) := by decide +kernel
theorem dX6_addMarks_44 : decode cX6_addMarks 44 = .ok (.goto (-41), 3) := by decide +kernel
theorem dX6_addMarks_47 : decode cX6_addMarks 47 = .ok (.return_, 1) := by decide +kernel
theorem dX6_add_0 : decode cX6_add 0 = .ok (.aload_n 0, 1) := by decide +kernel
theorem dX6_add_1 : decode cX6_add 1 = .ok (.getfield 18, 3) := by decide +kernel
theorem dX6_add_4 : decode cX6_add 4 = .ok (.bipush 21, 2) := by decide +kernel
theorem dX6_add_6 : decode cX6_add 6 = .ok (.if_icmp .ge 23, 3) := by decide +kernel
theorem dX6_add_9 : decode cX6_add 9 = .ok (.aload_n 0, 1) := by decide +kernel
theorem dX6_add_10 : decode cX6_add 10 = .ok (.getfield 9, 3) := by decide +kernel
theorem dX6_add_13 : decode cX6_add 13 = .ok (.aload_n 0, 1) := by decide +kernel
theorem dX6_add_14 : decode cX6_add 14 = .ok (.getfield 18, 3) := by decide +kernel
theorem dX6_add_17 : decode cX6_add 17 = .ok (.iload_n 1, 1) := by decide +kernel
theorem dX6_add_18 : decode cX6_add 18 = .ok (.iastore, 1) := by decide +kernel
theorem dX6_add_19 : decode cX6_add 19 = .ok (.aload_n 0, 1) := by decide +kernel
theorem dX6_add_20 : decode cX6_add 20 = .ok (.dup, 1) := by decide +kernel
theorem dX6_add_21 : decode cX6_add 21 = .ok (.getfield 18, 3) := by decide +kernel
theorem dX6_add_24 : decode cX6_add 24 = .ok (.iconst 1, 1) := by decide +kernel
theorem dX6_add_25 : decode cX6_add 25 = .ok (.iadd, 1) := by decide +kernel
theorem dX6_add_26 : decode cX6_add 26 = .ok (.putfield 18, 3) := by decide +kernel
theorem dX6_add_29 : decode cX6_add 29 = .ok (.return_, 1) := by decide +kernel
set_option maxRecDepth 20000 in
theorem ggX7_init_X1_init : GoodIn wsX7_init wsX1_init := goodIn_r _ [31, 32, 2, 3, 33, 34, 35, 36, 37, 38, 39, 40, 41, 42, 43, 44, 45, 46, 47, 48, 115, 116, 117, 118, 119, 120, 121, 122, 123, 124, 125, 126, 82, 83, 84] (by decide +kernel) (by decide +kernel)
set_option maxRecDepth 20000 in
theorem gX7_init_X1_init_n11 : GoodIn wsX7_init (wsX1_init) := ggX7_init_X1_init
set_option maxRecDepth 20000 in
theorem ggX7_init_X3_init : GoodIn wsX7_init wsX3_init := goodIn_r _ [50, 51, 2, 3, 52, 34, 35, 53, 37, 54, 39, 40, 41, 42, 43, 44, 45, 46, 47, 48, 115, 116, 117, 118, 119, 120, 121, 122, 123, 124, 125, 126, 93, 94, 95] (by decide +kernel) (by decide +kernel)
set_option maxRecDepth 20000 in
theorem gX7_init_X3_init_n18 : GoodIn wsX7_init (wsX3_init) := ggX7_init_X3_init
set_option maxRecDepth 20000 in
theorem ggX7_init_X5_init : GoodIn wsX7_init wsX5_init := goodIn_r _ [56, 57, 2, 3, 37, 58, 59, 60, 96, 97, 98, 99] (by decide +kernel) (by decide +kernel)
set_option maxRecDepth 20000 in
theorem gX7_init_X5_init_n29 : GoodIn wsX7_init (wsX5_init) := ggX7_init_X5_init
set_option maxRecDepth 20000 in
theorem ggX7_init_X2_init : GoodIn wsX7_init wsX2_init := goodIn_r _ [62, 63, 2, 3, 37, 64, 65, 66, 67, 68, 69, 70, 100, 101, 102, 103, 104, 105, 106, 107] (by decide +kernel) (by decide +kernel)
set_option maxRecDepth 20000 in
theorem gX7_init_X2_init_n36 : GoodIn wsX7_init (wsX2_init) := ggX7_init_X2_init
set_option maxRecDepth 20000 in
theorem ggX7_init_X0_init : GoodIn wsX7_init wsX0_init := goodIn_r _ [72, 73, 2, 3, 37, 74, 75, 76, 108, 109, 110, 111] (by decide +kernel) (by decide +kernel)
set_option maxRecDepth 20000 in
theorem gX7_init_X0_init_n43 : GoodIn wsX7_init (wsX0_init) := ggX7_init_X0_init
set_option maxRecDepth 20000 in
theorem ggX7_init_X6_init : GoodIn wsX7_init wsX6_init := goodIn_r _ [78, 79, 2, 3, 37, 80, 81, 112, 113, 114] (by decide +kernel) (by decide +kernel)
set_option maxRecDepth 20000 in
theorem gX7_init_X6_init_n50 : GoodIn wsX7_init (wsX6_init) := ggX7_init_X6_init
theorem dX7_init_0 : decode cX7_init 0 = .ok (.aload_n 0, 1) := by decide +kernel
theorem dX7_init_1 : decode cX7_init 1 = .ok (.invokespecial 3, 3) := by decide +kernel
theorem dX7_init_4 : decode cX7_init 4 = .ok (.aload_n 0, 1) := by decide +kernel
theorem dX7_init_5 : decode cX7_init 5 = .ok (.new 9, 3) := by decide +kernel
theorem dX7_init_8 : decode cX7_init 8 = .ok (.dup, 1) := by decide +kernel
theorem dX7_init_9 : decode cX7_init 9 = .ok (.invokespecial 11, 3) := by decide +kernel
theorem dX7_init_12 : decode cX7_init 12 = .ok (.putfield 12, 3) := by decide +kernel
theorem dX7_init_15 : decode cX7_init 15 = .ok (.aload_n 0, 1) := by decide +kernel
theorem dX7_init_16 : decode cX7_init 16 = .ok (.new 16, 3) := by decide +kernel
theorem dX7_init_19 : decode cX7_init 19 = .ok (.dup, 1) := by decide +kernel
theorem dX7_init_20 : decode cX7_init 20 = .ok (.invokespecial 18, 3) := by decide +kernel
theorem dX7_init_23 : decode cX7_init 23 = .ok (.putfield 19, 3) := by decide +kernel
theorem dX7_init_26 : decode cX7_init 26 = .ok (.aload_n 0, 1) := by decide +kernel
theorem dX7_init_27 : decode cX7_init 27 = .ok (.iconst 2, 1) := by decide +kernel
theorem dX7_init_28 : decode cX7_init 28 = .ok (.anewarray 16, 3) := by decide +kernel
theorem dX7_init_31 : decode cX7_init 31 = .ok (.putfield 23, 3) := by decide +kernel
theorem dX7_init_34 : decode cX7_init 34 = .ok (.aload_n 0, 1) := by decide +kernel
theorem dX7_init_35 : decode cX7_init 35 = .ok (.new 27, 3) := by decide +kernel
theorem dX7_init_38 : decode cX7_init 38 = .ok (.dup, 1) := by decide +kernel
theorem dX7_init_39 : decode cX7_init 39 = .ok (.invokespecial 29, 3) := by decide +kernel
theorem dX7_init_42 : decode cX7_init 42 = .ok (.putfield 30, 3) := by decide +kernel
theorem dX7_init_45 : decode cX7_init 45 = .ok (.aload_n 0, 1) := by decide +kernel
theorem dX7_init_46 : decode cX7_init 46 = .ok (.new 34, 3) := by decide +kernel
theorem dX7_init_49 : decode cX7_init 49 = .ok (.dup, 1) := by decide +kernel
theorem dX7_init_50 : decode cX7_init 50 = .ok (.invokespecial 36, 3) := by decide +kernel
theorem dX7_init_53 : decode cX7_init 53 = .ok (.putfield 37, 3) := by decide +kernel
theorem dX7_init_56 : decode cX7_init 56 = .ok (.aload_n 0, 1) := by decide +kernel
theorem dX7_init_57 : decode cX7_init 57 = .ok (.new 41, 3) := by decide +kernel
theorem dX7_init_60 : decode cX7_init 60 = .ok (.dup, 1) := by decide +kernel
theorem dX7_init_61 : decode cX7_init 61 = .ok (.invokespecial 43, 3) := by decide +kernel
theorem dX7_init_64 : decode cX7_init 64 = .ok (.putfield 44, 3) := by decide +kernel
theorem dX7_init_67 : decode cX7_init 67 = .ok (.aload_n 0, 1) := by decide +kernel
theorem dX7_init_68 : decode cX7_init 68 = .ok (.new 48, 3) := by decide +kernel
theorem dX7_init_71 : decode cX7_init 71 = .ok (.dup, 1) := by decide +kernel
theorem dX7_init_72 : decode cX7_init 72 = .ok (.invokespecial 50, 3) := by decide +kernel
theorem dX7_init_75 : decode cX7_init 75 = .ok (.putfield 51, 3) := by decide +kernel
theorem dX7_init_78 : decode cX7_init 78 = .ok (.aload_n 0, 1) := by decide +kernel
theorem dX7_init_79 : decode cX7_init 79 = .ok (.iconst 1, 1) := by decide +kernel
theorem dX7_init_80 : decode cX7_init 80 = .ok (.putfield 55, 3) := by decide +kernel
theorem dX7_init_83 : decode cX7_init 83 = .ok (.return_, 1) := by decide +kernel
set_option maxRecDepth 20000 in
theorem ggX7_say_X1_add : GoodIn wsX7_say wsX1_add := goodIn_r _ [7, 8, 9, 18, 19, 20] (by decide +kernel) (by decide +kernel)
set_option maxRecDepth 20000 in
theorem gX7_say_X1_add : GoodIn wsX7_say (wsV RX7 59 RX1 yX1_add wsX1_add) := goodIn_app (goodIn_of _ (by decide +kernel)) ggX7_say_X1_add
theorem dX7_say_0 : decode cX7_say 0 = .ok (.iload_n 1, 1) := by decide +kernel
theorem dX7_say_1 : decode cX7_say 1 = .ok (.bipush 33, 2) := by decide +kernel
theorem dX7_say_3 : decode cX7_say 3 = .ok (.if_icmp .lt 9, 3) := by decide +kernel
theorem dX7_say_6 : decode cX7_say 6 = .ok (.iload_n 1, 1) := by decide +kernel
theorem dX7_say_7 : decode cX7_say 7 = .ok (.bipush 126, 2) := by decide +kernel
theorem dX7_say_9 : decode cX7_say 9 = .ok (.if_icmp .le 6, 3) := by decide +kernel
theorem dX7_say_12 : decode cX7_say 12 = .ok (.bipush (-2), 2) := by decide +kernel
theorem dX7_say_14 : decode cX7_say 14 = .ok (.ireturn, 1) := by decide +kernel
theorem dX7_say_15 : decode cX7_say 15 = .ok (.aload_n 0, 1) := by decide +kernel
theorem dX7_say_16 : decode cX7_say 16 = .ok (.getfield 12, 3) := by decide +kernel
theorem dX7_say_19 : decode cX7_say 19 = .ok (.iload_n 1, 1) := by decide +kernel
theorem dX7_say_20 : decode cX7_say 20 = .ok (.invokevirtual 59, 3) := by decide +kernel
theorem dX7_say_23 : decode cX7_say 23 = .ok (.ifCond .eq 13, 3) := by decide +kernel
theorem dX7_say_26 : decode cX7_say 26 = .ok (.aload_n 0, 1) := by decide +kernel
theorem dX7_say_27 : decode cX7_say 27 = .ok (.getfield 12, 3) := by decide +kernel
theorem dX7_say_30 : decode cX7_say 30 = .ok (.getfield 63, 3) := by decide +kernel
theorem dX7_say_33 : decode cX7_say 33 = .ok (.goto 5, 3) := by decide +kernel
theorem dX7_say_36 : decode cX7_say 36 = .ok (.bipush (-4), 2) := by decide +kernel
theorem dX7_say_38 : decode cX7_say 38 = .ok (.ireturn, 1) := by decide +kernel
theorem dX7_wipe_0 : decode cX7_wipe 0 = .ok (.aload_n 0, 1) := by decide +kernel
theorem dX7_wipe_1 : decode cX7_wipe 1 = .ok (.getfield 12, 3) := by decide +kernel
theorem dX7_wipe_4 : decode cX7_wipe 4 = .ok (.getfield 63, 3) := by decide +kernel
theorem dX7_wipe_7 : decode cX7_wipe 7 = .ok (.istore_n 1, 1) := by decide +kernel
theorem dX7_wipe_8 : decode cX7_wipe 8 = .ok (.aload_n 0, 1) := by decide +kernel
theorem dX7_wipe_9 : decode cX7_wipe 9 = .ok (.getfield 12, 3) := by decide +kernel
theorem dX7_wipe_12 : decode cX7_wipe 12 = .ok (.iconst 0, 1) := by decide +kernel
theorem dX7_wipe_13 : decode cX7_wipe 13 = .ok (.putfield 63, 3) := by decide +kernel
theorem dX7_wipe_16 : decode cX7_wipe 16 = .ok (.iload_n 1, 1) := by decide +kernel
theorem dX7_wipe_17 : decode cX7_wipe 17 = .ok (.ireturn, 1) := by decide +kernel
set_option maxRecDepth 20000 in
theorem ggX7_fault_X1_read : GoodIn wsX7_fault wsX1_read := goodIn_r _ [6, 7, 8, 9, 10, 11, 12, 13, 14, 15, 16, 17, 18, 19, 20, 21, 22, 23, 24, 25, 26, 27, 28, 29, 30, 31, 32, 33, 34, 35, 36, 37, 38, 39, 40, 41, 42, 43, 44, 45, 46, 47, 48, 49, 50, 59, 60, 61, 62, 63, 64, 65, 66, 67, 68, 69, 70, 71, 72, 73] (by decide +kernel) (by decide +kernel)
set_option maxRecDepth 20000 in
theorem gX7_fault_X1_read : GoodIn wsX7_fault (wsV RX7 67 RX1 yX1_read wsX1_read) := goodIn_app (goodIn_of _ (by decide +kernel)) ggX7_fault_X1_read
theorem dX7_fault_0 : decode cX7_fault 0 = .ok (.aload_n 0, 1) := by decide +kernel
theorem dX7_fault_1 : decode cX7_fault 1 = .ok (.getfield 12, 3) := by decide +kernel
theorem dX7_fault_4 : decode cX7_fault 4 = .ok (.invokevirtual 67, 3) := by decide +kernel
theorem dX7_fault_7 : decode cX7_fault 7 = .ok (.ireturn, 1) := by decide +kernel
set_option maxRecDepth 20000 in
theorem ggX7_load_X1_read : GoodIn wsX7_load wsX1_read := goodIn_r _ [12, 13, 14, 15, 16, 17, 18, 19, 20, 21, 22, 23, 24, 25, 26, 27, 28, 29, 30, 31, 32, 33, 34, 35, 36, 37, 38, 39, 40, 41, 42, 43, 44, 45, 46, 47, 48, 49, 50, 51, 52, 53, 54, 55, 56, 78, 79, 80, 81, 82, 83, 84, 85, 86, 87, 88, 89, 90, 91, 92] (by decide +kernel) (by decide +kernel)
set_option maxRecDepth 20000 in
theorem gX7_load_X1_read : GoodIn wsX7_load (wsV RX7 67 RX1 yX1_read wsX1_read) := goodIn_app (goodIn_of _ (by decide +kernel)) ggX7_load_X1_read
set_option maxRecDepth 20000 in
theorem ggX7_load_X4_copy : GoodIn wsX7_load wsX4_copy := goodIn_r _ [60, 22, 23, 24, 25, 26, 39, 40, 41, 42, 43, 55, 56, 81, 82, 83, 84, 85, 86, 87, 88, 89, 90, 91, 92] (by decide +kernel) (by decide +kernel)
set_option maxRecDepth 20000 in
theorem gX7_load_X4_copy : GoodIn wsX7_load (wsV RX7 76 RX4 yX4_copy wsX4_copy) := goodIn_app (goodIn_of _ (by decide +kernel)) ggX7_load_X4_copy
set_option maxRecDepth 20000 in
theorem ggX7_load_X3_dropLinks : GoodIn wsX7_load wsX3_dropLinks := goodIn_r _ [65, 66, 75, 76, 77] (by decide +kernel) (by decide +kernel)
set_option maxRecDepth 20000 in
theorem gX7_load_X3_dropLinks : GoodIn wsX7_load (wsV RX7 82 RX3 yX3_dropLinks wsX3_dropLinks) := goodIn_app (goodIn_of _ (by decide +kernel)) ggX7_load_X3_dropLinks
theorem dX7_load_0 : decode cX7_load 0 = .ok (.aload_n 0, 1) := by decide +kernel
theorem dX7_load_1 : decode cX7_load 1 = .ok (.getfield 12, 3) := by decide +kernel
theorem dX7_load_4 : decode cX7_load 4 = .ok (.invokevirtual 67, 3) := by decide +kernel
theorem dX7_load_7 : decode cX7_load 7 = .ok (.bipush (-6), 2) := by decide +kernel
theorem dX7_load_9 : decode cX7_load 9 = .ok (.if_icmp .eq 6, 3) := by decide +kernel
theorem dX7_load_12 : decode cX7_load 12 = .ok (.bipush (-5), 2) := by decide +kernel
theorem dX7_load_14 : decode cX7_load 14 = .ok (.ireturn, 1) := by decide +kernel
theorem dX7_load_15 : decode cX7_load 15 = .ok (.aload_n 0, 1) := by decide +kernel
theorem dX7_load_16 : decode cX7_load 16 = .ok (.getfield 19, 3) := by decide +kernel
theorem dX7_load_19 : decode cX7_load 19 = .ok (.getfield 71, 3) := by decide +kernel
theorem dX7_load_22 : decode cX7_load 22 = .ok (.aload_n 0, 1) := by decide +kernel
theorem dX7_load_23 : decode cX7_load 23 = .ok (.getfield 12, 3) := by decide +kernel
theorem dX7_load_26 : decode cX7_load 26 = .ok (.getfield 75, 3) := by decide +kernel
theorem dX7_load_29 : decode cX7_load 29 = .ok (.invokevirtual 76, 3) := by decide +kernel
theorem dX7_load_32 : decode cX7_load 32 = .ok (.aload_n 0, 1) := by decide +kernel
theorem dX7_load_33 : decode cX7_load 33 = .ok (.getfield 19, 3) := by decide +kernel
theorem dX7_load_36 : decode cX7_load 36 = .ok (.invokevirtual 82, 3) := by decide +kernel
theorem dX7_load_39 : decode cX7_load 39 = .ok (.aload_n 0, 1) := by decide +kernel
theorem dX7_load_40 : decode cX7_load 40 = .ok (.getfield 12, 3) := by decide +kernel
theorem dX7_load_43 : decode cX7_load 43 = .ok (.iconst 0, 1) := by decide +kernel
theorem dX7_load_44 : decode cX7_load 44 = .ok (.putfield 63, 3) := by decide +kernel
theorem dX7_load_47 : decode cX7_load 47 = .ok (.aload_n 0, 1) := by decide +kernel
theorem dX7_load_48 : decode cX7_load 48 = .ok (.iconst 1, 1) := by decide +kernel
theorem dX7_load_49 : decode cX7_load 49 = .ok (.putfield 55, 3) := by decide +kernel
theorem dX7_load_52 : decode cX7_load 52 = .ok (.aload_n 0, 1) := by decide +kernel
theorem dX7_load_53 : decode cX7_load 53 = .ok (.getfield 19, 3) := by decide +kernel
theorem dX7_load_56 : decode cX7_load 56 = .ok (.getfield 71, 3) := by decide +kernel
theorem dX7_load_59 : decode cX7_load 59 = .ok (.getfield 85, 3) := by decide +kernel
theorem dX7_load_62 : decode cX7_load 62 = .ok (.ireturn, 1) := by decide +kernel
set_option maxRecDepth 20000 in
theorem ggX7_target_X3_dropLinks : GoodIn wsX7_target wsX3_dropLinks := goodIn_r _ [8, 9, 18, 19, 20] (by decide +kernel) (by decide +kernel)
set_option maxRecDepth 20000 in
theorem gX7_target_X3_dropLinks : GoodIn wsX7_target (wsV RX7 82 RX3 yX3_dropLinks wsX3_dropLinks) := goodIn_app (goodIn_of _ (by decide +kernel)) ggX7_target_X3_dropLinks
theorem dX7_target_0 : decode cX7_target 0 = .ok (.iload_n 1, 1) := by decide +kernel
theorem dX7_target_1 : decode cX7_target 1 = .ok (.ifCond .lt 9, 3) := by decide +kernel
theorem dX7_target_4 : decode cX7_target 4 = .ok (.iload_n 1, 1) := by decide +kernel
theorem dX7_target_5 : decode cX7_target 5 = .ok (.bipush 8, 2) := by decide +kernel
theorem dX7_target_7 : decode cX7_target 7 = .ok (.if_icmp .le 6, 3) := by decide +kernel
theorem dX7_target_10 : decode cX7_target 10 = .ok (.bipush (-2), 2) := by decide +kernel
theorem dX7_target_12 : decode cX7_target 12 = .ok (.ireturn, 1) := by decide +kernel
theorem dX7_target_13 : decode cX7_target 13 = .ok (.aload_n 0, 1) := by decide +kernel
theorem dX7_target_14 : decode cX7_target 14 = .ok (.getfield 19, 3) := by decide +kernel
theorem dX7_target_17 : decode cX7_target 17 = .ok (.getfield 88, 3) := by decide +kernel
theorem dX7_target_20 : decode cX7_target 20 = .ok (.istore_n 2, 1) := by decide +kernel
theorem dX7_target_21 : decode cX7_target 21 = .ok (.aload_n 0, 1) := by decide +kernel
theorem dX7_target_22 : decode cX7_target 22 = .ok (.getfield 19, 3) := by decide +kernel
theorem dX7_target_25 : decode cX7_target 25 = .ok (.iload_n 1, 1) := by decide +kernel
theorem dX7_target_26 : decode cX7_target 26 = .ok (.putfield 88, 3) := by decide +kernel
theorem dX7_target_29 : decode cX7_target 29 = .ok (.aload_n 0, 1) := by decide +kernel
theorem dX7_target_30 : decode cX7_target 30 = .ok (.getfield 19, 3) := by decide +kernel
theorem dX7_target_33 : decode cX7_target 33 = .ok (.invokevirtual 82, 3) := by decide +kernel
theorem dX7_target_36 : decode cX7_target 36 = .ok (.aload_n 0, 1) := by decide +kernel
theorem dX7_target_37 : decode cX7_target 37 = .ok (.iconst 1, 1) := by decide +kernel
theorem dX7_target_38 : decode cX7_target 38 = .ok (.putfield 55, 3) := by decide +kernel
theorem dX7_target_41 : decode cX7_target 41 = .ok (.iload_n 2, 1) := by decide +kernel
theorem dX7_target_42 : decode cX7_target 42 = .ok (.ireturn, 1) := by decide +kernel
theorem dX7_link_0 : decode cX7_link 0 = .ok (.iload_n 1, 1) := by decide +kernel
theorem dX7_link_1 : decode cX7_link 1 = .ok (.ifCond .lt 32, 3) := by decide +kernel
theorem dX7_link_4 : decode cX7_link 4 = .ok (.iload_n 1, 1) := by decide +kernel
theorem dX7_link_5 : decode cX7_link 5 = .ok (.aload_n 0, 1) := by decide +kernel
theorem dX7_link_6 : decode cX7_link 6 = .ok (.getfield 19, 3) := by decide +kernel
theorem dX7_link_9 : decode cX7_link 9 = .ok (.getfield 71, 3) := by decide +kernel
theorem dX7_link_12 : decode cX7_link 12 = .ok (.getfield 85, 3) := by decide +kernel
theorem dX7_link_15 : decode cX7_link 15 = .ok (.if_icmp .ge 18, 3) := by decide +kernel
theorem dX7_link_18 : decode cX7_link 18 = .ok (.iload_n 2, 1) := by decide +kernel
theorem dX7_link_19 : decode cX7_link 19 = .ok (.ifCond .lt 14, 3) := by decide +kernel
theorem dX7_link_22 : decode cX7_link 22 = .ok (.iload_n 2, 1) := by decide +kernel
theorem dX7_link_23 : decode cX7_link 23 = .ok (.aload_n 0, 1) := by decide +kernel
theorem dX7_link_24 : decode cX7_link 24 = .ok (.getfield 19, 3) := by decide +kernel
theorem dX7_link_27 : decode cX7_link 27 = .ok (.getfield 88, 3) := by decide +kernel
theorem dX7_link_30 : decode cX7_link 30 = .ok (.if_icmp .lt 5, 3) := by decide +kernel
theorem dX7_link_33 : decode cX7_link 33 = .ok (.iconst (-1), 1) := by decide +kernel
theorem dX7_link_34 : decode cX7_link 34 = .ok (.ireturn, 1) := by decide +kernel
theorem dX7_link_35 : decode cX7_link 35 = .ok (.aload_n 0, 1) := by decide +kernel
theorem dX7_link_36 : decode cX7_link 36 = .ok (.getfield 19, 3) := by decide +kernel
theorem dX7_link_39 : decode cX7_link 39 = .ok (.getfield 91, 3) := by decide +kernel
theorem dX7_link_42 : decode cX7_link 42 = .ok (.iload_n 1, 1) := by decide +kernel
theorem dX7_link_43 : decode cX7_link 43 = .ok (.dup2, 1) := by decide +kernel
theorem dX7_link_44 : decode cX7_link 44 = .ok (.iaload, 1) := by decide +kernel
theorem dX7_link_45 : decode cX7_link 45 = .ok (.iconst 1, 1) := by decide +kernel
theorem dX7_link_46 : decode cX7_link 46 = .ok (.iload_n 2, 1) := by decide +kernel
theorem dX7_link_47 : decode cX7_link 47 = .ok (.ishl, 1) := by decide +kernel
theorem dX7_link_48 : decode cX7_link 48 = .ok (.ixor, 1) := by decide +kernel
theorem dX7_link_49 : decode cX7_link 49 = .ok (.iastore, 1) := by decide +kernel
theorem dX7_link_50 : decode cX7_link 50 = .ok (.aload_n 0, 1) := by decide +kernel
theorem dX7_link_51 : decode cX7_link 51 = .ok (.iconst 1, 1) := by decide +kernel
theorem dX7_link_52 : decode cX7_link 52 = .ok (.putfield 55, 3) := by decide +kernel
theorem dX7_link_55 : decode cX7_link 55 = .ok (.aload_n 0, 1) := by decide +kernel
theorem dX7_link_56 : decode cX7_link 56 = .ok (.getfield 19, 3) := by decide +kernel
theorem dX7_link_59 : decode cX7_link 59 = .ok (.getfield 91, 3) := by decide +kernel
theorem dX7_link_62 : decode cX7_link 62 = .ok (.iload_n 1, 1) := by decide +kernel
theorem dX7_link_63 : decode cX7_link 63 = .ok (.iaload, 1) := by decide +kernel
theorem dX7_link_64 : decode cX7_link 64 = .ok (.iload_n 2, 1) := by decide +kernel
theorem dX7_link_65 : decode cX7_link 65 = .ok (.ishr, 1) := by decide +kernel
theorem dX7_link_66 : decode cX7_link 66 = .ok (.iconst 1, 1) := by decide +kernel
theorem dX7_link_67 : decode cX7_link 67 = .ok (.iand, 1) := by decide +kernel
theorem dX7_link_68 : decode cX7_link 68 = .ok (.ireturn, 1) := by decide +kernel
set_option maxRecDepth 20000 in
theorem ggX7_pair_X7_has : GoodIn wsX7_pair wsX7_has := goodIn_r _ [18] (by decide +kernel) (by decide +kernel)
set_option maxRecDepth 20000 in
theorem gX7_pair_X7_has : GoodIn wsX7_pair (va_wsS RX7 98 yX7_has wsX7_has) := goodIn_app (goodIn_of _ (by decide +kernel)) ggX7_pair_X7_has
set_option maxRecDepth 20000 in
theorem ggX7_pair_X7_carry : GoodIn wsX7_pair wsX7_carry := goodIn_r _ [22, 23, 7, 1, 10, 2, 24, 25, 26, 27, 28, 29, 30, 31, 32, 33, 34, 35, 36, 37, 16, 17, 18, 38, 39, 40, 41, 42, 43, 44, 45, 46, 47, 48, 49, 50, 51, 52, 53, 54, 55, 56, 57, 58, 59, 60, 61, 62, 63, 64, 65, 66, 67, 68, 69, 70, 71, 72, 73, 74, 75, 76, 77, 78, 79, 80, 81, 82, 83, 84, 85, 86, 87, 88, 89, 90, 91, 92, 93, 94, 95, 96, 97, 98, 99, 100, 101, 102, 103, 104, 105, 106, 107, 108, 109, 110, 111, 112, 113, 114, 115, 116, 117, 118, 119, 120, 121, 122, 123, 124, 125, 126, 127, 128, 129, 130, 131, 132, 133, 134, 135, 136, 137, 138, 139, 140, 141, 142, 143, 144, 145, 146, 147, 148, 149, 150, 151, 152, 153, 154, 155, 156, 157, 158, 159, 160, 161, 162, 163, 164, 165, 166, 167, 168, 169, 170, 171, 172, 173, 174, 175, 176, 177, 178, 179, 180, 181, 182, 183, 184, 185, 186, 187, 188, 189, 190, 191, 192, 193, 194, 195, 196, 197, 198, 199, 200, 201, 202, 203, 204, 205, 206, 207, 208, 209, 210, 212, 213, 214, 215, 216, 217, 218, 219, 220, 221, 222, 235, 236, 237, 238, 223, 224, 225, 226, 227, 228, 229, 230, 231, 232, 233, 234, 239, 240, 241, 242, 243, 244, 245, 246, 247, 248, 249, 250, 251, 252, 253] (by decide +kernel) (by decide +kernel)
set_option maxRecDepth 20000 in
theorem gX7_pair_X7_carry : GoodIn wsX7_pair (wsV RX7 102 RX7 yX7_carry wsX7_carry) := goodIn_app (goodIn_of _ (by decide +kernel)) ggX7_pair_X7_carry
set_option maxRecDepth 20000 in
theorem ggX7_pair_X4_depth : GoodIn wsX7_pair wsX4_depth := goodIn_r _ [183, 184, 185, 186, 187, 188, 189, 190, 191, 223, 224, 225, 226, 227, 228, 229, 230, 231, 232, 233, 234] (by decide +kernel) (by decide +kernel)
set_option maxRecDepth 20000 in
theorem gX7_pair_X4_depth : GoodIn wsX7_pair (wsV RX7 111 RX4 yX4_depth wsX4_depth) := goodIn_app (goodIn_of _ (by decide +kernel)) ggX7_pair_X4_depth
theorem dX7_pair_0 : decode cX7_pair 0 = .ok (.iload_n 1, 1) := by decide +kernel
theorem dX7_pair_1 : decode cX7_pair 1 = .ok (.ifCond .lt 25, 3) := by decide +kernel
theorem dX7_pair_4 : decode cX7_pair 4 = .ok (.iload_n 1, 1) := by decide +kernel
theorem dX7_pair_5 : decode cX7_pair 5 = .ok (.iconst 5, 1) := by decide +kernel
theorem dX7_pair_6 : decode cX7_pair 6 = .ok (.if_icmp .ge 20, 3) := by decide +kernel
theorem dX7_pair_9 : decode cX7_pair 9 = .ok (.aload_n 0, 1) := by decide +kernel
theorem dX7_pair_10 : decode cX7_pair 10 = .ok (.getfield 19, 3) := by decide +kernel
theorem dX7_pair_13 : decode cX7_pair 13 = .ok (.getfield 71, 3) := by decide +kernel
theorem dX7_pair_16 : decode cX7_pair 16 = .ok (.getfield 95, 3) := by decide +kernel
theorem dX7_pair_19 : decode cX7_pair 19 = .ok (.iload_n 1, 1) := by decide +kernel
theorem dX7_pair_20 : decode cX7_pair 20 = .ok (.invokestatic 98, 3) := by decide +kernel
theorem dX7_pair_23 : decode cX7_pair 23 = .ok (.ifCond .ne 5, 3) := by decide +kernel
theorem dX7_pair_26 : decode cX7_pair 26 = .ok (.iconst (-1), 1) := by decide +kernel
theorem dX7_pair_27 : decode cX7_pair 27 = .ok (.ireturn, 1) := by decide +kernel
theorem dX7_pair_28 : decode cX7_pair 28 = .ok (.aload_n 0, 1) := by decide +kernel
theorem dX7_pair_29 : decode cX7_pair 29 = .ok (.invokevirtual 102, 3) := by decide +kernel
theorem dX7_pair_32 : decode cX7_pair 32 = .ok (.iload_n 2, 1) := by decide +kernel
theorem dX7_pair_33 : decode cX7_pair 33 = .ok (.tableswitch 168 0 9 #[55, 68, 81, 93, 106, 116, 126, 136, 146, 156], 55) := by decide +kernel
theorem dX7_pair_88 : decode cX7_pair 88 = .ok (.aload_n 0, 1) := by decide +kernel
theorem dX7_pair_89 : decode cX7_pair 89 = .ok (.getfield 19, 3) := by decide +kernel
theorem dX7_pair_92 : decode cX7_pair 92 = .ok (.getfield 71, 3) := by decide +kernel
theorem dX7_pair_95 : decode cX7_pair 95 = .ok (.getfield 105, 3) := by decide +kernel
theorem dX7_pair_98 : decode cX7_pair 98 = .ok (.iload_n 1, 1) := by decide +kernel
theorem dX7_pair_99 : decode cX7_pair 99 = .ok (.iaload, 1) := by decide +kernel
theorem dX7_pair_100 : decode cX7_pair 100 = .ok (.ireturn, 1) := by decide +kernel
theorem dX7_pair_101 : decode cX7_pair 101 = .ok (.aload_n 0, 1) := by decide +kernel
theorem dX7_pair_102 : decode cX7_pair 102 = .ok (.getfield 19, 3) := by decide +kernel
theorem dX7_pair_105 : decode cX7_pair 105 = .ok (.getfield 71, 3) := by decide +kernel
theorem dX7_pair_108 : decode cX7_pair 108 = .ok (.getfield 108, 3) := by decide +kernel
theorem dX7_pair_111 : decode cX7_pair 111 = .ok (.iload_n 1, 1) := by decide +kernel
theorem dX7_pair_112 : decode cX7_pair 112 = .ok (.iaload, 1) := by decide +kernel
theorem dX7_pair_113 : decode cX7_pair 113 = .ok (.ireturn, 1) := by decide +kernel
theorem dX7_pair_114 : decode cX7_pair 114 = .ok (.aload_n 0, 1) := by decide +kernel
theorem dX7_pair_115 : decode cX7_pair 115 = .ok (.getfield 19, 3) := by decide +kernel
theorem dX7_pair_118 : decode cX7_pair 118 = .ok (.getfield 71, 3) := by decide +kernel
theorem dX7_pair_121 : decode cX7_pair 121 = .ok (.iload_n 1, 1) := by decide +kernel
theorem dX7_pair_122 : decode cX7_pair 122 = .ok (.invokevirtual 111, 3) := by decide +kernel
theorem dX7_pair_125 : decode cX7_pair 125 = .ok (.ireturn, 1) := by decide +kernel
theorem dX7_pair_126 : decode cX7_pair 126 = .ok (.aload_n 0, 1) := by decide +kernel
theorem dX7_pair_127 : decode cX7_pair 127 = .ok (.getfield 19, 3) := by decide +kernel
theorem dX7_pair_130 : decode cX7_pair 130 = .ok (.getfield 71, 3) := by decide +kernel
theorem dX7_pair_133 : decode cX7_pair 133 = .ok (.getfield 115, 3) := by decide +kernel
theorem dX7_pair_136 : decode cX7_pair 136 = .ok (.iload_n 1, 1) := by decide +kernel
theorem dX7_pair_137 : decode cX7_pair 137 = .ok (.iaload, 1) := by decide +kernel
theorem dX7_pair_138 : decode cX7_pair 138 = .ok (.ireturn, 1) := by decide +kernel
theorem dX7_pair_139 : decode cX7_pair 139 = .ok (.aload_n 0, 1) := by decide +kernel
theorem dX7_pair_140 : decode cX7_pair 140 = .ok (.getfield 30, 3) := by decide +kernel
theorem dX7_pair_143 : decode cX7_pair 143 = .ok (.getfield 118, 3) := by decide +kernel
theorem dX7_pair_146 : decode cX7_pair 146 = .ok (.iload_n 1, 1) := by decide +kernel
theorem dX7_pair_147 : decode cX7_pair 147 = .ok (.iaload, 1) := by decide +kernel
theorem dX7_pair_148 : decode cX7_pair 148 = .ok (.ireturn, 1) := by decide +kernel
theorem dX7_pair_149 : decode cX7_pair 149 = .ok (.aload_n 0, 1) := by decide +kernel
theorem dX7_pair_150 : decode cX7_pair 150 = .ok (.getfield 30, 3) := by decide +kernel
theorem dX7_pair_153 : decode cX7_pair 153 = .ok (.getfield 121, 3) := by decide +kernel
theorem dX7_pair_156 : decode cX7_pair 156 = .ok (.iload_n 1, 1) := by decide +kernel
theorem dX7_pair_157 : decode cX7_pair 157 = .ok (.iaload, 1) := by decide +kernel
theorem dX7_pair_158 : decode cX7_pair 158 = .ok (.ireturn, 1) := by decide +kernel
theorem dX7_pair_159 : decode cX7_pair 159 = .ok (.aload_n 0, 1) := by decide +kernel
theorem dX7_pair_160 : decode cX7_pair 160 = .ok (.getfield 37, 3) := by decide +kernel
theorem dX7_pair_163 : decode cX7_pair 163 = .ok (.getfield 124, 3) := by decide +kernel
theorem dX7_pair_166 : decode cX7_pair 166 = .ok (.iload_n 1, 1) := by decide +kernel
theorem dX7_pair_167 : decode cX7_pair 167 = .ok (.iaload, 1) := by decide +kernel
theorem dX7_pair_168 : decode cX7_pair 168 = .ok (.ireturn, 1) := by decide +kernel
theorem dX7_pair_169 : decode cX7_pair 169 = .ok (.aload_n 0, 1) := by decide +kernel
theorem dX7_pair_170 : decode cX7_pair 170 = .ok (.getfield 37, 3) := by decide +kernel
theorem dX7_pair_173 : decode cX7_pair 173 = .ok (.getfield 125, 3) := by decide +kernel
theorem dX7_pair_176 : decode cX7_pair 176 = .ok (.iload_n 1, 1) := by decide +kernel
theorem dX7_pair_177 : decode cX7_pair 177 = .ok (.iaload, 1) := by decide +kernel
theorem dX7_pair_178 : decode cX7_pair 178 = .ok (.ireturn, 1) := by decide +kernel
theorem dX7_pair_179 : decode cX7_pair 179 = .ok (.aload_n 0, 1) := by decide +kernel
theorem dX7_pair_180 : decode cX7_pair 180 = .ok (.getfield 37, 3) := by decide +kernel
theorem dX7_pair_183 : decode cX7_pair 183 = .ok (.getfield 126, 3) := by decide +kernel
theorem dX7_pair_186 : decode cX7_pair 186 = .ok (.iload_n 1, 1) := by decide +kernel
theorem dX7_pair_187 : decode cX7_pair 187 = .ok (.iaload, 1) := by decide +kernel
theorem dX7_pair_188 : decode cX7_pair 188 = .ok (.ireturn, 1) := by decide +kernel
theorem dX7_pair_189 : decode cX7_pair 189 = .ok (.aload_n 0, 1) := by decide +kernel
theorem dX7_pair_190 : decode cX7_pair 190 = .ok (.getfield 30, 3) := by decide +kernel
theorem dX7_pair_193 : decode cX7_pair 193 = .ok (.getfield 129, 3) := by decide +kernel
theorem dX7_pair_196 : decode cX7_pair 196 = .ok (.iload_n 1, 1) := by decide +kernel
theorem dX7_pair_197 : decode cX7_pair 197 = .ok (.ishr, 1) := by decide +kernel
theorem dX7_pair_198 : decode cX7_pair 198 = .ok (.iconst 1, 1) := by decide +kernel
theorem dX7_pair_199 : decode cX7_pair 199 = .ok (.iand, 1) := by decide +kernel
theorem dX7_pair_200 : decode cX7_pair 200 = .ok (.ireturn, 1) := by decide +kernel
theorem dX7_pair_201 : decode cX7_pair 201 = .ok (.bipush (-2), 2) := by decide +kernel
theorem dX7_pair_203 : decode cX7_pair 203 = .ok (.ireturn, 1) := by decide +kernel
set_option maxRecDepth 20000 in
theorem ggX7_mark_X7_has : GoodIn wsX7_mark wsX7_has := goodIn_r _ [12] (by decide +kernel) (by decide +kernel)
set_option maxRecDepth 20000 in
theorem gX7_mark_X7_has : GoodIn wsX7_mark (va_wsS RX7 98 yX7_has wsX7_has) := goodIn_app (goodIn_of _ (by decide +kernel)) ggX7_mark_X7_has
set_option maxRecDepth 20000 in
theorem ggX7_mark_X7_carry : GoodIn wsX7_mark wsX7_carry := goodIn_r _ [16, 17, 5, 1, 18, 2, 19, 7, 20, 21, 22, 23, 24, 25, 26, 27, 28, 29, 30, 31, 10, 11, 12, 32, 33, 34, 35, 36, 37, 38, 39, 40, 41, 42, 43, 44, 45, 46, 47, 48, 49, 50, 51, 52, 53, 54, 55, 56, 57, 58, 59, 60, 61, 62, 63, 64, 65, 66, 67, 68, 69, 70, 71, 72, 73, 74, 75, 76, 77, 78, 79, 80, 81, 82, 83, 84, 85, 86, 87, 88, 89, 90, 91, 92, 93, 94, 95, 96, 97, 98, 99, 100, 101, 102, 103, 104, 105, 106, 107, 108, 109, 110, 111, 112, 113, 114, 115, 116, 117, 118, 119, 120, 121, 122, 123, 124, 125, 126, 127, 128, 129, 130, 131, 132, 133, 134, 135, 136, 137, 138, 139, 140, 141, 142, 143, 144, 145, 146, 147, 148, 149, 150, 151, 152, 153, 154, 155, 156, 157, 158, 159, 160, 161, 162, 163, 164, 165, 166, 167, 168, 169, 170, 171, 172, 173, 174, 175, 176, 177, 178, 179, 180, 181, 182, 183, 184, 185, 186, 187, 188, 189, 190, 191, 192, 193, 194, 195, 196, 197, 198, 199, 200, 201, 202, 203, 204, 205, 206, 207, 208, 209, 210, 211, 212, 213, 214, 215, 228, 229, 230, 231, 216, 217, 218, 219, 220, 221, 222, 223, 224, 225, 226, 227, 236, 237, 238, 239, 240, 241, 242, 243, 232, 233, 234, 235, 244, 245, 246] (by decide +kernel) (by decide +kernel)
set_option maxRecDepth 20000 in
theorem gX7_mark_X7_carry : GoodIn wsX7_mark (wsV RX7 102 RX7 yX7_carry wsX7_carry) := goodIn_app (goodIn_of _ (by decide +kernel)) ggX7_mark_X7_carry
theorem dX7_mark_0 : decode cX7_mark 0 = .ok (.iload_n 1, 1) := by decide +kernel
theorem dX7_mark_1 : decode cX7_mark 1 = .ok (.ifCond .lt 25, 3) := by decide +kernel
theorem dX7_mark_4 : decode cX7_mark 4 = .ok (.iload_n 1, 1) := by decide +kernel
theorem dX7_mark_5 : decode cX7_mark 5 = .ok (.iconst 3, 1) := by decide +kernel
theorem dX7_mark_6 : decode cX7_mark 6 = .ok (.if_icmp .ge 20, 3) := by decide +kernel
theorem dX7_mark_9 : decode cX7_mark 9 = .ok (.aload_n 0, 1) := by decide +kernel
theorem dX7_mark_10 : decode cX7_mark 10 = .ok (.getfield 19, 3) := by decide +kernel
theorem dX7_mark_13 : decode cX7_mark 13 = .ok (.getfield 71, 3) := by decide +kernel
theorem dX7_mark_16 : decode cX7_mark 16 = .ok (.getfield 132, 3) := by decide +kernel
theorem dX7_mark_19 : decode cX7_mark 19 = .ok (.iload_n 1, 1) := by decide +kernel
theorem dX7_mark_20 : decode cX7_mark 20 = .ok (.invokestatic 98, 3) := by decide +kernel
theorem dX7_mark_23 : decode cX7_mark 23 = .ok (.ifCond .ne 5, 3) := by decide +kernel
theorem dX7_mark_26 : decode cX7_mark 26 = .ok (.iconst (-1), 1) := by decide +kernel
theorem dX7_mark_27 : decode cX7_mark 27 = .ok (.ireturn, 1) := by decide +kernel
theorem dX7_mark_28 : decode cX7_mark 28 = .ok (.aload_n 0, 1) := by decide +kernel
theorem dX7_mark_29 : decode cX7_mark 29 = .ok (.invokevirtual 102, 3) := by decide +kernel
theorem dX7_mark_32 : decode cX7_mark 32 = .ok (.iload_n 2, 1) := by decide +kernel
theorem dX7_mark_33 : decode cX7_mark 33 = .ok (.tableswitch 60 0 2 #[27, 40, 50], 27) := by decide +kernel
theorem dX7_mark_60 : decode cX7_mark 60 = .ok (.aload_n 0, 1) := by decide +kernel
theorem dX7_mark_61 : decode cX7_mark 61 = .ok (.getfield 19, 3) := by decide +kernel
theorem dX7_mark_64 : decode cX7_mark 64 = .ok (.getfield 71, 3) := by decide +kernel
theorem dX7_mark_67 : decode cX7_mark 67 = .ok (.getfield 135, 3) := by decide +kernel
theorem dX7_mark_70 : decode cX7_mark 70 = .ok (.iload_n 1, 1) := by decide +kernel
theorem dX7_mark_71 : decode cX7_mark 71 = .ok (.iaload, 1) := by decide +kernel
theorem dX7_mark_72 : decode cX7_mark 72 = .ok (.ireturn, 1) := by decide +kernel
theorem dX7_mark_73 : decode cX7_mark 73 = .ok (.aload_n 0, 1) := by decide +kernel
theorem dX7_mark_74 : decode cX7_mark 74 = .ok (.getfield 30, 3) := by decide +kernel
theorem dX7_mark_77 : decode cX7_mark 77 = .ok (.getfield 138, 3) := by decide +kernel
theorem dX7_mark_80 : decode cX7_mark 80 = .ok (.iload_n 1, 1) := by decide +kernel
theorem dX7_mark_81 : decode cX7_mark 81 = .ok (.iaload, 1) := by decide +kernel
theorem dX7_mark_82 : decode cX7_mark 82 = .ok (.ireturn, 1) := by decide +kernel
theorem dX7_mark_83 : decode cX7_mark 83 = .ok (.aload_n 0, 1) := by decide +kernel
theorem dX7_mark_84 : decode cX7_mark 84 = .ok (.getfield 44, 3) := by decide +kernel
theorem dX7_mark_87 : decode cX7_mark 87 = .ok (.getfield 141, 3) := by decide +kernel
theorem dX7_mark_90 : decode cX7_mark 90 = .ok (.iload_n 1, 1) := by decide +kernel
theorem dX7_mark_91 : decode cX7_mark 91 = .ok (.iaload, 1) := by decide +kernel
theorem dX7_mark_92 : decode cX7_mark 92 = .ok (.ireturn, 1) := by decide +kernel
theorem dX7_mark_93 : decode cX7_mark 93 = .ok (.bipush (-2), 2) := by decide +kernel
theorem dX7_mark_95 : decode cX7_mark 95 = .ok (.ireturn, 1) := by decide +kernel
set_option maxRecDepth 20000 in
theorem ggX7_total_X7_carry : GoodIn wsX7_total wsX7_carry := goodIn_r _ [15, 16, 8, 5, 1, 6, 17, 3, 18, 19, 20, 21, 22, 23, 24, 25, 26, 27, 28, 29, 30, 14, 31, 32, 33, 34, 35, 36, 37, 38, 39, 40, 41, 42, 43, 44, 45, 46, 47, 48, 49, 50, 51, 52, 53, 54, 55, 56, 57, 58, 59, 60, 61, 62, 63, 64, 65, 66, 67, 68, 69, 70, 71, 72, 73, 74, 75, 76, 77, 78, 79, 80, 81, 82, 83, 84, 85, 86, 87, 88, 89, 90, 91, 92, 93, 94, 95, 96, 97, 98, 99, 100, 101, 102, 103, 104, 105, 106, 107, 108, 109, 110, 111, 112, 113, 114, 115, 116, 117, 118, 119, 120, 121, 122, 123, 124, 125, 126, 127, 128, 129, 130, 131, 132, 133, 134, 135, 136, 137, 138, 139, 140, 141, 142, 143, 144, 145, 146, 147, 148, 149, 150, 151, 152, 153, 154, 155, 156, 157, 158, 159, 160, 161, 162, 163, 164, 165, 166, 167, 168, 169, 170, 171, 172, 173, 174, 175, 176, 177, 178, 179, 180, 181, 182, 183, 184, 185, 186, 187, 188, 189, 190, 191, 192, 193, 194, 195, 196, 197, 198, 199, 200, 201, 202, 203, 204, 228, 229, 230, 231, 232, 233, 234, 235, 248, 249, 250, 263, 264, 265, 266, 251, 252, 253, 254, 255, 256, 257, 258, 259, 260, 261, 262, 236, 237, 238, 239, 240, 241, 242, 243, 244, 245, 246, 247, 267, 268, 269] (by decide +kernel) (by decide +kernel)
set_option maxRecDepth 20000 in
theorem gX7_total_X7_carry : GoodIn wsX7_total (wsV RX7 102 RX7 yX7_carry wsX7_carry) := goodIn_app (goodIn_of _ (by decide +kernel)) ggX7_total_X7_carry
set_option maxRecDepth 20000 in
theorem ggX7_total_X3_countLinks : GoodIn wsX7_total wsX3_countLinks := goodIn_r _ [208, 45, 209, 180, 181, 182, 183, 184, 185, 248, 249, 250] (by decide +kernel) (by decide +kernel)
set_option maxRecDepth 20000 in
theorem gX7_total_X3_countLinks : GoodIn wsX7_total (wsV RX7 150 RX3 yX3_countLinks wsX3_countLinks) := goodIn_app (goodIn_of _ (by decide +kernel)) ggX7_total_X3_countLinks
set_option maxRecDepth 20000 in
theorem ggX7_total_X5_countCrossings : GoodIn wsX7_total wsX5_countCrossings := goodIn_r _ [213, 30, 14, 31, 214, 215, 216, 22, 217, 218, 219, 220, 221, 38, 39, 263, 264, 265, 266] (by decide +kernel) (by decide +kernel)
set_option maxRecDepth 20000 in
theorem gX7_total_X5_countCrossings : GoodIn wsX7_total (wsV RX7 153 RX5 yX5_countCrossings wsX5_countCrossings) := goodIn_app (goodIn_of _ (by decide +kernel)) ggX7_total_X5_countCrossings
set_option maxRecDepth 20000 in
theorem ggX7_total_X4_countHolds : GoodIn wsX7_total wsX4_countHolds := goodIn_r _ [225, 226, 227, 30, 14, 31, 179, 180, 181, 182, 183, 184, 185, 251, 252, 253, 254, 255, 256, 257, 258, 259, 260, 261, 262] (by decide +kernel) (by decide +kernel)
set_option maxRecDepth 20000 in
theorem gX7_total_X4_countHolds : GoodIn wsX7_total (wsV RX7 156 RX4 yX4_countHolds wsX4_countHolds) := goodIn_app (goodIn_of _ (by decide +kernel)) ggX7_total_X4_countHolds
theorem dX7_total_0 : decode cX7_total 0 = .ok (.aload_n 0, 1) := by decide +kernel
theorem dX7_total_1 : decode cX7_total 1 = .ok (.invokevirtual 102, 3) := by decide +kernel
theorem dX7_total_4 : decode cX7_total 4 = .ok (.iload_n 1, 1) := by decide +kernel
theorem dX7_total_5 : decode cX7_total 5 = .ok (.tableswitch 130 0 7 #[47, 55, 63, 74, 82, 93, 101, 119], 47) := by decide +kernel
theorem dX7_total_52 : decode cX7_total 52 = .ok (.aload_n 0, 1) := by decide +kernel
theorem dX7_total_53 : decode cX7_total 53 = .ok (.getfield 37, 3) := by decide +kernel
theorem dX7_total_56 : decode cX7_total 56 = .ok (.getfield 144, 3) := by decide +kernel
theorem dX7_total_59 : decode cX7_total 59 = .ok (.ireturn, 1) := by decide +kernel
theorem dX7_total_60 : decode cX7_total 60 = .ok (.aload_n 0, 1) := by decide +kernel
theorem dX7_total_61 : decode cX7_total 61 = .ok (.getfield 44, 3) := by decide +kernel
theorem dX7_total_64 : decode cX7_total 64 = .ok (.getfield 147, 3) := by decide +kernel
theorem dX7_total_67 : decode cX7_total 67 = .ok (.ireturn, 1) := by decide +kernel
theorem dX7_total_68 : decode cX7_total 68 = .ok (.aload_n 0, 1) := by decide +kernel
theorem dX7_total_69 : decode cX7_total 69 = .ok (.getfield 19, 3) := by decide +kernel
theorem dX7_total_72 : decode cX7_total 72 = .ok (.getfield 71, 3) := by decide +kernel
theorem dX7_total_75 : decode cX7_total 75 = .ok (.getfield 95, 3) := by decide +kernel
theorem dX7_total_78 : decode cX7_total 78 = .ok (.ireturn, 1) := by decide +kernel
theorem dX7_total_79 : decode cX7_total 79 = .ok (.aload_n 0, 1) := by decide +kernel
theorem dX7_total_80 : decode cX7_total 80 = .ok (.getfield 30, 3) := by decide +kernel
theorem dX7_total_83 : decode cX7_total 83 = .ok (.getfield 129, 3) := by decide +kernel
theorem dX7_total_86 : decode cX7_total 86 = .ok (.ireturn, 1) := by decide +kernel
theorem dX7_total_87 : decode cX7_total 87 = .ok (.aload_n 0, 1) := by decide +kernel
theorem dX7_total_88 : decode cX7_total 88 = .ok (.getfield 19, 3) := by decide +kernel
theorem dX7_total_91 : decode cX7_total 91 = .ok (.getfield 71, 3) := by decide +kernel
theorem dX7_total_94 : decode cX7_total 94 = .ok (.getfield 132, 3) := by decide +kernel
theorem dX7_total_97 : decode cX7_total 97 = .ok (.ireturn, 1) := by decide +kernel
theorem dX7_total_98 : decode cX7_total 98 = .ok (.aload_n 0, 1) := by decide +kernel
theorem dX7_total_99 : decode cX7_total 99 = .ok (.getfield 19, 3) := by decide +kernel
theorem dX7_total_102 : decode cX7_total 102 = .ok (.invokevirtual 150, 3) := by decide +kernel
theorem dX7_total_105 : decode cX7_total 105 = .ok (.ireturn, 1) := by decide +kernel
theorem dX7_total_106 : decode cX7_total 106 = .ok (.aload_n 0, 1) := by decide +kernel
theorem dX7_total_107 : decode cX7_total 107 = .ok (.getfield 30, 3) := by decide +kernel
theorem dX7_total_110 : decode cX7_total 110 = .ok (.aload_n 0, 1) := by decide +kernel
theorem dX7_total_111 : decode cX7_total 111 = .ok (.getfield 19, 3) := by decide +kernel
theorem dX7_total_114 : decode cX7_total 114 = .ok (.getfield 71, 3) := by decide +kernel
theorem dX7_total_117 : decode cX7_total 117 = .ok (.getfield 95, 3) := by decide +kernel
theorem dX7_total_120 : decode cX7_total 120 = .ok (.invokevirtual 153, 3) := by decide +kernel
theorem dX7_total_123 : decode cX7_total 123 = .ok (.ireturn, 1) := by decide +kernel
theorem dX7_total_124 : decode cX7_total 124 = .ok (.aload_n 0, 1) := by decide +kernel
theorem dX7_total_125 : decode cX7_total 125 = .ok (.getfield 19, 3) := by decide +kernel
theorem dX7_total_128 : decode cX7_total 128 = .ok (.getfield 71, 3) := by decide +kernel
theorem dX7_total_131 : decode cX7_total 131 = .ok (.invokevirtual 156, 3) := by decide +kernel
theorem dX7_total_134 : decode cX7_total 134 = .ok (.ireturn, 1) := by decide +kernel
theorem dX7_total_135 : decode cX7_total 135 = .ok (.bipush (-2), 2) := by decide +kernel
theorem dX7_total_137 : decode cX7_total 137 = .ok (.ireturn, 1) := by decide +kernel
set_option maxRecDepth 20000 in
theorem ggX7_sign_X7_carry : GoodIn wsX7_sign wsX7_carry := goodIn_r _ [8, 9, 10, 11, 12, 13, 14, 15, 1, 16, 17, 18, 19, 20, 21, 22, 23, 24, 25, 26, 27, 7, 28, 29, 30, 31, 32, 33, 34, 35, 36, 37, 38, 39, 40, 41, 42, 43, 44, 45, 46, 47, 48, 49, 50, 51, 52, 53, 54, 55, 56, 57, 58, 59, 60, 61, 62, 63, 64, 65, 66, 67, 68, 69, 70, 71, 72, 73, 74, 75, 76, 77, 78, 79, 80, 81, 82, 83, 84, 85, 86, 87, 88, 89, 90, 91, 92, 93, 94, 95, 96, 97, 98, 99, 100, 101, 102, 103, 104, 105, 106, 107, 108, 109, 110, 111, 112, 113, 114, 115, 116, 117, 118, 119, 120, 121, 122, 123, 124, 125, 126, 127, 128, 129, 130, 131, 132, 133, 134, 135, 136, 137, 138, 139, 140, 141, 142, 143, 144, 145, 146, 147, 148, 149, 150, 151, 152, 153, 154, 155, 156, 157, 158, 159, 160, 161, 162, 163, 164, 165, 166, 167, 168, 169, 170, 171, 172, 173, 174, 175, 176, 177, 178, 179, 180, 181, 182, 183, 184, 185, 186, 187, 188, 189, 190, 191, 192, 193, 194, 195, 196, 197, 198, 199, 200, 201, 202, 203, 204, 205, 206, 207, 208, 209, 213, 214, 215, 216, 217, 218, 219, 220, 221, 222, 223, 224, 225, 226, 227, 228, 229, 230, 231, 232, 233, 234, 235, 236, 237, 238, 239, 240, 241, 242, 243, 210, 211, 212] (by decide +kernel) (by decide +kernel)
set_option maxRecDepth 20000 in
theorem gX7_sign_X7_carry : GoodIn wsX7_sign (wsV RX7 102 RX7 yX7_carry wsX7_carry) := goodIn_app (goodIn_of _ (by decide +kernel)) ggX7_sign_X7_carry
theorem dX7_sign_0 : decode cX7_sign 0 = .ok (.aload_n 0, 1) := by decide +kernel
theorem dX7_sign_1 : decode cX7_sign 1 = .ok (.invokevirtual 102, 3) := by decide +kernel
theorem dX7_sign_4 : decode cX7_sign 4 = .ok (.iload_n 1, 1) := by decide +kernel
theorem dX7_sign_5 : decode cX7_sign 5 = .ok (.iconst (-1), 1) := by decide +kernel
theorem dX7_sign_6 : decode cX7_sign 6 = .ok (.if_icmp .ne 11, 3) := by decide +kernel
theorem dX7_sign_9 : decode cX7_sign 9 = .ok (.aload_n 0, 1) := by decide +kernel
theorem dX7_sign_10 : decode cX7_sign 10 = .ok (.getfield 51, 3) := by decide +kernel
theorem dX7_sign_13 : decode cX7_sign 13 = .ok (.getfield 159, 3) := by decide +kernel
theorem dX7_sign_16 : decode cX7_sign 16 = .ok (.ireturn, 1) := by decide +kernel
theorem dX7_sign_17 : decode cX7_sign 17 = .ok (.iload_n 1, 1) := by decide +kernel
theorem dX7_sign_18 : decode cX7_sign 18 = .ok (.ifCond .lt 14, 3) := by decide +kernel
theorem dX7_sign_21 : decode cX7_sign 21 = .ok (.iload_n 1, 1) := by decide +kernel
theorem dX7_sign_22 : decode cX7_sign 22 = .ok (.aload_n 0, 1) := by decide +kernel
theorem dX7_sign_23 : decode cX7_sign 23 = .ok (.getfield 51, 3) := by decide +kernel
theorem dX7_sign_26 : decode cX7_sign 26 = .ok (.getfield 159, 3) := by decide +kernel
theorem dX7_sign_29 : decode cX7_sign 29 = .ok (.if_icmp .lt 6, 3) := by decide +kernel
theorem dX7_sign_32 : decode cX7_sign 32 = .ok (.bipush (-6), 2) := by decide +kernel
theorem dX7_sign_34 : decode cX7_sign 34 = .ok (.ireturn, 1) := by decide +kernel
theorem dX7_sign_35 : decode cX7_sign 35 = .ok (.aload_n 0, 1) := by decide +kernel
theorem dX7_sign_36 : decode cX7_sign 36 = .ok (.getfield 51, 3) := by decide +kernel
theorem dX7_sign_39 : decode cX7_sign 39 = .ok (.getfield 160, 3) := by decide +kernel
theorem dX7_sign_42 : decode cX7_sign 42 = .ok (.iload_n 1, 1) := by decide +kernel
theorem dX7_sign_43 : decode cX7_sign 43 = .ok (.iaload, 1) := by decide +kernel
theorem dX7_sign_44 : decode cX7_sign 44 = .ok (.ireturn, 1) := by decide +kernel
set_option maxRecDepth 20000 in
theorem ggX7_image_X3_init : GoodIn wsX7_image wsX3_init := goodIn_r _ [7, 8, 9, 10, 11, 12, 13, 14, 15, 16, 17, 18, 19, 20, 21, 22, 23, 24, 25, 26, 52, 53, 54, 55, 56, 57, 58, 59, 60, 61, 62, 63, 49, 50, 51] (by decide +kernel) (by decide +kernel)
set_option maxRecDepth 20000 in
theorem gX7_image_X3_init_n18 : GoodIn wsX7_image (wsX3_init) := ggX7_image_X3_init
set_option maxRecDepth 20000 in
theorem ggX7_image_X3_copy : GoodIn wsX7_image wsX3_copy := goodIn_r _ [30, 14, 31, 16, 32, 33, 34, 13, 35, 36, 37, 38, 39, 40, 20, 21, 22, 23, 26, 24, 25, 49, 50, 51, 52, 53, 54, 55, 56, 57, 58, 59, 60, 61, 62, 63] (by decide +kernel) (by decide +kernel)
set_option maxRecDepth 20000 in
theorem gX7_image_X3_copy : GoodIn wsX7_image (wsV RX7 163 RX3 yX3_copy wsX3_copy) := goodIn_app (goodIn_of _ (by decide +kernel)) ggX7_image_X3_copy
theorem dX7_image_0 : decode cX7_image 0 = .ok (.iload_n 1, 1) := by decide +kernel
theorem dX7_image_1 : decode cX7_image 1 = .ok (.ifCond .lt 8, 3) := by decide +kernel
theorem dX7_image_4 : decode cX7_image 4 = .ok (.iload_n 1, 1) := by decide +kernel
theorem dX7_image_5 : decode cX7_image 5 = .ok (.iconst 2, 1) := by decide +kernel
theorem dX7_image_6 : decode cX7_image 6 = .ok (.if_icmp .lt 6, 3) := by decide +kernel
theorem dX7_image_9 : decode cX7_image 9 = .ok (.bipush (-2), 2) := by decide +kernel
theorem dX7_image_11 : decode cX7_image 11 = .ok (.ireturn, 1) := by decide +kernel
theorem dX7_image_12 : decode cX7_image 12 = .ok (.aload_n 0, 1) := by decide +kernel
theorem dX7_image_13 : decode cX7_image 13 = .ok (.getfield 23, 3) := by decide +kernel
theorem dX7_image_16 : decode cX7_image 16 = .ok (.iload_n 1, 1) := by decide +kernel
theorem dX7_image_17 : decode cX7_image 17 = .ok (.aaload, 1) := by decide +kernel
theorem dX7_image_18 : decode cX7_image 18 = .ok (.astore_n 2, 1) := by decide +kernel
theorem dX7_image_19 : decode cX7_image 19 = .ok (.aload_n 2, 1) := by decide +kernel
theorem dX7_image_20 : decode cX7_image 20 = .ok (.ifnonnull 18, 3) := by decide +kernel
theorem dX7_image_23 : decode cX7_image 23 = .ok (.new 16, 3) := by decide +kernel
theorem dX7_image_26 : decode cX7_image 26 = .ok (.dup, 1) := by decide +kernel
theorem dX7_image_27 : decode cX7_image 27 = .ok (.invokespecial 18, 3) := by decide +kernel
theorem dX7_image_30 : decode cX7_image 30 = .ok (.astore_n 2, 1) := by decide +kernel
theorem dX7_image_31 : decode cX7_image 31 = .ok (.aload_n 0, 1) := by decide +kernel
theorem dX7_image_32 : decode cX7_image 32 = .ok (.getfield 23, 3) := by decide +kernel
theorem dX7_image_35 : decode cX7_image 35 = .ok (.iload_n 1, 1) := by decide +kernel
theorem dX7_image_36 : decode cX7_image 36 = .ok (.aload_n 2, 1) := by decide +kernel
theorem dX7_image_37 : decode cX7_image 37 = .ok (.aastore, 1) := by decide +kernel
theorem dX7_image_38 : decode cX7_image 38 = .ok (.aload_n 2, 1) := by decide +kernel
theorem dX7_image_39 : decode cX7_image 39 = .ok (.aload_n 0, 1) := by decide +kernel
theorem dX7_image_40 : decode cX7_image 40 = .ok (.getfield 19, 3) := by decide +kernel
theorem dX7_image_43 : decode cX7_image 43 = .ok (.invokevirtual 163, 3) := by decide +kernel
theorem dX7_image_46 : decode cX7_image 46 = .ok (.iconst 1, 1) := by decide +kernel
theorem dX7_image_47 : decode cX7_image 47 = .ok (.ireturn, 1) := by decide +kernel
set_option maxRecDepth 20000 in
theorem ggX7_restore_X3_copy : GoodIn wsX7_restore wsX3_copy := goodIn_r _ [8, 9, 10, 11, 12, 13, 14, 15, 16, 17, 18, 19, 20, 21, 22, 23, 24, 25, 26, 27, 28, 37, 38, 39, 40, 41, 42, 43, 44, 45, 46, 47, 48, 49, 50, 51] (by decide +kernel) (by decide +kernel)
set_option maxRecDepth 20000 in
theorem gX7_restore_X3_copy : GoodIn wsX7_restore (wsV RX7 163 RX3 yX3_copy wsX3_copy) := goodIn_app (goodIn_of _ (by decide +kernel)) ggX7_restore_X3_copy
theorem dX7_restore_0 : decode cX7_restore 0 = .ok (.iload_n 1, 1) := by decide +kernel
theorem dX7_restore_1 : decode cX7_restore 1 = .ok (.ifCond .lt 8, 3) := by decide +kernel
theorem dX7_restore_4 : decode cX7_restore 4 = .ok (.iload_n 1, 1) := by decide +kernel
theorem dX7_restore_5 : decode cX7_restore 5 = .ok (.iconst 2, 1) := by decide +kernel
theorem dX7_restore_6 : decode cX7_restore 6 = .ok (.if_icmp .lt 6, 3) := by decide +kernel
theorem dX7_restore_9 : decode cX7_restore 9 = .ok (.bipush (-2), 2) := by decide +kernel
theorem dX7_restore_11 : decode cX7_restore 11 = .ok (.ireturn, 1) := by decide +kernel
theorem dX7_restore_12 : decode cX7_restore 12 = .ok (.aload_n 0, 1) := by decide +kernel
theorem dX7_restore_13 : decode cX7_restore 13 = .ok (.getfield 23, 3) := by decide +kernel
theorem dX7_restore_16 : decode cX7_restore 16 = .ok (.iload_n 1, 1) := by decide +kernel
theorem dX7_restore_17 : decode cX7_restore 17 = .ok (.aaload, 1) := by decide +kernel
theorem dX7_restore_18 : decode cX7_restore 18 = .ok (.astore_n 2, 1) := by decide +kernel
theorem dX7_restore_19 : decode cX7_restore 19 = .ok (.aload_n 2, 1) := by decide +kernel
theorem dX7_restore_20 : decode cX7_restore 20 = .ok (.ifnonnull 6, 3) := by decide +kernel
theorem dX7_restore_23 : decode cX7_restore 23 = .ok (.bipush (-3), 2) := by decide +kernel
theorem dX7_restore_25 : decode cX7_restore 25 = .ok (.ireturn, 1) := by decide +kernel
theorem dX7_restore_26 : decode cX7_restore 26 = .ok (.aload_n 0, 1) := by decide +kernel
theorem dX7_restore_27 : decode cX7_restore 27 = .ok (.getfield 19, 3) := by decide +kernel
theorem dX7_restore_30 : decode cX7_restore 30 = .ok (.aload_n 2, 1) := by decide +kernel
theorem dX7_restore_31 : decode cX7_restore 31 = .ok (.invokevirtual 163, 3) := by decide +kernel
theorem dX7_restore_34 : decode cX7_restore 34 = .ok (.aload_n 0, 1) := by decide +kernel
theorem dX7_restore_35 : decode cX7_restore 35 = .ok (.iconst 1, 1) := by decide +kernel
theorem dX7_restore_36 : decode cX7_restore 36 = .ok (.putfield 55, 3) := by decide +kernel
theorem dX7_restore_39 : decode cX7_restore 39 = .ok (.iconst 1, 1) := by decide +kernel
theorem dX7_restore_40 : decode cX7_restore 40 = .ok (.ireturn, 1) := by decide +kernel
theorem dX7_told_0 : decode cX7_told 0 = .ok (.iload_n 1, 1) := by decide +kernel
theorem dX7_told_1 : decode cX7_told 1 = .ok (.bipush 10, 2) := by decide +kernel
theorem dX7_told_3 : decode cX7_told 3 = .ok (.if_icmp .lt 33, 3) := by decide +kernel
theorem dX7_told_6 : decode cX7_told 6 = .ok (.iload_n 1, 1) := by decide +kernel
theorem dX7_told_7 : decode cX7_told 7 = .ok (.bipush 10, 2) := by decide +kernel
theorem dX7_told_9 : decode cX7_told 9 = .ok (.aload_n 0, 1) := by decide +kernel
theorem dX7_told_10 : decode cX7_told 10 = .ok (.getfield 19, 3) := by decide +kernel
theorem dX7_told_13 : decode cX7_told 13 = .ok (.getfield 71, 3) := by decide +kernel
theorem dX7_told_16 : decode cX7_told 16 = .ok (.getfield 85, 3) := by decide +kernel
theorem dX7_told_19 : decode cX7_told 19 = .ok (.iadd, 1) := by decide +kernel
theorem dX7_told_20 : decode cX7_told 20 = .ok (.if_icmp .ge 16, 3) := by decide +kernel
theorem dX7_told_23 : decode cX7_told 23 = .ok (.aload_n 0, 1) := by decide +kernel
theorem dX7_told_24 : decode cX7_told 24 = .ok (.getfield 19, 3) := by decide +kernel
theorem dX7_told_27 : decode cX7_told 27 = .ok (.getfield 91, 3) := by decide +kernel
theorem dX7_told_30 : decode cX7_told 30 = .ok (.iload_n 1, 1) := by decide +kernel
theorem dX7_told_31 : decode cX7_told 31 = .ok (.bipush 10, 2) := by decide +kernel
theorem dX7_told_33 : decode cX7_told 33 = .ok (.isub, 1) := by decide +kernel
theorem dX7_told_34 : decode cX7_told 34 = .ok (.iaload, 1) := by decide +kernel
theorem dX7_told_35 : decode cX7_told 35 = .ok (.ireturn, 1) := by decide +kernel
theorem dX7_told_36 : decode cX7_told 36 = .ok (.iload_n 1, 1) := by decide +kernel
theorem dX7_told_37 : decode cX7_told 37 = .ok (.tableswitch 54 0 2 #[27, 35, 46], 27) := by decide +kernel
theorem dX7_told_64 : decode cX7_told 64 = .ok (.aload_n 0, 1) := by decide +kernel
theorem dX7_told_65 : decode cX7_told 65 = .ok (.getfield 12, 3) := by decide +kernel
theorem dX7_told_68 : decode cX7_told 68 = .ok (.getfield 63, 3) := by decide +kernel
theorem dX7_told_71 : decode cX7_told 71 = .ok (.ireturn, 1) := by decide +kernel
theorem dX7_told_72 : decode cX7_told 72 = .ok (.aload_n 0, 1) := by decide +kernel
theorem dX7_told_73 : decode cX7_told 73 = .ok (.getfield 19, 3) := by decide +kernel
theorem dX7_told_76 : decode cX7_told 76 = .ok (.getfield 71, 3) := by decide +kernel
theorem dX7_told_79 : decode cX7_told 79 = .ok (.getfield 85, 3) := by decide +kernel
theorem dX7_told_82 : decode cX7_told 82 = .ok (.ireturn, 1) := by decide +kernel
theorem dX7_told_83 : decode cX7_told 83 = .ok (.aload_n 0, 1) := by decide +kernel
theorem dX7_told_84 : decode cX7_told 84 = .ok (.getfield 19, 3) := by decide +kernel
theorem dX7_told_87 : decode cX7_told 87 = .ok (.getfield 88, 3) := by decide +kernel
theorem dX7_told_90 : decode cX7_told 90 = .ok (.ireturn, 1) := by decide +kernel
theorem dX7_told_91 : decode cX7_told 91 = .ok (.bipush (-2), 2) := by decide +kernel
theorem dX7_told_93 : decode cX7_told 93 = .ok (.ireturn, 1) := by decide +kernel
set_option maxRecDepth 20000 in
theorem ggX7_carry_X5_find : GoodIn wsX7_carry wsX5_find := goodIn_r _ [13, 14, 15, 16, 17, 18, 19, 20, 21, 22, 23, 24, 25, 12, 26, 27, 28, 29, 30, 31, 32, 33, 34, 35, 36, 37, 38, 39, 40, 41, 42, 43, 44, 45, 46, 47, 207, 208, 209, 210, 204, 205, 206, 211, 212, 213, 214, 215, 216, 217, 218, 219, 220, 221, 222] (by decide +kernel) (by decide +kernel)
set_option maxRecDepth 20000 in
theorem gX7_carry_X5_find : GoodIn wsX7_carry (wsV RX7 166 RX5 yX5_find wsX5_find) := goodIn_app (goodIn_of _ (by decide +kernel)) ggX7_carry_X5_find
set_option maxRecDepth 20000 in
theorem ggX7_carry_X2_place : GoodIn wsX7_carry wsX2_place := goodIn_r _ [52, 53, 54, 55, 56, 20, 21, 22, 57, 58, 59, 51, 60, 61, 62, 63, 64, 65, 66, 67, 68, 69, 70, 71, 72, 73, 74, 75, 76, 77, 78, 79, 80, 81, 82, 83, 84, 85, 86, 87, 88, 89, 90, 91, 92, 93, 94, 95, 96, 97, 98, 99, 100, 101, 102, 103, 104, 105, 106, 107, 108, 109, 110, 111, 112, 211, 212, 213, 214, 215, 216, 217, 218, 219, 220, 221, 222, 207, 208, 209, 210, 223, 224, 225, 226, 227, 228, 229, 230] (by decide +kernel) (by decide +kernel)
set_option maxRecDepth 20000 in
theorem gX7_carry_X2_place : GoodIn wsX7_carry (wsV RX7 169 RX2 yX2_place wsX2_place) := goodIn_app (goodIn_of _ (by decide +kernel)) ggX7_carry_X2_place
set_option maxRecDepth 20000 in
theorem ggX7_carry_X0_place : GoodIn wsX7_carry wsX0_place := goodIn_r _ [117, 118, 119, 120, 121, 122, 123, 124, 125, 126, 127, 116, 128, 129, 130, 69, 70, 71, 231, 232, 233, 234, 211, 212, 213, 214, 215, 216, 217, 218, 219, 220, 221, 222, 207, 208, 209, 210] (by decide +kernel) (by decide +kernel)
set_option maxRecDepth 20000 in
theorem gX7_carry_X0_place : GoodIn wsX7_carry (wsV RX7 173 RX0 yX0_place wsX0_place) := goodIn_app (goodIn_of _ (by decide +kernel)) ggX7_carry_X0_place
set_option maxRecDepth 20000 in
theorem ggX7_carry_X6_write : GoodIn wsX7_carry wsX6_write := goodIn_r _ [135, 136, 137, 138, 139, 140, 141, 134, 142, 143, 144, 145, 20, 21, 22, 146, 147, 148, 149, 150, 151, 152, 153, 154, 155, 156, 157, 158, 159, 160, 161, 162, 163, 164, 165, 166, 167, 168, 169, 170, 171, 172, 173, 174, 175, 176, 177, 178, 179, 180, 181, 182, 183, 184, 185, 186, 187, 188, 189, 190, 191, 192, 193, 194, 195, 235, 236, 237, 204, 205, 206, 211, 212, 213, 214, 215, 216, 217, 218, 219, 220, 221, 222, 223, 224, 225, 226, 227, 228, 229, 230, 231, 232, 233, 234] (by decide +kernel) (by decide +kernel)
set_option maxRecDepth 20000 in
theorem gX7_carry_X6_write : GoodIn wsX7_carry (wsV RX7 174 RX6 yX6_write wsX6_write) := goodIn_app (goodIn_of _ (by decide +kernel)) ggX7_carry_X6_write
theorem dX7_carry_0 : decode cX7_carry 0 = .ok (.aload_n 0, 1) := by decide +kernel
theorem dX7_carry_1 : decode cX7_carry 1 = .ok (.getfield 55, 3) := by decide +kernel
theorem dX7_carry_4 : decode cX7_carry 4 = .ok (.ifCond .ne 4, 3) := by decide +kernel
theorem dX7_carry_7 : decode cX7_carry 7 = .ok (.return_, 1) := by decide +kernel
theorem dX7_carry_8 : decode cX7_carry 8 = .ok (.aload_n 0, 1) := by decide +kernel
theorem dX7_carry_9 : decode cX7_carry 9 = .ok (.getfield 30, 3) := by decide +kernel
theorem dX7_carry_12 : decode cX7_carry 12 = .ok (.aload_n 0, 1) := by decide +kernel
theorem dX7_carry_13 : decode cX7_carry 13 = .ok (.getfield 19, 3) := by decide +kernel
theorem dX7_carry_16 : decode cX7_carry 16 = .ok (.invokevirtual 166, 3) := by decide +kernel
theorem dX7_carry_19 : decode cX7_carry 19 = .ok (.aload_n 0, 1) := by decide +kernel
theorem dX7_carry_20 : decode cX7_carry 20 = .ok (.getfield 37, 3) := by decide +kernel
theorem dX7_carry_23 : decode cX7_carry 23 = .ok (.aload_n 0, 1) := by decide +kernel
theorem dX7_carry_24 : decode cX7_carry 24 = .ok (.getfield 19, 3) := by decide +kernel
theorem dX7_carry_27 : decode cX7_carry 27 = .ok (.getfield 71, 3) := by decide +kernel
theorem dX7_carry_30 : decode cX7_carry 30 = .ok (.aload_n 0, 1) := by decide +kernel
theorem dX7_carry_31 : decode cX7_carry 31 = .ok (.getfield 30, 3) := by decide +kernel
theorem dX7_carry_34 : decode cX7_carry 34 = .ok (.aload_n 0, 1) := by decide +kernel
theorem dX7_carry_35 : decode cX7_carry 35 = .ok (.getfield 19, 3) := by decide +kernel
theorem dX7_carry_38 : decode cX7_carry 38 = .ok (.getfield 88, 3) := by decide +kernel
theorem dX7_carry_41 : decode cX7_carry 41 = .ok (.invokevirtual 169, 3) := by decide +kernel
theorem dX7_carry_44 : decode cX7_carry 44 = .ok (.aload_n 0, 1) := by decide +kernel
theorem dX7_carry_45 : decode cX7_carry 45 = .ok (.getfield 44, 3) := by decide +kernel
theorem dX7_carry_48 : decode cX7_carry 48 = .ok (.aload_n 0, 1) := by decide +kernel
theorem dX7_carry_49 : decode cX7_carry 49 = .ok (.getfield 19, 3) := by decide +kernel
theorem dX7_carry_52 : decode cX7_carry 52 = .ok (.getfield 71, 3) := by decide +kernel
theorem dX7_carry_55 : decode cX7_carry 55 = .ok (.aload_n 0, 1) := by decide +kernel
theorem dX7_carry_56 : decode cX7_carry 56 = .ok (.getfield 30, 3) := by decide +kernel
theorem dX7_carry_59 : decode cX7_carry 59 = .ok (.aload_n 0, 1) := by decide +kernel
theorem dX7_carry_60 : decode cX7_carry 60 = .ok (.getfield 19, 3) := by decide +kernel
theorem dX7_carry_63 : decode cX7_carry 63 = .ok (.getfield 88, 3) := by decide +kernel
theorem dX7_carry_66 : decode cX7_carry 66 = .ok (.invokevirtual 173, 3) := by decide +kernel
theorem dX7_carry_69 : decode cX7_carry 69 = .ok (.aload_n 0, 1) := by decide +kernel
theorem dX7_carry_70 : decode cX7_carry 70 = .ok (.getfield 51, 3) := by decide +kernel
theorem dX7_carry_73 : decode cX7_carry 73 = .ok (.aload_n 0, 1) := by decide +kernel
theorem dX7_carry_74 : decode cX7_carry 74 = .ok (.getfield 19, 3) := by decide +kernel
theorem dX7_carry_77 : decode cX7_carry 77 = .ok (.aload_n 0, 1) := by decide +kernel
theorem dX7_carry_78 : decode cX7_carry 78 = .ok (.getfield 37, 3) := by decide +kernel
theorem dX7_carry_81 : decode cX7_carry 81 = .ok (.aload_n 0, 1) := by decide +kernel
theorem dX7_carry_82 : decode cX7_carry 82 = .ok (.getfield 44, 3) := by decide +kernel
theorem dX7_carry_85 : decode cX7_carry 85 = .ok (.invokevirtual 174, 3) := by decide +kernel
theorem dX7_carry_88 : decode cX7_carry 88 = .ok (.aload_n 0, 1) := by decide +kernel
theorem dX7_carry_89 : decode cX7_carry 89 = .ok (.iconst 0, 1) := by decide +kernel
theorem dX7_carry_90 : decode cX7_carry 90 = .ok (.putfield 55, 3) := by decide +kernel
theorem dX7_carry_93 : decode cX7_carry 93 = .ok (.return_, 1) := by decide +kernel
theorem dX7_has_0 : decode cX7_has 0 = .ok (.iload_n 0, 1) := by decide +kernel
theorem dX7_has_1 : decode cX7_has 1 = .ok (.iload_n 1, 1) := by decide +kernel
theorem dX7_has_2 : decode cX7_has 2 = .ok (.ishr, 1) := by decide +kernel
theorem dX7_has_3 : decode cX7_has 3 = .ok (.iconst 1, 1) := by decide +kernel
theorem dX7_has_4 : decode cX7_has 4 = .ok (.iand, 1) := by decide +kernel
theorem dX7_has_5 : decode cX7_has 5 = .ok (.ifCond .eq 7, 3) := by decide +kernel
theorem dX7_has_8 : decode cX7_has 8 = .ok (.iconst 1, 1) := by decide +kernel
theorem dX7_has_9 : decode cX7_has 9 = .ok (.goto 4, 3) := by decide +kernel
theorem dX7_has_12 : decode cX7_has 12 = .ok (.iconst 0, 1) := by decide +kernel
theorem dX7_has_13 : decode cX7_has 13 = .ok (.ireturn, 1) := by decide +kernel
theorem dX8_init_0 : decode cX8_init 0 = .ok (.aload_n 0, 1) := by decide +kernel
theorem dX8_init_1 : decode cX8_init 1 = .ok (.invokespecial 1, 3) := by decide +kernel
theorem dX8_init_4 : decode cX8_init 4 = .ok (.aload_n 0, 1) := by decide +kernel
theorem dX8_init_5 : decode cX8_init 5 = .ok (.iconst 5, 1) := by decide +kernel
theorem dX8_init_6 : decode cX8_init 6 = .ok (.newarray .int, 2) := by decide +kernel
theorem dX8_init_8 : decode cX8_init 8 = .ok (.putfield 7, 3) := by decide +kernel
theorem dX8_init_11 : decode cX8_init 11 = .ok (.aload_n 0, 1) := by decide +kernel
theorem dX8_init_12 : decode cX8_init 12 = .ok (.iconst 5, 1) := by decide +kernel
theorem dX8_init_13 : decode cX8_init 13 = .ok (.newarray .int, 2) := by decide +kernel
theorem dX8_init_15 : decode cX8_init 15 = .ok (.putfield 13, 3) := by decide +kernel
theorem dX8_init_18 : decode cX8_init 18 = .ok (.aload_n 0, 1) := by decide +kernel
theorem dX8_init_19 : decode cX8_init 19 = .ok (.iconst 5, 1) := by decide +kernel
theorem dX8_init_20 : decode cX8_init 20 = .ok (.newarray .int, 2) := by decide +kernel
theorem dX8_init_22 : decode cX8_init 22 = .ok (.putfield 16, 3) := by decide +kernel
theorem dX8_init_25 : decode cX8_init 25 = .ok (.aload_n 0, 1) := by decide +kernel
theorem dX8_init_26 : decode cX8_init 26 = .ok (.iconst 3, 1) := by decide +kernel
theorem dX8_init_27 : decode cX8_init 27 = .ok (.newarray .int, 2) := by decide +kernel
theorem dX8_init_29 : decode cX8_init 29 = .ok (.putfield 19, 3) := by decide +kernel
theorem dX8_init_32 : decode cX8_init 32 = .ok (.aload_n 0, 1) := by decide +kernel
theorem dX8_init_33 : decode cX8_init 33 = .ok (.iconst 3, 1) := by decide +kernel
theorem dX8_init_34 : decode cX8_init 34 = .ok (.newarray .int, 2) := by decide +kernel
theorem dX8_init_36 : decode cX8_init 36 = .ok (.putfield 22, 3) := by decide +kernel
theorem dX8_init_39 : decode cX8_init 39 = .ok (.aload_n 0, 1) := by decide +kernel
theorem dX8_init_40 : decode cX8_init 40 = .ok (.bipush 12, 2) := by decide +kernel
theorem dX8_init_42 : decode cX8_init 42 = .ok (.newarray .int, 2) := by decide +kernel
theorem dX8_init_44 : decode cX8_init 44 = .ok (.putfield 25, 3) := by decide +kernel
theorem dX8_init_47 : decode cX8_init 47 = .ok (.aload_n 0, 1) := by decide +kernel
theorem dX8_init_48 : decode cX8_init 48 = .ok (.bipush 30, 2) := by decide +kernel
theorem dX8_init_50 : decode cX8_init 50 = .ok (.newarray .int, 2) := by decide +kernel
theorem dX8_init_52 : decode cX8_init 52 = .ok (.putfield 28, 3) := by decide +kernel
theorem dX8_init_55 : decode cX8_init 55 = .ok (.aload_n 0, 1) := by decide +kernel
theorem dX8_init_56 : decode cX8_init 56 = .ok (.iconst 5, 1) := by decide +kernel
theorem dX8_init_57 : decode cX8_init 57 = .ok (.newarray .int, 2) := by decide +kernel
theorem dX8_init_59 : decode cX8_init 59 = .ok (.putfield 31, 3) := by decide +kernel
theorem dX8_init_62 : decode cX8_init 62 = .ok (.aload_n 0, 1) := by decide +kernel
theorem dX8_init_63 : decode cX8_init 63 = .ok (.sipush 2592, 3) := by decide +kernel
theorem dX8_init_66 : decode cX8_init 66 = .ok (.newarray .long, 2) := by decide +kernel
theorem dX8_init_68 : decode cX8_init 68 = .ok (.putfield 34, 3) := by decide +kernel
theorem dX8_init_71 : decode cX8_init 71 = .ok (.aload_n 0, 1) := by decide +kernel
theorem dX8_init_72 : decode cX8_init 72 = .ok (.iconst 5, 1) := by decide +kernel
theorem dX8_init_73 : decode cX8_init 73 = .ok (.newarray .int, 2) := by decide +kernel
theorem dX8_init_75 : decode cX8_init 75 = .ok (.putfield 38, 3) := by decide +kernel
theorem dX8_init_78 : decode cX8_init 78 = .ok (.aload_n 0, 1) := by decide +kernel
theorem dX8_init_79 : decode cX8_init 79 = .ok (.iconst 5, 1) := by decide +kernel
theorem dX8_init_80 : decode cX8_init 80 = .ok (.newarray .int, 2) := by decide +kernel
theorem dX8_init_82 : decode cX8_init 82 = .ok (.putfield 41, 3) := by decide +kernel
theorem dX8_init_85 : decode cX8_init 85 = .ok (.aload_n 0, 1) := by decide +kernel
theorem dX8_init_86 : decode cX8_init 86 = .ok (.iconst 3, 1) := by decide +kernel
theorem dX8_init_87 : decode cX8_init 87 = .ok (.newarray .int, 2) := by decide +kernel
theorem dX8_init_89 : decode cX8_init 89 = .ok (.putfield 44, 3) := by decide +kernel
theorem dX8_init_92 : decode cX8_init 92 = .ok (.aload_n 0, 1) := by decide +kernel
theorem dX8_init_93 : decode cX8_init 93 = .ok (.bipush 30, 2) := by decide +kernel
theorem dX8_init_95 : decode cX8_init 95 = .ok (.newarray .int, 2) := by decide +kernel
theorem dX8_init_97 : decode cX8_init 97 = .ok (.putfield 47, 3) := by decide +kernel
theorem dX8_init_100 : decode cX8_init 100 = .ok (.aload_n 0, 1) := by decide +kernel
theorem dX8_init_101 : decode cX8_init 101 = .ok (.bipush 80, 2) := by decide +kernel
theorem dX8_init_103 : decode cX8_init 103 = .ok (.newarray .int, 2) := by decide +kernel
theorem dX8_init_105 : decode cX8_init 105 = .ok (.putfield 50, 3) := by decide +kernel
theorem dX8_init_108 : decode cX8_init 108 = .ok (.aload_n 0, 1) := by decide +kernel
theorem dX8_init_109 : decode cX8_init 109 = .ok (.iconst 2, 1) := by decide +kernel
theorem dX8_init_110 : decode cX8_init 110 = .ok (.newarray .boolean, 2) := by decide +kernel
theorem dX8_init_112 : decode cX8_init 112 = .ok (.putfield 53, 3) := by decide +kernel
theorem dX8_init_115 : decode cX8_init 115 = .ok (.iconst 0, 1) := by decide +kernel
theorem dX8_init_116 : decode cX8_init 116 = .ok (.istore_n 1, 1) := by decide +kernel
theorem dX8_init_117 : decode cX8_init 117 = .ok (.iload_n 1, 1) := by decide +kernel
theorem dX8_init_118 : decode cX8_init 118 = .ok (.iconst 5, 1) := by decide +kernel
theorem dX8_init_119 : decode cX8_init 119 = .ok (.if_icmp .ge 17, 3) := by decide +kernel
theorem dX8_init_122 : decode cX8_init 122 = .ok (.aload_n 0, 1) := by decide +kernel
theorem dX8_init_123 : decode cX8_init 123 = .ok (.getfield 7, 3) := by decide +kernel
theorem dX8_init_126 : decode cX8_init 126 = .ok (.iload_n 1, 1) := by decide +kernel
theorem dX8_init_127 : decode cX8_init 127 = .ok (.bipush (-6), 2) := by decide +kernel
theorem dX8_init_129 : decode cX8_init 129 = .ok (.iastore, 1) := by decide +kernel
theorem dX8_init_130 : decode cX8_init 130 = .ok (.iinc 1 1, 3) := by decide +kernel
theorem dX8_init_133 : decode cX8_init 133 = .ok (.goto (-16), 3) := by decide +kernel
theorem dX8_init_136 : decode cX8_init 136 = .ok (.iconst 0, 1) := by decide +kernel
theorem dX8_init_137 : decode cX8_init 137 = .ok (.istore_n 1, 1) := by decide +kernel
theorem dX8_init_138 : decode cX8_init 138 = .ok (.iload_n 1, 1) := by decide +kernel
theorem dX8_init_139 : decode cX8_init 139 = .ok (.iconst 3, 1) := by decide +kernel
theorem dX8_init_140 : decode cX8_init 140 = .ok (.if_icmp .ge 17, 3) := by decide +kernel
theorem dX8_init_143 : decode cX8_init 143 = .ok (.aload_n 0, 1) := by decide +kernel
theorem dX8_init_144 : decode cX8_init 144 = .ok (.getfield 19, 3) := by decide +kernel
theorem dX8_init_147 : decode cX8_init 147 = .ok (.iload_n 1, 1) := by decide +kernel
theorem dX8_init_148 : decode cX8_init 148 = .ok (.bipush (-6), 2) := by decide +kernel
theorem dX8_init_150 : decode cX8_init 150 = .ok (.iastore, 1) := by decide +kernel
theorem dX8_init_151 : decode cX8_init 151 = .ok (.iinc 1 1, 3) := by decide +kernel
theorem dX8_init_154 : decode cX8_init 154 = .ok (.goto (-16), 3) := by decide +kernel
theorem dX8_init_157 : decode cX8_init 157 = .ok (.return_, 1) := by decide +kernel
theorem dX8_in_0 : decode cX8_in 0 = .ok (.iload_n 0, 1) := by decide +kernel
theorem dX8_in_1 : decode cX8_in 1 = .ok (.iload_n 1, 1) := by decide +kernel
theorem dX8_in_2 : decode cX8_in 2 = .ok (.if_icmp .lt 12, 3) := by decide +kernel
theorem dX8_in_5 : decode cX8_in 5 = .ok (.iload_n 0, 1) := by decide +kernel
theorem dX8_in_6 : decode cX8_in 6 = .ok (.iload_n 2, 1) := by decide +kernel
theorem dX8_in_7 : decode cX8_in 7 = .ok (.if_icmp .gt 7, 3) := by decide +kernel
theorem dX8_in_10 : decode cX8_in 10 = .ok (.iconst 1, 1) := by decide +kernel
theorem dX8_in_11 : decode cX8_in 11 = .ok (.goto 4, 3) := by decide +kernel
theorem dX8_in_14 : decode cX8_in 14 = .ok (.iconst 0, 1) := by decide +kernel
theorem dX8_in_15 : decode cX8_in 15 = .ok (.ireturn, 1) := by decide +kernel
theorem dX8_off_0 : decode cX8_off 0 = .ok (.iload_n 0, 1) := by decide +kernel
theorem dX8_off_1 : decode cX8_off 1 = .ok (.iload_n 1, 1) := by decide +kernel
theorem dX8_off_2 : decode cX8_off 2 = .ok (.if_icmp .ge 9, 3) := by decide +kernel
theorem dX8_off_5 : decode cX8_off 5 = .ok (.iload_n 1, 1) := by decide +kernel
theorem dX8_off_6 : decode cX8_off 6 = .ok (.iload_n 0, 1) := by decide +kernel
theorem dX8_off_7 : decode cX8_off 7 = .ok (.isub, 1) := by decide +kernel
theorem dX8_off_8 : decode cX8_off 8 = .ok (.goto 6, 3) := by decide +kernel
theorem dX8_off_11 : decode cX8_off 11 = .ok (.iload_n 0, 1) := by decide +kernel
theorem dX8_off_12 : decode cX8_off 12 = .ok (.iload_n 1, 1) := by decide +kernel
theorem dX8_off_13 : decode cX8_off 13 = .ok (.isub, 1) := by decide +kernel
theorem dX8_off_14 : decode cX8_off 14 = .ok (.ireturn, 1) := by decide +kernel
theorem dX8_greater_0 : decode cX8_greater 0 = .ok (.iload_n 0, 1) := by decide +kernel
theorem dX8_greater_1 : decode cX8_greater 1 = .ok (.iload_n 1, 1) := by decide +kernel
theorem dX8_greater_2 : decode cX8_greater 2 = .ok (.if_icmp .le 7, 3) := by decide +kernel
theorem dX8_greater_5 : decode cX8_greater 5 = .ok (.iload_n 0, 1) := by decide +kernel
theorem dX8_greater_6 : decode cX8_greater 6 = .ok (.goto 4, 3) := by decide +kernel
theorem dX8_greater_9 : decode cX8_greater 9 = .ok (.iload_n 1, 1) := by decide +kernel
theorem dX8_greater_10 : decode cX8_greater 10 = .ok (.ireturn, 1) := by decide +kernel
set_option maxRecDepth 20000 in
theorem ggX8_say_X8_in : GoodIn wsX8_say wsX8_in := goodIn_r _ [6] (by decide +kernel) (by decide +kernel)
set_option maxRecDepth 20000 in
theorem gX8_say_X8_in : GoodIn wsX8_say (va_wsS RX8 57 yX8_in wsX8_in) := goodIn_app (goodIn_of _ (by decide +kernel)) ggX8_say_X8_in
theorem dX8_say_0 : decode cX8_say 0 = .ok (.iload_n 1, 1) := by decide +kernel
theorem dX8_say_1 : decode cX8_say 1 = .ok (.bipush 33, 2) := by decide +kernel
