theorem dX10_search_120 : decode cX10_search 120 = .ok (.goto 4, 3) := by decide +kernel
theorem dX10_search_123 : decode cX10_search 123 = .ok (.iconst 0, 1) := by decide +kernel
theorem dX10_search_124 : decode cX10_search 124 = .ok (.istore 8, 2) := by decide +kernel
theorem dX10_search_126 : decode cX10_search 126 = .ok (.iload 8, 2) := by decide +kernel
theorem dX10_search_128 : decode cX10_search 128 = .ok (.ifCond .eq 50, 3) := by decide +kernel
theorem dX10_search_131 : decode cX10_search 131 = .ok (.iload_n 1, 1) := by decide +kernel
theorem dX10_search_132 : decode cX10_search 132 = .ok (.iconst 1, 1) := by decide +kernel
theorem dX10_search_133 : decode cX10_search 133 = .ok (.if_icmp .ne 12, 3) := by decide +kernel
theorem dX10_search_136 : decode cX10_search 136 = .ok (.aload_n 0, 1) := by decide +kernel
theorem dX10_search_137 : decode cX10_search 137 = .ok (.iload 4, 2) := by decide +kernel
theorem dX10_search_139 : decode cX10_search 139 = .ok (.invokevirtual 169, 3) := by decide +kernel
theorem dX10_search_142 : decode cX10_search 142 = .ok (.ifCond .ne 36, 3) := by decide +kernel
theorem dX10_search_145 : decode cX10_search 145 = .ok (.iload_n 1, 1) := by decide +kernel
theorem dX10_search_146 : decode cX10_search 146 = .ok (.iconst 2, 1) := by decide +kernel
theorem dX10_search_147 : decode cX10_search 147 = .ok (.if_icmp .lt 27, 3) := by decide +kernel
theorem dX10_search_150 : decode cX10_search 150 = .ok (.aload_n 0, 1) := by decide +kernel
theorem dX10_search_151 : decode cX10_search 151 = .ok (.getfield 63, 3) := by decide +kernel
theorem dX10_search_154 : decode cX10_search 154 = .ok (.iload 4, 2) := by decide +kernel
theorem dX10_search_156 : decode cX10_search 156 = .ok (.iload_n 2, 1) := by decide +kernel
theorem dX10_search_157 : decode cX10_search 157 = .ok (.iload_n 3, 1) := by decide +kernel
theorem dX10_search_158 : decode cX10_search 158 = .ok (.invokestatic 153, 3) := by decide +kernel
theorem dX10_search_161 : decode cX10_search 161 = .ok (.iload_n 1, 1) := by decide +kernel
theorem dX10_search_162 : decode cX10_search 162 = .ok (.iconst 2, 1) := by decide +kernel
theorem dX10_search_163 : decode cX10_search 163 = .ok (.if_icmp .ne 7, 3) := by decide +kernel
theorem dX10_search_166 : decode cX10_search 166 = .ok (.iconst 1, 1) := by decide +kernel
theorem dX10_search_167 : decode cX10_search 167 = .ok (.goto 4, 3) := by decide +kernel
theorem dX10_search_170 : decode cX10_search 170 = .ok (.iconst 0, 1) := by decide +kernel
theorem dX10_search_171 : decode cX10_search 171 = .ok (.if_icmp .ne 7, 3) := by decide +kernel
theorem dX10_search_174 : decode cX10_search 174 = .ok (.iconst 1, 1) := by decide +kernel
theorem dX10_search_175 : decode cX10_search 175 = .ok (.goto 4, 3) := by decide +kernel
theorem dX10_search_178 : decode cX10_search 178 = .ok (.iconst 0, 1) := by decide +kernel
theorem dX10_search_179 : decode cX10_search 179 = .ok (.istore 8, 2) := by decide +kernel
theorem dX10_search_181 : decode cX10_search 181 = .ok (.iload 8, 2) := by decide +kernel
theorem dX10_search_183 : decode cX10_search 183 = .ok (.ifCond .eq 37, 3) := by decide +kernel
theorem dX10_search_186 : decode cX10_search 186 = .ok (.iload 7, 2) := by decide +kernel
theorem dX10_search_188 : decode cX10_search 188 = .ok (.istore 5, 2) := by decide +kernel
theorem dX10_search_190 : decode cX10_search 190 = .ok (.iconst 0, 1) := by decide +kernel
theorem dX10_search_191 : decode cX10_search 191 = .ok (.istore 9, 2) := by decide +kernel
theorem dX10_search_193 : decode cX10_search 193 = .ok (.iload 9, 2) := by decide +kernel
theorem dX10_search_195 : decode cX10_search 195 = .ok (.iload 4, 2) := by decide +kernel
theorem dX10_search_197 : decode cX10_search 197 = .ok (.if_icmp .ge 23, 3) := by decide +kernel
theorem dX10_search_200 : decode cX10_search 200 = .ok (.aload_n 0, 1) := by decide +kernel
theorem dX10_search_201 : decode cX10_search 201 = .ok (.getfield 66, 3) := by decide +kernel
theorem dX10_search_204 : decode cX10_search 204 = .ok (.iload 9, 2) := by decide +kernel
theorem dX10_search_206 : decode cX10_search 206 = .ok (.aload_n 0, 1) := by decide +kernel
theorem dX10_search_207 : decode cX10_search 207 = .ok (.getfield 63, 3) := by decide +kernel
theorem dX10_search_210 : decode cX10_search 210 = .ok (.iload 9, 2) := by decide +kernel
theorem dX10_search_212 : decode cX10_search 212 = .ok (.iaload, 1) := by decide +kernel
theorem dX10_search_213 : decode cX10_search 213 = .ok (.iastore, 1) := by decide +kernel
theorem dX10_search_214 : decode cX10_search 214 = .ok (.iinc 9 1, 3) := by decide +kernel
theorem dX10_search_217 : decode cX10_search 217 = .ok (.goto (-24), 3) := by decide +kernel
theorem dX10_search_220 : decode cX10_search 220 = .ok (.aload_n 0, 1) := by decide +kernel
theorem dX10_search_221 : decode cX10_search 221 = .ok (.iload 4, 2) := by decide +kernel
theorem dX10_search_223 : decode cX10_search 223 = .ok (.invokevirtual 172, 3) := by decide +kernel
theorem dX10_search_226 : decode cX10_search 226 = .ok (.istore 6, 2) := by decide +kernel
theorem dX10_search_228 : decode cX10_search 228 = .ok (.goto (-169), 3) := by decide +kernel
theorem dX10_search_231 : decode cX10_search 231 = .ok (.iload 5, 2) := by decide +kernel
theorem dX10_search_233 : decode cX10_search 233 = .ok (.ireturn, 1) := by decide +kernel
set_option maxRecDepth 20000 in
theorem ggX10_least_X10_lit : GoodIn wsX10_least wsX10_lit := goodIn_r _ [9, 10, 11, 56, 57, 58, 59, 60, 61, 62, 63, 64, 65, 66, 67, 68, 69, 70, 71, 72, 73, 74, 75, 76, 77, 78, 79, 80, 81, 82, 83, 84, 85, 86, 87, 88, 89, 90, 91] (by decide +kernel) (by decide +kernel)
set_option maxRecDepth 20000 in
theorem gX10_least_X10_lit : GoodIn wsX10_least (wsV RX10 142 RX10 yX10_lit wsX10_lit) := goodIn_app (goodIn_of _ (by decide +kernel)) ggX10_least_X10_lit
set_option maxRecDepth 20000 in
theorem ggX10_least_X10_search : GoodIn wsX10_least wsX10_search := goodIn_r _ [15, 10, 11, 16, 1, 4, 17, 18, 19, 8, 20, 21, 22, 23, 24, 25, 26, 27, 28, 29, 30, 31, 32, 33, 34, 35, 36, 37, 38, 39, 40, 41, 42, 43, 44, 45, 46, 47, 48, 49, 50, 51, 52, 53, 54, 55, 56, 57, 58, 59, 60, 61, 62, 63, 64, 65, 66, 67, 68, 69, 70, 71, 72, 73, 74, 75, 76, 77, 78, 79, 80, 81, 82, 83, 84, 85, 86, 87, 88, 89, 90, 91] (by decide +kernel) (by decide +kernel)
set_option maxRecDepth 20000 in
theorem gX10_least_X10_search : GoodIn wsX10_least (wsV RX10 175 RX10 yX10_search wsX10_search) := goodIn_app (goodIn_of _ (by decide +kernel)) ggX10_least_X10_search
theorem dX10_least_0 : decode cX10_least 0 = .ok (.aload_n 0, 1) := by decide +kernel
theorem dX10_least_1 : decode cX10_least 1 = .ok (.invokevirtual 142, 3) := by decide +kernel
theorem dX10_least_4 : decode cX10_least 4 = .ok (.bipush 8, 2) := by decide +kernel
theorem dX10_least_6 : decode cX10_least 6 = .ok (.if_icmp .le 6, 3) := by decide +kernel
theorem dX10_least_9 : decode cX10_least 9 = .ok (.bipush (-8), 2) := by decide +kernel
theorem dX10_least_11 : decode cX10_least 11 = .ok (.ireturn, 1) := by decide +kernel
theorem dX10_least_12 : decode cX10_least 12 = .ok (.aload_n 0, 1) := by decide +kernel
theorem dX10_least_13 : decode cX10_least 13 = .ok (.iconst 0, 1) := by decide +kernel
theorem dX10_least_14 : decode cX10_least 14 = .ok (.iconst 0, 1) := by decide +kernel
theorem dX10_least_15 : decode cX10_least 15 = .ok (.iconst 0, 1) := by decide +kernel
theorem dX10_least_16 : decode cX10_least 16 = .ok (.invokevirtual 175, 3) := by decide +kernel
theorem dX10_least_19 : decode cX10_least 19 = .ok (.istore_n 1, 1) := by decide +kernel
theorem dX10_least_20 : decode cX10_least 20 = .ok (.iload_n 1, 1) := by decide +kernel
theorem dX10_least_21 : decode cX10_least 21 = .ok (.ldc 102, 2) := by decide +kernel
theorem dX10_least_23 : decode cX10_least 23 = .ok (.if_icmp .ne 6, 3) := by decide +kernel
theorem dX10_least_26 : decode cX10_least 26 = .ok (.bipush (-7), 2) := by decide +kernel
theorem dX10_least_28 : decode cX10_least 28 = .ok (.ireturn, 1) := by decide +kernel
theorem dX10_least_29 : decode cX10_least 29 = .ok (.aload_n 0, 1) := by decide +kernel
theorem dX10_least_30 : decode cX10_least 30 = .ok (.aload_n 0, 1) := by decide +kernel
theorem dX10_least_31 : decode cX10_least 31 = .ok (.invokevirtual 142, 3) := by decide +kernel
theorem dX10_least_34 : decode cX10_least 34 = .ok (.putfield 117, 3) := by decide +kernel
theorem dX10_least_37 : decode cX10_least 37 = .ok (.iconst 0, 1) := by decide +kernel
theorem dX10_least_38 : decode cX10_least 38 = .ok (.istore_n 2, 1) := by decide +kernel
theorem dX10_least_39 : decode cX10_least 39 = .ok (.iload_n 2, 1) := by decide +kernel
theorem dX10_least_40 : decode cX10_least 40 = .ok (.aload_n 0, 1) := by decide +kernel
theorem dX10_least_41 : decode cX10_least 41 = .ok (.getfield 117, 3) := by decide +kernel
theorem dX10_least_44 : decode cX10_least 44 = .ok (.if_icmp .ge 21, 3) := by decide +kernel
theorem dX10_least_47 : decode cX10_least 47 = .ok (.aload_n 0, 1) := by decide +kernel
theorem dX10_least_48 : decode cX10_least 48 = .ok (.getfield 51, 3) := by decide +kernel
theorem dX10_least_51 : decode cX10_least 51 = .ok (.iload_n 2, 1) := by decide +kernel
theorem dX10_least_52 : decode cX10_least 52 = .ok (.aload_n 0, 1) := by decide +kernel
theorem dX10_least_53 : decode cX10_least 53 = .ok (.getfield 66, 3) := by decide +kernel
theorem dX10_least_56 : decode cX10_least 56 = .ok (.iload_n 2, 1) := by decide +kernel
theorem dX10_least_57 : decode cX10_least 57 = .ok (.iaload, 1) := by decide +kernel
theorem dX10_least_58 : decode cX10_least 58 = .ok (.iastore, 1) := by decide +kernel
theorem dX10_least_59 : decode cX10_least 59 = .ok (.iinc 2 1, 3) := by decide +kernel
theorem dX10_least_62 : decode cX10_least 62 = .ok (.goto (-23), 3) := by decide +kernel
theorem dX10_least_65 : decode cX10_least 65 = .ok (.iload_n 1, 1) := by decide +kernel
theorem dX10_least_66 : decode cX10_least 66 = .ok (.ireturn, 1) := by decide +kernel
set_option maxRecDepth 20000 in
theorem ggX10_isWhole_X10_lit : GoodIn wsX10_isWhole wsX10_lit := goodIn_r _ [6, 7, 8, 9, 10, 11, 12, 13, 14, 15, 16, 17, 18, 19, 20, 21, 22, 23, 24, 25, 26, 27, 28, 29, 30, 31, 32, 33, 34, 35, 36, 37, 38, 39, 40, 41, 42, 43, 44] (by decide +kernel) (by decide +kernel)
set_option maxRecDepth 20000 in
theorem gX10_isWhole_X10_lit : GoodIn wsX10_isWhole (wsV RX10 142 RX10 yX10_lit wsX10_lit) := goodIn_app (goodIn_of _ (by decide +kernel)) ggX10_isWhole_X10_lit
theorem dX10_isWhole_0 : decode cX10_isWhole 0 = .ok (.aload_n 0, 1) := by decide +kernel
theorem dX10_isWhole_1 : decode cX10_isWhole 1 = .ok (.getfield 117, 3) := by decide +kernel
theorem dX10_isWhole_4 : decode cX10_isWhole 4 = .ok (.aload_n 0, 1) := by decide +kernel
theorem dX10_isWhole_5 : decode cX10_isWhole 5 = .ok (.invokevirtual 142, 3) := by decide +kernel
theorem dX10_isWhole_8 : decode cX10_isWhole 8 = .ok (.if_icmp .ne 15, 3) := by decide +kernel
theorem dX10_isWhole_11 : decode cX10_isWhole 11 = .ok (.aload_n 0, 1) := by decide +kernel
theorem dX10_isWhole_12 : decode cX10_isWhole 12 = .ok (.getfield 117, 3) := by decide +kernel
theorem dX10_isWhole_15 : decode cX10_isWhole 15 = .ok (.iconst 3, 1) := by decide +kernel
theorem dX10_isWhole_16 : decode cX10_isWhole 16 = .ok (.if_icmp .lt 7, 3) := by decide +kernel
theorem dX10_isWhole_19 : decode cX10_isWhole 19 = .ok (.iconst 1, 1) := by decide +kernel
theorem dX10_isWhole_20 : decode cX10_isWhole 20 = .ok (.goto 4, 3) := by decide +kernel
theorem dX10_isWhole_23 : decode cX10_isWhole 23 = .ok (.iconst 0, 1) := by decide +kernel
theorem dX10_isWhole_24 : decode cX10_isWhole 24 = .ok (.ireturn, 1) := by decide +kernel
theorem dX10_write_0 : decode cX10_write 0 = .ok (.iconst 0, 1) := by decide +kernel
theorem dX10_write_1 : decode cX10_write 1 = .ok (.istore_n 1, 1) := by decide +kernel
theorem dX10_write_2 : decode cX10_write 2 = .ok (.iconst 1, 1) := by decide +kernel
theorem dX10_write_3 : decode cX10_write 3 = .ok (.istore_n 2, 1) := by decide +kernel
theorem dX10_write_4 : decode cX10_write 4 = .ok (.iload_n 2, 1) := by decide +kernel
theorem dX10_write_5 : decode cX10_write 5 = .ok (.aload_n 0, 1) := by decide +kernel
theorem dX10_write_6 : decode cX10_write 6 = .ok (.getfield 117, 3) := by decide +kernel
theorem dX10_write_9 : decode cX10_write 9 = .ok (.if_icmp .ge 30, 3) := by decide +kernel
theorem dX10_write_12 : decode cX10_write 12 = .ok (.aload_n 0, 1) := by decide +kernel
theorem dX10_write_13 : decode cX10_write 13 = .ok (.getfield 51, 3) := by decide +kernel
theorem dX10_write_16 : decode cX10_write 16 = .ok (.iload_n 2, 1) := by decide +kernel
theorem dX10_write_17 : decode cX10_write 17 = .ok (.iaload, 1) := by decide +kernel
theorem dX10_write_18 : decode cX10_write 18 = .ok (.aload_n 0, 1) := by decide +kernel
theorem dX10_write_19 : decode cX10_write 19 = .ok (.getfield 51, 3) := by decide +kernel
theorem dX10_write_22 : decode cX10_write 22 = .ok (.iload_n 1, 1) := by decide +kernel
theorem dX10_write_23 : decode cX10_write 23 = .ok (.iaload, 1) := by decide +kernel
theorem dX10_write_24 : decode cX10_write 24 = .ok (.if_icmp .ge 7, 3) := by decide +kernel
theorem dX10_write_27 : decode cX10_write 27 = .ok (.iload_n 2, 1) := by decide +kernel
theorem dX10_write_28 : decode cX10_write 28 = .ok (.goto 4, 3) := by decide +kernel
theorem dX10_write_31 : decode cX10_write 31 = .ok (.iload_n 1, 1) := by decide +kernel
theorem dX10_write_32 : decode cX10_write 32 = .ok (.istore_n 1, 1) := by decide +kernel
theorem dX10_write_33 : decode cX10_write 33 = .ok (.iinc 2 1, 3) := by decide +kernel
theorem dX10_write_36 : decode cX10_write 36 = .ok (.goto (-32), 3) := by decide +kernel
theorem dX10_write_39 : decode cX10_write 39 = .ok (.aload_n 0, 1) := by decide +kernel
theorem dX10_write_40 : decode cX10_write 40 = .ok (.getfield 51, 3) := by decide +kernel
theorem dX10_write_43 : decode cX10_write 43 = .ok (.iload_n 1, 1) := by decide +kernel
theorem dX10_write_44 : decode cX10_write 44 = .ok (.iconst 1, 1) := by decide +kernel
theorem dX10_write_45 : decode cX10_write 45 = .ok (.iadd, 1) := by decide +kernel
theorem dX10_write_46 : decode cX10_write 46 = .ok (.aload_n 0, 1) := by decide +kernel
theorem dX10_write_47 : decode cX10_write 47 = .ok (.getfield 117, 3) := by decide +kernel
theorem dX10_write_50 : decode cX10_write 50 = .ok (.irem, 1) := by decide +kernel
theorem dX10_write_51 : decode cX10_write 51 = .ok (.iaload, 1) := by decide +kernel
theorem dX10_write_52 : decode cX10_write 52 = .ok (.aload_n 0, 1) := by decide +kernel
theorem dX10_write_53 : decode cX10_write 53 = .ok (.getfield 51, 3) := by decide +kernel
theorem dX10_write_56 : decode cX10_write 56 = .ok (.iload_n 1, 1) := by decide +kernel
theorem dX10_write_57 : decode cX10_write 57 = .ok (.aload_n 0, 1) := by decide +kernel
theorem dX10_write_58 : decode cX10_write 58 = .ok (.getfield 117, 3) := by decide +kernel
theorem dX10_write_61 : decode cX10_write 61 = .ok (.iadd, 1) := by decide +kernel
theorem dX10_write_62 : decode cX10_write 62 = .ok (.iconst 1, 1) := by decide +kernel
theorem dX10_write_63 : decode cX10_write 63 = .ok (.isub, 1) := by decide +kernel
theorem dX10_write_64 : decode cX10_write 64 = .ok (.aload_n 0, 1) := by decide +kernel
theorem dX10_write_65 : decode cX10_write 65 = .ok (.getfield 117, 3) := by decide +kernel
theorem dX10_write_68 : decode cX10_write 68 = .ok (.irem, 1) := by decide +kernel
theorem dX10_write_69 : decode cX10_write 69 = .ok (.iaload, 1) := by decide +kernel
theorem dX10_write_70 : decode cX10_write 70 = .ok (.if_icmp .ge 7, 3) := by decide +kernel
theorem dX10_write_73 : decode cX10_write 73 = .ok (.iconst 1, 1) := by decide +kernel
theorem dX10_write_74 : decode cX10_write 74 = .ok (.goto 4, 3) := by decide +kernel
theorem dX10_write_77 : decode cX10_write 77 = .ok (.iconst 0, 1) := by decide +kernel
theorem dX10_write_78 : decode cX10_write 78 = .ok (.istore_n 2, 1) := by decide +kernel
theorem dX10_write_79 : decode cX10_write 79 = .ok (.iconst 0, 1) := by decide +kernel
theorem dX10_write_80 : decode cX10_write 80 = .ok (.istore_n 3, 1) := by decide +kernel
theorem dX10_write_81 : decode cX10_write 81 = .ok (.iload_n 3, 1) := by decide +kernel
theorem dX10_write_82 : decode cX10_write 82 = .ok (.aload_n 0, 1) := by decide +kernel
theorem dX10_write_83 : decode cX10_write 83 = .ok (.getfield 117, 3) := by decide +kernel
theorem dX10_write_86 : decode cX10_write 86 = .ok (.if_icmp .ge 43, 3) := by decide +kernel
theorem dX10_write_89 : decode cX10_write 89 = .ok (.aload_n 0, 1) := by decide +kernel
theorem dX10_write_90 : decode cX10_write 90 = .ok (.getfield 69, 3) := by decide +kernel
theorem dX10_write_93 : decode cX10_write 93 = .ok (.iload_n 3, 1) := by decide +kernel
theorem dX10_write_94 : decode cX10_write 94 = .ok (.aload_n 0, 1) := by decide +kernel
theorem dX10_write_95 : decode cX10_write 95 = .ok (.getfield 51, 3) := by decide +kernel
theorem dX10_write_98 : decode cX10_write 98 = .ok (.iload_n 2, 1) := by decide +kernel
theorem dX10_write_99 : decode cX10_write 99 = .ok (.ifCond .eq 9, 3) := by decide +kernel
theorem dX10_write_102 : decode cX10_write 102 = .ok (.iload_n 1, 1) := by decide +kernel
theorem dX10_write_103 : decode cX10_write 103 = .ok (.iload_n 3, 1) := by decide +kernel
theorem dX10_write_104 : decode cX10_write 104 = .ok (.iadd, 1) := by decide +kernel
theorem dX10_write_105 : decode cX10_write 105 = .ok (.goto 11, 3) := by decide +kernel
theorem dX10_write_108 : decode cX10_write 108 = .ok (.iload_n 1, 1) := by decide +kernel
theorem dX10_write_109 : decode cX10_write 109 = .ok (.aload_n 0, 1) := by decide +kernel
theorem dX10_write_110 : decode cX10_write 110 = .ok (.getfield 117, 3) := by decide +kernel
theorem dX10_write_113 : decode cX10_write 113 = .ok (.iadd, 1) := by decide +kernel
theorem dX10_write_114 : decode cX10_write 114 = .ok (.iload_n 3, 1) := by decide +kernel
theorem dX10_write_115 : decode cX10_write 115 = .ok (.isub, 1) := by decide +kernel
theorem dX10_write_116 : decode cX10_write 116 = .ok (.aload_n 0, 1) := by decide +kernel
theorem dX10_write_117 : decode cX10_write 117 = .ok (.getfield 117, 3) := by decide +kernel
theorem dX10_write_120 : decode cX10_write 120 = .ok (.irem, 1) := by decide +kernel
theorem dX10_write_121 : decode cX10_write 121 = .ok (.iaload, 1) := by decide +kernel
theorem dX10_write_122 : decode cX10_write 122 = .ok (.iastore, 1) := by decide +kernel
theorem dX10_write_123 : decode cX10_write 123 = .ok (.iinc 3 1, 3) := by decide +kernel
theorem dX10_write_126 : decode cX10_write 126 = .ok (.goto (-45), 3) := by decide +kernel
theorem dX10_write_129 : decode cX10_write 129 = .ok (.return_, 1) := by decide +kernel
set_option maxRecDepth 20000 in
theorem ggX10_second_X10_isWhole : GoodIn wsX10_second wsX10_isWhole := goodIn_r _ [6, 7, 8, 9, 10, 5, 11, 12, 13, 64, 65, 66, 67, 68, 69, 70, 71, 72, 73, 74, 75, 76, 77, 78, 79, 80, 81, 82, 83, 84, 85, 86, 87, 88, 89, 90, 91, 92, 93, 94, 95, 96, 97, 98, 99] (by decide +kernel) (by decide +kernel)
set_option maxRecDepth 20000 in
theorem gX10_second_X10_isWhole : GoodIn wsX10_second (wsV RX10 179 RX10 yX10_isWhole wsX10_isWhole) := goodIn_app (goodIn_of _ (by decide +kernel)) ggX10_second_X10_isWhole
set_option maxRecDepth 20000 in
theorem ggX10_second_X10_lit : GoodIn wsX10_second wsX10_lit := goodIn_r _ [11, 12, 13, 64, 65, 66, 67, 68, 69, 70, 71, 72, 73, 74, 75, 76, 77, 78, 79, 80, 81, 82, 83, 84, 85, 86, 87, 88, 89, 90, 91, 92, 93, 94, 95, 96, 97, 98, 99] (by decide +kernel) (by decide +kernel)
set_option maxRecDepth 20000 in
theorem gX10_second_X10_lit : GoodIn wsX10_second (wsV RX10 142 RX10 yX10_lit wsX10_lit) := goodIn_app (goodIn_of _ (by decide +kernel)) ggX10_second_X10_lit
set_option maxRecDepth 20000 in
theorem ggX10_second_X10_write : GoodIn wsX10_second wsX10_write := goodIn_r _ [17, 7, 18, 19, 64, 65, 66, 67, 68, 69, 70, 71, 72, 73, 74, 75, 76, 77, 78, 79, 80, 81, 82, 83, 84, 85, 86, 87, 88, 89, 90, 91, 92, 93, 94, 95, 96, 97, 98, 99] (by decide +kernel) (by decide +kernel)
set_option maxRecDepth 20000 in
theorem gX10_second_X10_write : GoodIn wsX10_second (wsV RX10 183 RX10 yX10_write wsX10_write) := goodIn_app (goodIn_of _ (by decide +kernel)) ggX10_second_X10_write
set_option maxRecDepth 20000 in
theorem ggX10_second_X10_search : GoodIn wsX10_second wsX10_search := goodIn_r _ [23, 12, 13, 24, 1, 25, 26, 27, 28, 5, 29, 30, 31, 32, 33, 34, 35, 36, 37, 38, 39, 40, 41, 42, 43, 44, 45, 46, 47, 48, 49, 50, 51, 52, 53, 54, 55, 19, 56, 57, 58, 59, 60, 61, 62, 63, 64, 65, 66, 67, 68, 69, 70, 71, 72, 73, 74, 75, 76, 77, 78, 79, 80, 81, 82, 83, 84, 85, 86, 87, 88, 89, 90, 91, 92, 93, 94, 95, 96, 97, 98, 99] (by decide +kernel) (by decide +kernel)
set_option maxRecDepth 20000 in
theorem gX10_second_X10_search : GoodIn wsX10_second (wsV RX10 175 RX10 yX10_search wsX10_search) := goodIn_app (goodIn_of _ (by decide +kernel)) ggX10_second_X10_search
theorem dX10_second_0 : decode cX10_second 0 = .ok (.aload_n 0, 1) := by decide +kernel
theorem dX10_second_1 : decode cX10_second 1 = .ok (.invokevirtual 179, 3) := by decide +kernel
theorem dX10_second_4 : decode cX10_second 4 = .ok (.ifCond .ne 6, 3) := by decide +kernel
theorem dX10_second_7 : decode cX10_second 7 = .ok (.bipush (-4), 2) := by decide +kernel
theorem dX10_second_9 : decode cX10_second 9 = .ok (.ireturn, 1) := by decide +kernel
theorem dX10_second_10 : decode cX10_second 10 = .ok (.aload_n 0, 1) := by decide +kernel
theorem dX10_second_11 : decode cX10_second 11 = .ok (.invokevirtual 142, 3) := by decide +kernel
theorem dX10_second_14 : decode cX10_second 14 = .ok (.bipush 8, 2) := by decide +kernel
theorem dX10_second_16 : decode cX10_second 16 = .ok (.if_icmp .le 6, 3) := by decide +kernel
theorem dX10_second_19 : decode cX10_second 19 = .ok (.bipush (-8), 2) := by decide +kernel
theorem dX10_second_21 : decode cX10_second 21 = .ok (.ireturn, 1) := by decide +kernel
theorem dX10_second_22 : decode cX10_second 22 = .ok (.aload_n 0, 1) := by decide +kernel
theorem dX10_second_23 : decode cX10_second 23 = .ok (.invokevirtual 183, 3) := by decide +kernel
theorem dX10_second_26 : decode cX10_second 26 = .ok (.aload_n 0, 1) := by decide +kernel
theorem dX10_second_27 : decode cX10_second 27 = .ok (.iconst 1, 1) := by decide +kernel
theorem dX10_second_28 : decode cX10_second 28 = .ok (.iconst 0, 1) := by decide +kernel
theorem dX10_second_29 : decode cX10_second 29 = .ok (.iconst 0, 1) := by decide +kernel
theorem dX10_second_30 : decode cX10_second 30 = .ok (.invokevirtual 175, 3) := by decide +kernel
theorem dX10_second_33 : decode cX10_second 33 = .ok (.istore_n 1, 1) := by decide +kernel
theorem dX10_second_34 : decode cX10_second 34 = .ok (.iload_n 1, 1) := by decide +kernel
theorem dX10_second_35 : decode cX10_second 35 = .ok (.ldc 102, 2) := by decide +kernel
theorem dX10_second_37 : decode cX10_second 37 = .ok (.if_icmp .ne 8, 3) := by decide +kernel
theorem dX10_second_40 : decode cX10_second 40 = .ok (.bipush (-7), 2) := by decide +kernel
theorem dX10_second_42 : decode cX10_second 42 = .ok (.goto 4, 3) := by decide +kernel
theorem dX10_second_45 : decode cX10_second 45 = .ok (.iload_n 1, 1) := by decide +kernel
theorem dX10_second_46 : decode cX10_second 46 = .ok (.ireturn, 1) := by decide +kernel
set_option maxRecDepth 20000 in
theorem ggX10_with_X10_isLit : GoodIn wsX10_with wsX10_isLit := goodIn_r _ [6, 7, 8, 9, 10, 5, 11, 12, 62, 63, 64, 65, 66, 67, 68, 69, 70, 71, 72, 73, 74, 75, 76, 77, 78, 79, 80, 81, 82, 83, 84, 85, 86, 87, 88, 89, 90, 91, 92, 93, 94, 95, 96, 97] (by decide +kernel) (by decide +kernel)
set_option maxRecDepth 20000 in
theorem gX10_with_X10_isLit : GoodIn wsX10_with (wsV RX10 186 RX10 yX10_isLit wsX10_isLit) := goodIn_app (goodIn_of _ (by decide +kernel)) ggX10_with_X10_isLit
set_option maxRecDepth 20000 in
theorem ggX10_with_X10_lit : GoodIn wsX10_with wsX10_lit := goodIn_r _ [16, 12, 7, 62, 63, 64, 65, 66, 67, 68, 69, 70, 71, 72, 73, 74, 75, 76, 77, 78, 79, 80, 81, 82, 83, 84, 85, 86, 87, 88, 89, 90, 91, 92, 93, 94, 95, 96, 97] (by decide +kernel) (by decide +kernel)
set_option maxRecDepth 20000 in
theorem gX10_with_X10_lit : GoodIn wsX10_with (wsV RX10 142 RX10 yX10_lit wsX10_lit) := goodIn_app (goodIn_of _ (by decide +kernel)) ggX10_with_X10_lit
set_option maxRecDepth 20000 in
theorem ggX10_with_X10_search : GoodIn wsX10_with wsX10_search := goodIn_r _ [20, 12, 7, 21, 1, 22, 23, 24, 25, 5, 26, 27, 28, 29, 30, 31, 32, 33, 34, 35, 36, 37, 38, 39, 40, 41, 42, 43, 44, 45, 46, 47, 48, 49, 50, 51, 52, 53, 54, 55, 56, 57, 58, 59, 60, 61, 62, 63, 64, 65, 66, 67, 68, 69, 70, 71, 72, 73, 74, 75, 76, 77, 78, 79, 80, 81, 82, 83, 84, 85, 86, 87, 88, 89, 90, 91, 92, 93, 94, 95, 96, 97] (by decide +kernel) (by decide +kernel)
set_option maxRecDepth 20000 in
theorem gX10_with_X10_search : GoodIn wsX10_with (wsV RX10 175 RX10 yX10_search wsX10_search) := goodIn_app (goodIn_of _ (by decide +kernel)) ggX10_with_X10_search
theorem dX10_with_0 : decode cX10_with 0 = .ok (.aload_n 0, 1) := by decide +kernel
theorem dX10_with_1 : decode cX10_with 1 = .ok (.iload_n 1, 1) := by decide +kernel
theorem dX10_with_2 : decode cX10_with 2 = .ok (.invokevirtual 186, 3) := by decide +kernel
theorem dX10_with_5 : decode cX10_with 5 = .ok (.ifCond .eq 16, 3) := by decide +kernel
theorem dX10_with_8 : decode cX10_with 8 = .ok (.aload_n 0, 1) := by decide +kernel
theorem dX10_with_9 : decode cX10_with 9 = .ok (.iload_n 2, 1) := by decide +kernel
theorem dX10_with_10 : decode cX10_with 10 = .ok (.invokevirtual 186, 3) := by decide +kernel
theorem dX10_with_13 : decode cX10_with 13 = .ok (.ifCond .eq 8, 3) := by decide +kernel
theorem dX10_with_16 : decode cX10_with 16 = .ok (.iload_n 1, 1) := by decide +kernel
theorem dX10_with_17 : decode cX10_with 17 = .ok (.iload_n 2, 1) := by decide +kernel
theorem dX10_with_18 : decode cX10_with 18 = .ok (.if_icmp .ne 5, 3) := by decide +kernel
theorem dX10_with_21 : decode cX10_with 21 = .ok (.iconst (-1), 1) := by decide +kernel
theorem dX10_with_22 : decode cX10_with 22 = .ok (.ireturn, 1) := by decide +kernel
theorem dX10_with_23 : decode cX10_with 23 = .ok (.aload_n 0, 1) := by decide +kernel
theorem dX10_with_24 : decode cX10_with 24 = .ok (.invokevirtual 142, 3) := by decide +kernel
theorem dX10_with_27 : decode cX10_with 27 = .ok (.bipush 8, 2) := by decide +kernel
theorem dX10_with_29 : decode cX10_with 29 = .ok (.if_icmp .le 6, 3) := by decide +kernel
theorem dX10_with_32 : decode cX10_with 32 = .ok (.bipush (-8), 2) := by decide +kernel
theorem dX10_with_34 : decode cX10_with 34 = .ok (.ireturn, 1) := by decide +kernel
theorem dX10_with_35 : decode cX10_with 35 = .ok (.aload_n 0, 1) := by decide +kernel
theorem dX10_with_36 : decode cX10_with 36 = .ok (.iload_n 3, 1) := by decide +kernel
theorem dX10_with_37 : decode cX10_with 37 = .ok (.ifCond .eq 7, 3) := by decide +kernel
theorem dX10_with_40 : decode cX10_with 40 = .ok (.iconst 2, 1) := by decide +kernel
theorem dX10_with_41 : decode cX10_with 41 = .ok (.goto 4, 3) := by decide +kernel
theorem dX10_with_44 : decode cX10_with 44 = .ok (.iconst 3, 1) := by decide +kernel
theorem dX10_with_45 : decode cX10_with 45 = .ok (.iload_n 1, 1) := by decide +kernel
theorem dX10_with_46 : decode cX10_with 46 = .ok (.iload_n 2, 1) := by decide +kernel
theorem dX10_with_47 : decode cX10_with 47 = .ok (.invokevirtual 175, 3) := by decide +kernel
theorem dX10_with_50 : decode cX10_with 50 = .ok (.istore 4, 2) := by decide +kernel
theorem dX10_with_52 : decode cX10_with 52 = .ok (.iload 4, 2) := by decide +kernel
theorem dX10_with_54 : decode cX10_with 54 = .ok (.ldc 102, 2) := by decide +kernel
theorem dX10_with_56 : decode cX10_with 56 = .ok (.if_icmp .ne 8, 3) := by decide +kernel
theorem dX10_with_59 : decode cX10_with 59 = .ok (.bipush (-7), 2) := by decide +kernel
theorem dX10_with_61 : decode cX10_with 61 = .ok (.goto 5, 3) := by decide +kernel
theorem dX10_with_64 : decode cX10_with 64 = .ok (.iload 4, 2) := by decide +kernel
theorem dX10_with_66 : decode cX10_with 66 = .ok (.ireturn, 1) := by decide +kernel
set_option maxRecDepth 20000 in
theorem ggX10_put_X10_isLamp : GoodIn wsX10_put wsX10_isLamp := goodIn_r _ [8, 9, 13, 14, 15, 16, 17, 18, 19, 20, 21, 22, 23, 24, 25, 26, 27, 28, 29, 30, 31, 32, 33, 34, 35, 36, 37, 38, 39, 40, 41, 42, 43, 44, 45, 46, 47, 48] (by decide +kernel) (by decide +kernel)
set_option maxRecDepth 20000 in
theorem gX10_put_X10_isLamp : GoodIn wsX10_put (wsV RX10 110 RX10 yX10_isLamp wsX10_isLamp) := goodIn_app (goodIn_of _ (by decide +kernel)) ggX10_put_X10_isLamp
set_option maxRecDepth 20000 in
theorem ggX10_put_X10_placeOf : GoodIn wsX10_put wsX10_placeOf := goodIn_r _ [12] (by decide +kernel) (by decide +kernel)
set_option maxRecDepth 20000 in
theorem gX10_put_X10_placeOf : GoodIn wsX10_put (va_wsS RX10 149 yX10_placeOf wsX10_placeOf) := goodIn_app (goodIn_of _ (by decide +kernel)) ggX10_put_X10_placeOf
theorem dX10_put_0 : decode cX10_put 0 = .ok (.aload_n 0, 1) := by decide +kernel
theorem dX10_put_1 : decode cX10_put 1 = .ok (.iload_n 1, 1) := by decide +kernel
theorem dX10_put_2 : decode cX10_put 2 = .ok (.invokevirtual 110, 3) := by decide +kernel
theorem dX10_put_5 : decode cX10_put 5 = .ok (.ifCond .ne 5, 3) := by decide +kernel
theorem dX10_put_8 : decode cX10_put 8 = .ok (.iconst (-1), 1) := by decide +kernel
theorem dX10_put_9 : decode cX10_put 9 = .ok (.ireturn, 1) := by decide +kernel
theorem dX10_put_10 : decode cX10_put 10 = .ok (.aload_n 0, 1) := by decide +kernel
theorem dX10_put_11 : decode cX10_put 11 = .ok (.getfield 45, 3) := by decide +kernel
theorem dX10_put_14 : decode cX10_put 14 = .ok (.iload_n 1, 1) := by decide +kernel
theorem dX10_put_15 : decode cX10_put 15 = .ok (.baload, 1) := by decide +kernel
theorem dX10_put_16 : decode cX10_put 16 = .ok (.ifCond .ne 18, 3) := by decide +kernel
theorem dX10_put_19 : decode cX10_put 19 = .ok (.aload_n 0, 1) := by decide +kernel
theorem dX10_put_20 : decode cX10_put 20 = .ok (.getfield 51, 3) := by decide +kernel
theorem dX10_put_23 : decode cX10_put 23 = .ok (.aload_n 0, 1) := by decide +kernel
theorem dX10_put_24 : decode cX10_put 24 = .ok (.getfield 117, 3) := by decide +kernel
theorem dX10_put_27 : decode cX10_put 27 = .ok (.iload_n 1, 1) := by decide +kernel
theorem dX10_put_28 : decode cX10_put 28 = .ok (.invokestatic 149, 3) := by decide +kernel
theorem dX10_put_31 : decode cX10_put 31 = .ok (.ifCond .lt 6, 3) := by decide +kernel
theorem dX10_put_34 : decode cX10_put 34 = .ok (.bipush (-4), 2) := by decide +kernel
theorem dX10_put_36 : decode cX10_put 36 = .ok (.ireturn, 1) := by decide +kernel
theorem dX10_put_37 : decode cX10_put 37 = .ok (.aload_n 0, 1) := by decide +kernel
theorem dX10_put_38 : decode cX10_put 38 = .ok (.getfield 51, 3) := by decide +kernel
theorem dX10_put_41 : decode cX10_put 41 = .ok (.aload_n 0, 1) := by decide +kernel
theorem dX10_put_42 : decode cX10_put 42 = .ok (.getfield 117, 3) := by decide +kernel
theorem dX10_put_45 : decode cX10_put 45 = .ok (.iload_n 1, 1) := by decide +kernel
theorem dX10_put_46 : decode cX10_put 46 = .ok (.iastore, 1) := by decide +kernel
theorem dX10_put_47 : decode cX10_put 47 = .ok (.aload_n 0, 1) := by decide +kernel
theorem dX10_put_48 : decode cX10_put 48 = .ok (.dup, 1) := by decide +kernel
theorem dX10_put_49 : decode cX10_put 49 = .ok (.getfield 117, 3) := by decide +kernel
theorem dX10_put_52 : decode cX10_put 52 = .ok (.iconst 1, 1) := by decide +kernel
theorem dX10_put_53 : decode cX10_put 53 = .ok (.iadd, 1) := by decide +kernel
theorem dX10_put_54 : decode cX10_put 54 = .ok (.putfield 117, 3) := by decide +kernel
theorem dX10_put_57 : decode cX10_put 57 = .ok (.aload_n 0, 1) := by decide +kernel
theorem dX10_put_58 : decode cX10_put 58 = .ok (.getfield 117, 3) := by decide +kernel
theorem dX10_put_61 : decode cX10_put 61 = .ok (.ireturn, 1) := by decide +kernel
theorem dX10_clear_0 : decode cX10_clear 0 = .ok (.aload_n 0, 1) := by decide +kernel
theorem dX10_clear_1 : decode cX10_clear 1 = .ok (.getfield 117, 3) := by decide +kernel
theorem dX10_clear_4 : decode cX10_clear 4 = .ok (.istore_n 1, 1) := by decide +kernel
theorem dX10_clear_5 : decode cX10_clear 5 = .ok (.aload_n 0, 1) := by decide +kernel
theorem dX10_clear_6 : decode cX10_clear 6 = .ok (.iconst 0, 1) := by decide +kernel
theorem dX10_clear_7 : decode cX10_clear 7 = .ok (.putfield 117, 3) := by decide +kernel
theorem dX10_clear_10 : decode cX10_clear 10 = .ok (.iload_n 1, 1) := by decide +kernel
theorem dX10_clear_11 : decode cX10_clear 11 = .ok (.ireturn, 1) := by decide +kernel
theorem dX10_at_0 : decode cX10_at 0 = .ok (.iload_n 1, 1) := by decide +kernel
theorem dX10_at_1 : decode cX10_at 1 = .ok (.ifCond .lt 11, 3) := by decide +kernel
theorem dX10_at_4 : decode cX10_at 4 = .ok (.iload_n 1, 1) := by decide +kernel
theorem dX10_at_5 : decode cX10_at 5 = .ok (.aload_n 0, 1) := by decide +kernel
theorem dX10_at_6 : decode cX10_at 6 = .ok (.getfield 117, 3) := by decide +kernel
theorem dX10_at_9 : decode cX10_at 9 = .ok (.if_icmp .lt 7, 3) := by decide +kernel
theorem dX10_at_12 : decode cX10_at 12 = .ok (.iconst (-1), 1) := by decide +kernel
theorem dX10_at_13 : decode cX10_at 13 = .ok (.goto 9, 3) := by decide +kernel
theorem dX10_at_16 : decode cX10_at 16 = .ok (.aload_n 0, 1) := by decide +kernel
theorem dX10_at_17 : decode cX10_at 17 = .ok (.getfield 51, 3) := by decide +kernel
theorem dX10_at_20 : decode cX10_at 20 = .ok (.iload_n 1, 1) := by decide +kernel
theorem dX10_at_21 : decode cX10_at 21 = .ok (.iaload, 1) := by decide +kernel
theorem dX10_at_22 : decode cX10_at 22 = .ok (.ireturn, 1) := by decide +kernel
set_option maxRecDepth 20000 in
theorem ggX10_length_X10_isWhole : GoodIn wsX10_length wsX10_isWhole := goodIn_r _ [8, 2, 9, 10, 11, 7, 12, 13, 14, 25, 26, 27, 28, 29, 30, 31, 32, 33, 34, 35, 36, 37, 38, 39, 40, 41, 42, 43, 44, 45, 46, 47, 48, 49, 50, 51, 52, 53, 54, 55, 56, 57, 58, 59, 60] (by decide +kernel) (by decide +kernel)
set_option maxRecDepth 20000 in
theorem gX10_length_X10_isWhole : GoodIn wsX10_length (wsV RX10 179 RX10 yX10_isWhole wsX10_isWhole) := goodIn_app (goodIn_of _ (by decide +kernel)) ggX10_length_X10_isWhole
set_option maxRecDepth 20000 in
theorem ggX10_length_X10_lengthOf : GoodIn wsX10_length wsX10_lengthOf := goodIn_r _ [18, 3, 19, 20, 21, 7, 22, 23, 24, 25, 26, 27, 28, 29, 30, 31, 32, 33, 34, 35, 36, 37, 38, 39, 40, 41, 42, 43, 44, 45, 46, 47, 48, 49, 50, 51, 52, 53, 54, 55, 56, 57, 58, 59, 60] (by decide +kernel) (by decide +kernel)
set_option maxRecDepth 20000 in
theorem gX10_length_X10_lengthOf : GoodIn wsX10_length (wsV RX10 161 RX10 yX10_lengthOf wsX10_lengthOf) := goodIn_app (goodIn_of _ (by decide +kernel)) ggX10_length_X10_lengthOf
theorem dX10_length_0 : decode cX10_length 0 = .ok (.aload_n 0, 1) := by decide +kernel
theorem dX10_length_1 : decode cX10_length 1 = .ok (.invokevirtual 179, 3) := by decide +kernel
theorem dX10_length_4 : decode cX10_length 4 = .ok (.ifCond .ne 6, 3) := by decide +kernel
theorem dX10_length_7 : decode cX10_length 7 = .ok (.bipush (-4), 2) := by decide +kernel
theorem dX10_length_9 : decode cX10_length 9 = .ok (.ireturn, 1) := by decide +kernel
theorem dX10_length_10 : decode cX10_length 10 = .ok (.aload_n 0, 1) := by decide +kernel
theorem dX10_length_11 : decode cX10_length 11 = .ok (.aload_n 0, 1) := by decide +kernel
theorem dX10_length_12 : decode cX10_length 12 = .ok (.getfield 51, 3) := by decide +kernel
theorem dX10_length_15 : decode cX10_length 15 = .ok (.aload_n 0, 1) := by decide +kernel
theorem dX10_length_16 : decode cX10_length 16 = .ok (.getfield 117, 3) := by decide +kernel
theorem dX10_length_19 : decode cX10_length 19 = .ok (.invokevirtual 161, 3) := by decide +kernel
theorem dX10_length_22 : decode cX10_length 22 = .ok (.istore_n 1, 1) := by decide +kernel
theorem dX10_length_23 : decode cX10_length 23 = .ok (.iload_n 1, 1) := by decide +kernel
theorem dX10_length_24 : decode cX10_length 24 = .ok (.ldc 102, 2) := by decide +kernel
theorem dX10_length_26 : decode cX10_length 26 = .ok (.if_icmp .ne 8, 3) := by decide +kernel
theorem dX10_length_29 : decode cX10_length 29 = .ok (.bipush (-10), 2) := by decide +kernel
theorem dX10_length_31 : decode cX10_length 31 = .ok (.goto 4, 3) := by decide +kernel
theorem dX10_length_34 : decode cX10_length 34 = .ok (.iload_n 1, 1) := by decide +kernel
theorem dX10_length_35 : decode cX10_length 35 = .ok (.ireturn, 1) := by decide +kernel
set_option maxRecDepth 20000 in
theorem ggX10_keeps_X10_isWhole : GoodIn wsX10_keeps wsX10_isWhole := goodIn_r _ [7, 2, 8, 9, 10, 6, 11, 12, 13, 37, 38, 39, 40, 41, 42, 43, 44, 45, 46, 47, 48, 49, 50, 51, 52, 53, 54, 55, 56, 57, 58, 59, 60, 61, 62, 63, 64, 65, 66, 67, 68, 69, 70, 71, 72] (by decide +kernel) (by decide +kernel)
set_option maxRecDepth 20000 in
theorem gX10_keeps_X10_isWhole : GoodIn wsX10_keeps (wsV RX10 179 RX10 yX10_isWhole wsX10_isWhole) := goodIn_app (goodIn_of _ (by decide +kernel)) ggX10_keeps_X10_isWhole
set_option maxRecDepth 20000 in
theorem ggX10_keeps_X10_keepsTwins : GoodIn wsX10_keeps wsX10_keepsTwins := goodIn_r _ [17, 13, 18, 19, 20, 6, 21, 22, 23, 12, 24, 25, 26, 27, 28, 29, 30, 31, 32, 33, 34, 35, 36, 37, 38, 39, 40, 41, 42, 43, 44, 45, 46, 47, 48, 49, 50, 51, 52, 53, 54, 55, 56, 57, 58, 59, 60, 61, 62, 63, 64, 65, 66, 67, 68, 69, 70, 71, 72] (by decide +kernel) (by decide +kernel)
set_option maxRecDepth 20000 in
theorem gX10_keeps_X10_keepsTwins : GoodIn wsX10_keeps (wsV RX10 165 RX10 yX10_keepsTwins wsX10_keepsTwins) := goodIn_app (goodIn_of _ (by decide +kernel)) ggX10_keeps_X10_keepsTwins
theorem dX10_keeps_0 : decode cX10_keeps 0 = .ok (.aload_n 0, 1) := by decide +kernel
theorem dX10_keeps_1 : decode cX10_keeps 1 = .ok (.invokevirtual 179, 3) := by decide +kernel
theorem dX10_keeps_4 : decode cX10_keeps 4 = .ok (.ifCond .ne 8, 3) := by decide +kernel
theorem dX10_keeps_7 : decode cX10_keeps 7 = .ok (.bipush (-4), 2) := by decide +kernel
theorem dX10_keeps_9 : decode cX10_keeps 9 = .ok (.goto 23, 3) := by decide +kernel
theorem dX10_keeps_12 : decode cX10_keeps 12 = .ok (.aload_n 0, 1) := by decide +kernel
theorem dX10_keeps_13 : decode cX10_keeps 13 = .ok (.aload_n 0, 1) := by decide +kernel
theorem dX10_keeps_14 : decode cX10_keeps 14 = .ok (.getfield 51, 3) := by decide +kernel
theorem dX10_keeps_17 : decode cX10_keeps 17 = .ok (.aload_n 0, 1) := by decide +kernel
theorem dX10_keeps_18 : decode cX10_keeps 18 = .ok (.getfield 117, 3) := by decide +kernel
theorem dX10_keeps_21 : decode cX10_keeps 21 = .ok (.invokevirtual 165, 3) := by decide +kernel
theorem dX10_keeps_24 : decode cX10_keeps 24 = .ok (.ifCond .eq 7, 3) := by decide +kernel
theorem dX10_keeps_27 : decode cX10_keeps 27 = .ok (.iconst 1, 1) := by decide +kernel
theorem dX10_keeps_28 : decode cX10_keeps 28 = .ok (.goto 4, 3) := by decide +kernel
theorem dX10_keeps_31 : decode cX10_keeps 31 = .ok (.iconst 0, 1) := by decide +kernel
theorem dX10_keeps_32 : decode cX10_keeps 32 = .ok (.ireturn, 1) := by decide +kernel
theorem dX10_turnRound_0 : decode cX10_turnRound 0 = .ok (.iload_n 1, 1) := by decide +kernel
theorem dX10_turnRound_1 : decode cX10_turnRound 1 = .ok (.iconst 1, 1) := by decide +kernel
theorem dX10_turnRound_2 : decode cX10_turnRound 2 = .ok (.iadd, 1) := by decide +kernel
theorem dX10_turnRound_3 : decode cX10_turnRound 3 = .ok (.istore_n 3, 1) := by decide +kernel
theorem dX10_turnRound_4 : decode cX10_turnRound 4 = .ok (.iload_n 2, 1) := by decide +kernel
theorem dX10_turnRound_5 : decode cX10_turnRound 5 = .ok (.istore 4, 2) := by decide +kernel
theorem dX10_turnRound_7 : decode cX10_turnRound 7 = .ok (.iload_n 3, 1) := by decide +kernel
theorem dX10_turnRound_8 : decode cX10_turnRound 8 = .ok (.iload 4, 2) := by decide +kernel
theorem dX10_turnRound_10 : decode cX10_turnRound 10 = .ok (.if_icmp .ge 42, 3) := by decide +kernel
theorem dX10_turnRound_13 : decode cX10_turnRound 13 = .ok (.aload_n 0, 1) := by decide +kernel
theorem dX10_turnRound_14 : decode cX10_turnRound 14 = .ok (.getfield 51, 3) := by decide +kernel
theorem dX10_turnRound_17 : decode cX10_turnRound 17 = .ok (.iload_n 3, 1) := by decide +kernel
theorem dX10_turnRound_18 : decode cX10_turnRound 18 = .ok (.iaload, 1) := by decide +kernel
theorem dX10_turnRound_19 : decode cX10_turnRound 19 = .ok (.istore 5, 2) := by decide +kernel
theorem dX10_turnRound_21 : decode cX10_turnRound 21 = .ok (.aload_n 0, 1) := by decide +kernel
theorem dX10_turnRound_22 : decode cX10_turnRound 22 = .ok (.getfield 51, 3) := by decide +kernel
theorem dX10_turnRound_25 : decode cX10_turnRound 25 = .ok (.iload_n 3, 1) := by decide +kernel
theorem dX10_turnRound_26 : decode cX10_turnRound 26 = .ok (.aload_n 0, 1) := by decide +kernel
theorem dX10_turnRound_27 : decode cX10_turnRound 27 = .ok (.getfield 51, 3) := by decide +kernel
theorem dX10_turnRound_30 : decode cX10_turnRound 30 = .ok (.iload 4, 2) := by decide +kernel
theorem dX10_turnRound_32 : decode cX10_turnRound 32 = .ok (.iaload, 1) := by decide +kernel
theorem dX10_turnRound_33 : decode cX10_turnRound 33 = .ok (.iastore, 1) := by decide +kernel
theorem dX10_turnRound_34 : decode cX10_turnRound 34 = .ok (.aload_n 0, 1) := by decide +kernel
theorem dX10_turnRound_35 : decode cX10_turnRound 35 = .ok (.getfield 51, 3) := by decide +kernel
theorem dX10_turnRound_38 : decode cX10_turnRound 38 = .ok (.iload 4, 2) := by decide +kernel
theorem dX10_turnRound_40 : decode cX10_turnRound 40 = .ok (.iload 5, 2) := by decide +kernel
theorem dX10_turnRound_42 : decode cX10_turnRound 42 = .ok (.iastore, 1) := by decide +kernel
theorem dX10_turnRound_43 : decode cX10_turnRound 43 = .ok (.iinc 3 1, 3) := by decide +kernel
theorem dX10_turnRound_46 : decode cX10_turnRound 46 = .ok (.iinc 4 (-1), 3) := by decide +kernel
theorem dX10_turnRound_49 : decode cX10_turnRound 49 = .ok (.goto (-42), 3) := by decide +kernel
theorem dX10_turnRound_52 : decode cX10_turnRound 52 = .ok (.return_, 1) := by decide +kernel
set_option maxRecDepth 20000 in
theorem ggX10_turn_X10_isWhole : GoodIn wsX10_turn wsX10_isWhole := goodIn_r _ [6, 1, 7, 8, 9, 5, 10, 11, 12, 18, 19, 20, 21, 22, 23, 24, 25, 26, 27, 28, 29, 30, 31, 32, 33, 34, 35, 36, 37, 38, 39, 40, 41, 42, 43, 44, 45, 46, 47, 48, 49, 50, 51, 52, 53] (by decide +kernel) (by decide +kernel)
set_option maxRecDepth 20000 in
theorem gX10_turn_X10_isWhole : GoodIn wsX10_turn (wsV RX10 179 RX10 yX10_isWhole wsX10_isWhole) := goodIn_app (goodIn_of _ (by decide +kernel)) ggX10_turn_X10_isWhole
set_option maxRecDepth 20000 in
theorem ggX10_turn_X10_turnRound : GoodIn wsX10_turn wsX10_turnRound := goodIn_r _ [16, 17, 18, 19, 20, 21, 22, 23, 24, 25, 26, 27, 28, 29, 30, 31, 32, 33, 34, 35, 36, 37, 38, 39, 40, 41, 42, 43, 44, 45, 46, 47, 48, 49, 50, 51, 52, 53] (by decide +kernel) (by decide +kernel)
set_option maxRecDepth 20000 in
theorem gX10_turn_X10_turnRound : GoodIn wsX10_turn (wsV RX10 189 RX10 yX10_turnRound wsX10_turnRound) := goodIn_app (goodIn_of _ (by decide +kernel)) ggX10_turn_X10_turnRound
theorem dX10_turn_0 : decode cX10_turn 0 = .ok (.aload_n 0, 1) := by decide +kernel
theorem dX10_turn_1 : decode cX10_turn 1 = .ok (.invokevirtual 179, 3) := by decide +kernel
theorem dX10_turn_4 : decode cX10_turn 4 = .ok (.ifCond .ne 6, 3) := by decide +kernel
theorem dX10_turn_7 : decode cX10_turn 7 = .ok (.bipush (-4), 2) := by decide +kernel
theorem dX10_turn_9 : decode cX10_turn 9 = .ok (.ireturn, 1) := by decide +kernel
theorem dX10_turn_10 : decode cX10_turn 10 = .ok (.iload_n 1, 1) := by decide +kernel
theorem dX10_turn_11 : decode cX10_turn 11 = .ok (.ifCond .lt 16, 3) := by decide +kernel
theorem dX10_turn_14 : decode cX10_turn 14 = .ok (.iload_n 2, 1) := by decide +kernel
theorem dX10_turn_15 : decode cX10_turn 15 = .ok (.iload_n 1, 1) := by decide +kernel
theorem dX10_turn_16 : decode cX10_turn 16 = .ok (.if_icmp .le 11, 3) := by decide +kernel
theorem dX10_turn_19 : decode cX10_turn 19 = .ok (.iload_n 2, 1) := by decide +kernel
theorem dX10_turn_20 : decode cX10_turn 20 = .ok (.aload_n 0, 1) := by decide +kernel
theorem dX10_turn_21 : decode cX10_turn 21 = .ok (.getfield 117, 3) := by decide +kernel
theorem dX10_turn_24 : decode cX10_turn 24 = .ok (.if_icmp .lt 5, 3) := by decide +kernel
theorem dX10_turn_27 : decode cX10_turn 27 = .ok (.iconst (-1), 1) := by decide +kernel
theorem dX10_turn_28 : decode cX10_turn 28 = .ok (.ireturn, 1) := by decide +kernel
theorem dX10_turn_29 : decode cX10_turn 29 = .ok (.aload_n 0, 1) := by decide +kernel
theorem dX10_turn_30 : decode cX10_turn 30 = .ok (.iload_n 1, 1) := by decide +kernel
theorem dX10_turn_31 : decode cX10_turn 31 = .ok (.iload_n 2, 1) := by decide +kernel
theorem dX10_turn_32 : decode cX10_turn 32 = .ok (.invokevirtual 189, 3) := by decide +kernel
theorem dX10_turn_35 : decode cX10_turn 35 = .ok (.iconst 1, 1) := by decide +kernel
theorem dX10_turn_36 : decode cX10_turn 36 = .ok (.ireturn, 1) := by decide +kernel
set_option maxRecDepth 20000 in
theorem ggX10_betters_X10_lengthOf : GoodIn wsX10_betters wsX10_lengthOf := goodIn_r _ [7, 8, 9, 10, 11, 6, 12, 13, 14, 37, 38, 39, 40, 41, 42, 43, 44, 45, 46, 47, 48, 49, 50, 51, 52, 53, 54, 55, 56, 57, 58, 59, 60, 61, 62, 63, 64, 65, 66, 67, 68, 69, 70, 71, 72] (by decide +kernel) (by decide +kernel)
set_option maxRecDepth 20000 in
theorem gX10_betters_X10_lengthOf : GoodIn wsX10_betters (wsV RX10 161 RX10 yX10_lengthOf wsX10_lengthOf) := goodIn_app (goodIn_of _ (by decide +kernel)) ggX10_betters_X10_lengthOf
set_option maxRecDepth 20000 in
theorem ggX10_betters_X10_keepsTwins : GoodIn wsX10_betters wsX10_keepsTwins := goodIn_r _ [18, 19, 20, 21, 22, 6, 23, 24, 25, 26, 8, 9, 10, 11, 12, 13, 14, 27, 28, 29, 30, 31, 32, 37, 38, 39, 40, 41, 42, 43, 44, 45, 46, 47, 48, 49, 50, 51, 52, 53, 54, 55, 56, 57, 58, 59, 60, 61, 62, 63, 64, 65, 66, 67, 68, 69, 70, 71, 72] (by decide +kernel) (by decide +kernel)
set_option maxRecDepth 20000 in
theorem gX10_betters_X10_keepsTwins : GoodIn wsX10_betters (wsV RX10 165 RX10 yX10_keepsTwins wsX10_keepsTwins) := goodIn_app (goodIn_of _ (by decide +kernel)) ggX10_betters_X10_keepsTwins
set_option maxRecDepth 20000 in
theorem ggX10_betters_X10_turnRound : GoodIn wsX10_betters wsX10_turnRound := goodIn_r _ [36, 1, 37, 38, 39, 40, 41, 42, 43, 44, 45, 46, 47, 48, 49, 50, 51, 52, 53, 54, 55, 56, 57, 58, 59, 60, 61, 62, 63, 64, 65, 66, 67, 68, 69, 70, 71, 72] (by decide +kernel) (by decide +kernel)
set_option maxRecDepth 20000 in
theorem gX10_betters_X10_turnRound : GoodIn wsX10_betters (wsV RX10 189 RX10 yX10_turnRound wsX10_turnRound) := goodIn_app (goodIn_of _ (by decide +kernel)) ggX10_betters_X10_turnRound
theorem dX10_betters_0 : decode cX10_betters 0 = .ok (.aload_n 0, 1) := by decide +kernel
theorem dX10_betters_1 : decode cX10_betters 1 = .ok (.aload_n 0, 1) := by decide +kernel
theorem dX10_betters_2 : decode cX10_betters 2 = .ok (.getfield 51, 3) := by decide +kernel
theorem dX10_betters_5 : decode cX10_betters 5 = .ok (.aload_n 0, 1) := by decide +kernel
theorem dX10_betters_6 : decode cX10_betters 6 = .ok (.getfield 117, 3) := by decide +kernel
theorem dX10_betters_9 : decode cX10_betters 9 = .ok (.invokevirtual 161, 3) := by decide +kernel
theorem dX10_betters_12 : decode cX10_betters 12 = .ok (.istore_n 1, 1) := by decide +kernel
theorem dX10_betters_13 : decode cX10_betters 13 = .ok (.aload_n 0, 1) := by decide +kernel
theorem dX10_betters_14 : decode cX10_betters 14 = .ok (.aload_n 0, 1) := by decide +kernel
theorem dX10_betters_15 : decode cX10_betters 15 = .ok (.getfield 51, 3) := by decide +kernel
theorem dX10_betters_18 : decode cX10_betters 18 = .ok (.aload_n 0, 1) := by decide +kernel
theorem dX10_betters_19 : decode cX10_betters 19 = .ok (.getfield 117, 3) := by decide +kernel
theorem dX10_betters_22 : decode cX10_betters 22 = .ok (.invokevirtual 165, 3) := by decide +kernel
theorem dX10_betters_25 : decode cX10_betters 25 = .ok (.istore_n 2, 1) := by decide +kernel
theorem dX10_betters_26 : decode cX10_betters 26 = .ok (.iconst 0, 1) := by decide +kernel
theorem dX10_betters_27 : decode cX10_betters 27 = .ok (.istore_n 3, 1) := by decide +kernel
theorem dX10_betters_28 : decode cX10_betters 28 = .ok (.iload_n 3, 1) := by decide +kernel
theorem dX10_betters_29 : decode cX10_betters 29 = .ok (.aload_n 0, 1) := by decide +kernel
theorem dX10_betters_30 : decode cX10_betters 30 = .ok (.getfield 117, 3) := by decide +kernel
theorem dX10_betters_33 : decode cX10_betters 33 = .ok (.if_icmp .ge 80, 3) := by decide +kernel
theorem dX10_betters_36 : decode cX10_betters 36 = .ok (.iload_n 3, 1) := by decide +kernel
theorem dX10_betters_37 : decode cX10_betters 37 = .ok (.iconst 1, 1) := by decide +kernel
theorem dX10_betters_38 : decode cX10_betters 38 = .ok (.iadd, 1) := by decide +kernel
theorem dX10_betters_39 : decode cX10_betters 39 = .ok (.istore 4, 2) := by decide +kernel
theorem dX10_betters_41 : decode cX10_betters 41 = .ok (.iload 4, 2) := by decide +kernel
theorem dX10_betters_43 : decode cX10_betters 43 = .ok (.aload_n 0, 1) := by decide +kernel
theorem dX10_betters_44 : decode cX10_betters 44 = .ok (.getfield 117, 3) := by decide +kernel
theorem dX10_betters_47 : decode cX10_betters 47 = .ok (.if_icmp .ge 60, 3) := by decide +kernel
theorem dX10_betters_50 : decode cX10_betters 50 = .ok (.aload_n 0, 1) := by decide +kernel
theorem dX10_betters_51 : decode cX10_betters 51 = .ok (.iload_n 3, 1) := by decide +kernel
theorem dX10_betters_52 : decode cX10_betters 52 = .ok (.iload 4, 2) := by decide +kernel
theorem dX10_betters_54 : decode cX10_betters 54 = .ok (.invokevirtual 189, 3) := by decide +kernel
theorem dX10_betters_57 : decode cX10_betters 57 = .ok (.aload_n 0, 1) := by decide +kernel
theorem dX10_betters_58 : decode cX10_betters 58 = .ok (.aload_n 0, 1) := by decide +kernel
theorem dX10_betters_59 : decode cX10_betters 59 = .ok (.getfield 51, 3) := by decide +kernel
theorem dX10_betters_62 : decode cX10_betters 62 = .ok (.aload_n 0, 1) := by decide +kernel
theorem dX10_betters_63 : decode cX10_betters 63 = .ok (.getfield 117, 3) := by decide +kernel
theorem dX10_betters_66 : decode cX10_betters 66 = .ok (.invokevirtual 161, 3) := by decide +kernel
theorem dX10_betters_69 : decode cX10_betters 69 = .ok (.iload_n 1, 1) := by decide +kernel
theorem dX10_betters_70 : decode cX10_betters 70 = .ok (.if_icmp .ge 24, 3) := by decide +kernel
theorem dX10_betters_73 : decode cX10_betters 73 = .ok (.iload_n 2, 1) := by decide +kernel
theorem dX10_betters_74 : decode cX10_betters 74 = .ok (.ifCond .eq 18, 3) := by decide +kernel
theorem dX10_betters_77 : decode cX10_betters 77 = .ok (.aload_n 0, 1) := by decide +kernel
theorem dX10_betters_78 : decode cX10_betters 78 = .ok (.aload_n 0, 1) := by decide +kernel
theorem dX10_betters_79 : decode cX10_betters 79 = .ok (.getfield 51, 3) := by decide +kernel
theorem dX10_betters_82 : decode cX10_betters 82 = .ok (.aload_n 0, 1) := by decide +kernel
theorem dX10_betters_83 : decode cX10_betters 83 = .ok (.getfield 117, 3) := by decide +kernel
theorem dX10_betters_86 : decode cX10_betters 86 = .ok (.invokevirtual 165, 3) := by decide +kernel
theorem dX10_betters_89 : decode cX10_betters 89 = .ok (.ifCond .eq 5, 3) := by decide +kernel
theorem dX10_betters_92 : decode cX10_betters 92 = .ok (.iconst 1, 1) := by decide +kernel
theorem dX10_betters_93 : decode cX10_betters 93 = .ok (.ireturn, 1) := by decide +kernel
theorem dX10_betters_94 : decode cX10_betters 94 = .ok (.aload_n 0, 1) := by decide +kernel
theorem dX10_betters_95 : decode cX10_betters 95 = .ok (.iload_n 3, 1) := by decide +kernel
theorem dX10_betters_96 : decode cX10_betters 96 = .ok (.iload 4, 2) := by decide +kernel
theorem dX10_betters_98 : decode cX10_betters 98 = .ok (.invokevirtual 189, 3) := by decide +kernel
theorem dX10_betters_101 : decode cX10_betters 101 = .ok (.iinc 4 1, 3) := by decide +kernel
theorem dX10_betters_104 : decode cX10_betters 104 = .ok (.goto (-63), 3) := by decide +kernel
theorem dX10_betters_107 : decode cX10_betters 107 = .ok (.iinc 3 1, 3) := by decide +kernel
theorem dX10_betters_110 : decode cX10_betters 110 = .ok (.goto (-82), 3) := by decide +kernel
theorem dX10_betters_113 : decode cX10_betters 113 = .ok (.iconst 0, 1) := by decide +kernel
theorem dX10_betters_114 : decode cX10_betters 114 = .ok (.ireturn, 1) := by decide +kernel
set_option maxRecDepth 20000 in
theorem ggX10_better_X10_length : GoodIn wsX10_better wsX10_length := goodIn_r _ [5, 6, 7, 8, 9, 10, 11, 4, 12, 13, 14, 15, 16, 17, 18, 19, 20, 21, 22, 23, 24, 25, 26, 27, 28, 53, 54, 55, 56, 57, 58, 59, 60, 61, 62, 63, 64, 65, 66, 67, 68, 69, 70, 71, 72, 73, 74, 75, 76, 77, 78, 79, 80, 81, 82, 83, 84, 85, 86, 87, 88] (by decide +kernel) (by decide +kernel)
set_option maxRecDepth 20000 in
theorem gX10_better_X10_length : GoodIn wsX10_better (wsV RX10 192 RX10 yX10_length wsX10_length) := goodIn_app (goodIn_of _ (by decide +kernel)) ggX10_better_X10_length
set_option maxRecDepth 20000 in
theorem ggX10_better_X10_betters : GoodIn wsX10_better wsX10_betters := goodIn_r _ [32, 6, 7, 19, 20, 21, 4, 22, 8, 23, 24, 25, 26, 27, 28, 33, 34, 35, 36, 18, 37, 38, 39, 40, 41, 42, 17, 43, 44, 45, 46, 47, 48, 49, 50, 51, 52, 53, 54, 55, 56, 57, 58, 59, 60, 61, 62, 63, 64, 65, 66, 67, 68, 69, 70, 71, 72, 73, 74, 75, 76, 77, 78, 79, 80, 81, 82, 83, 84, 85, 86, 87, 88] (by decide +kernel) (by decide +kernel)
set_option maxRecDepth 20000 in
theorem gX10_better_X10_betters : GoodIn wsX10_better (wsV RX10 194 RX10 yX10_betters wsX10_betters) := goodIn_app (goodIn_of _ (by decide +kernel)) ggX10_better_X10_betters
theorem dX10_better_0 : decode cX10_better 0 = .ok (.aload_n 0, 1) := by decide +kernel
theorem dX10_better_1 : decode cX10_better 1 = .ok (.invokevirtual 192, 3) := by decide +kernel
theorem dX10_better_4 : decode cX10_better 4 = .ok (.istore_n 1, 1) := by decide +kernel
theorem dX10_better_5 : decode cX10_better 5 = .ok (.iload_n 1, 1) := by decide +kernel
theorem dX10_better_6 : decode cX10_better 6 = .ok (.ifCond .ge 5, 3) := by decide +kernel
theorem dX10_better_9 : decode cX10_better 9 = .ok (.iload_n 1, 1) := by decide +kernel
theorem dX10_better_10 : decode cX10_better 10 = .ok (.ireturn, 1) := by decide +kernel
theorem dX10_better_11 : decode cX10_better 11 = .ok (.iconst 0, 1) := by decide +kernel
theorem dX10_better_12 : decode cX10_better 12 = .ok (.istore_n 2, 1) := by decide +kernel
theorem dX10_better_13 : decode cX10_better 13 = .ok (.iload_n 2, 1) := by decide +kernel
theorem dX10_better_14 : decode cX10_better 14 = .ok (.bipush 100, 2) := by decide +kernel
theorem dX10_better_16 : decode cX10_better 16 = .ok (.if_icmp .ge 16, 3) := by decide +kernel
theorem dX10_better_19 : decode cX10_better 19 = .ok (.aload_n 0, 1) := by decide +kernel
theorem dX10_better_20 : decode cX10_better 20 = .ok (.invokevirtual 194, 3) := by decide +kernel
theorem dX10_better_23 : decode cX10_better 23 = .ok (.ifCond .eq 9, 3) := by decide +kernel
theorem dX10_better_26 : decode cX10_better 26 = .ok (.iinc 2 1, 3) := by decide +kernel
theorem dX10_better_29 : decode cX10_better 29 = .ok (.goto (-16), 3) := by decide +kernel
theorem dX10_better_32 : decode cX10_better 32 = .ok (.iload_n 2, 1) := by decide +kernel
theorem dX10_better_33 : decode cX10_better 33 = .ok (.ireturn, 1) := by decide +kernel
theorem dX10_pairOf_0 : decode cX10_pairOf 0 = .ok (.iload_n 0, 1) := by decide +kernel
theorem dX10_pairOf_1 : decode cX10_pairOf 1 = .ok (.iload_n 1, 1) := by decide +kernel
theorem dX10_pairOf_2 : decode cX10_pairOf 2 = .ok (.if_icmp .ge 12, 3) := by decide +kernel
theorem dX10_pairOf_5 : decode cX10_pairOf 5 = .ok (.bipush 12, 2) := by decide +kernel
theorem dX10_pairOf_7 : decode cX10_pairOf 7 = .ok (.iload_n 0, 1) := by decide +kernel
theorem dX10_pairOf_8 : decode cX10_pairOf 8 = .ok (.imul, 1) := by decide +kernel
theorem dX10_pairOf_9 : decode cX10_pairOf 9 = .ok (.iload_n 1, 1) := by decide +kernel
theorem dX10_pairOf_10 : decode cX10_pairOf 10 = .ok (.iadd, 1) := by decide +kernel
theorem dX10_pairOf_11 : decode cX10_pairOf 11 = .ok (.goto 9, 3) := by decide +kernel
theorem dX10_pairOf_14 : decode cX10_pairOf 14 = .ok (.bipush 12, 2) := by decide +kernel
theorem dX10_pairOf_16 : decode cX10_pairOf 16 = .ok (.iload_n 1, 1) := by decide +kernel
theorem dX10_pairOf_17 : decode cX10_pairOf 17 = .ok (.imul, 1) := by decide +kernel
theorem dX10_pairOf_18 : decode cX10_pairOf 18 = .ok (.iload_n 0, 1) := by decide +kernel
theorem dX10_pairOf_19 : decode cX10_pairOf 19 = .ok (.iadd, 1) := by decide +kernel
theorem dX10_pairOf_20 : decode cX10_pairOf 20 = .ok (.ireturn, 1) := by decide +kernel
theorem dX10_freeAll_0 : decode cX10_freeAll 0 = .ok (.iconst 0, 1) := by decide +kernel
theorem dX10_freeAll_1 : decode cX10_freeAll 1 = .ok (.istore_n 1, 1) := by decide +kernel
theorem dX10_freeAll_2 : decode cX10_freeAll 2 = .ok (.iload_n 1, 1) := by decide +kernel
theorem dX10_freeAll_3 : decode cX10_freeAll 3 = .ok (.sipush 144, 3) := by decide +kernel
theorem dX10_freeAll_6 : decode cX10_freeAll 6 = .ok (.if_icmp .ge 16, 3) := by decide +kernel
theorem dX10_freeAll_9 : decode cX10_freeAll 9 = .ok (.aload_n 0, 1) := by decide +kernel
theorem dX10_freeAll_10 : decode cX10_freeAll 10 = .ok (.getfield 72, 3) := by decide +kernel
theorem dX10_freeAll_13 : decode cX10_freeAll 13 = .ok (.iload_n 1, 1) := by decide +kernel
theorem dX10_freeAll_14 : decode cX10_freeAll 14 = .ok (.iconst 0, 1) := by decide +kernel
theorem dX10_freeAll_15 : decode cX10_freeAll 15 = .ok (.iastore, 1) := by decide +kernel
theorem dX10_freeAll_16 : decode cX10_freeAll 16 = .ok (.iinc 1 1, 3) := by decide +kernel
theorem dX10_freeAll_19 : decode cX10_freeAll 19 = .ok (.goto (-17), 3) := by decide +kernel
theorem dX10_freeAll_22 : decode cX10_freeAll 22 = .ok (.return_, 1) := by decide +kernel
set_option maxRecDepth 20000 in
theorem ggX10_priced_X10_between : GoodIn wsX10_priced wsX10_between := goodIn_r _ [6, 7, 8, 9, 10, 11, 12, 13, 14, 15, 16, 17, 18, 19, 20, 21, 22, 23, 24, 25, 26, 27, 28, 29, 30, 31, 32, 33, 34, 35, 36, 37, 38, 39, 40, 41, 42, 43, 44] (by decide +kernel) (by decide +kernel)
set_option maxRecDepth 20000 in
theorem gX10_priced_X10_between : GoodIn wsX10_priced (wsV RX10 134 RX10 yX10_between wsX10_between) := goodIn_app (goodIn_of _ (by decide +kernel)) ggX10_priced_X10_between
theorem dX10_priced_0 : decode cX10_priced 0 = .ok (.iload_n 1, 1) := by decide +kernel
theorem dX10_priced_1 : decode cX10_priced 1 = .ok (.bipush 12, 2) := by decide +kernel
theorem dX10_priced_3 : decode cX10_priced 3 = .ok (.idiv, 1) := by decide +kernel
theorem dX10_priced_4 : decode cX10_priced 4 = .ok (.istore_n 2, 1) := by decide +kernel
theorem dX10_priced_5 : decode cX10_priced 5 = .ok (.iload_n 1, 1) := by decide +kernel
theorem dX10_priced_6 : decode cX10_priced 6 = .ok (.bipush 12, 2) := by decide +kernel
theorem dX10_priced_8 : decode cX10_priced 8 = .ok (.irem, 1) := by decide +kernel
theorem dX10_priced_9 : decode cX10_priced 9 = .ok (.istore_n 3, 1) := by decide +kernel
theorem dX10_priced_10 : decode cX10_priced 10 = .ok (.aload_n 0, 1) := by decide +kernel
theorem dX10_priced_11 : decode cX10_priced 11 = .ok (.iload_n 2, 1) := by decide +kernel
theorem dX10_priced_12 : decode cX10_priced 12 = .ok (.iload_n 3, 1) := by decide +kernel
theorem dX10_priced_13 : decode cX10_priced 13 = .ok (.invokevirtual 134, 3) := by decide +kernel
theorem dX10_priced_16 : decode cX10_priced 16 = .ok (.i2l, 1) := by decide +kernel
theorem dX10_priced_17 : decode cX10_priced 17 = .ok (.aload_n 0, 1) := by decide +kernel
theorem dX10_priced_18 : decode cX10_priced 18 = .ok (.getfield 48, 3) := by decide +kernel
theorem dX10_priced_21 : decode cX10_priced 21 = .ok (.iload_n 2, 1) := by decide +kernel
theorem dX10_priced_22 : decode cX10_priced 22 = .ok (.iaload, 1) := by decide +kernel
theorem dX10_priced_23 : decode cX10_priced 23 = .ok (.i2l, 1) := by decide +kernel
theorem dX10_priced_24 : decode cX10_priced 24 = .ok (.ladd, 1) := by decide +kernel
theorem dX10_priced_25 : decode cX10_priced 25 = .ok (.aload_n 0, 1) := by decide +kernel
theorem dX10_priced_26 : decode cX10_priced 26 = .ok (.getfield 48, 3) := by decide +kernel
theorem dX10_priced_29 : decode cX10_priced 29 = .ok (.iload_n 3, 1) := by decide +kernel
theorem dX10_priced_30 : decode cX10_priced 30 = .ok (.iaload, 1) := by decide +kernel
theorem dX10_priced_31 : decode cX10_priced 31 = .ok (.i2l, 1) := by decide +kernel
theorem dX10_priced_32 : decode cX10_priced 32 = .ok (.ladd, 1) := by decide +kernel
theorem dX10_priced_33 : decode cX10_priced 33 = .ok (.lreturn, 1) := by decide +kernel
set_option maxRecDepth 20000 in
theorem ggX10_isPair_X10_isLit : GoodIn wsX10_isPair wsX10_isLit := goodIn_r _ [5, 6, 7, 8, 9, 4, 10, 11, 12, 13, 14, 15, 16, 17, 18, 19, 20, 21, 22, 23, 24, 25, 26, 27, 28, 29, 30, 31, 32, 33, 34, 35, 36, 37, 38, 39, 40, 41, 42, 43, 44, 45, 46, 47] (by decide +kernel) (by decide +kernel)
set_option maxRecDepth 20000 in
theorem gX10_isPair_X10_isLit : GoodIn wsX10_isPair (wsV RX10 186 RX10 yX10_isLit wsX10_isLit) := goodIn_app (goodIn_of _ (by decide +kernel)) ggX10_isPair_X10_isLit
theorem dX10_isPair_0 : decode cX10_isPair 0 = .ok (.iload_n 1, 1) := by decide +kernel
theorem dX10_isPair_1 : decode cX10_isPair 1 = .ok (.bipush 12, 2) := by decide +kernel
theorem dX10_isPair_3 : decode cX10_isPair 3 = .ok (.idiv, 1) := by decide +kernel
theorem dX10_isPair_4 : decode cX10_isPair 4 = .ok (.iload_n 1, 1) := by decide +kernel
theorem dX10_isPair_5 : decode cX10_isPair 5 = .ok (.bipush 12, 2) := by decide +kernel
theorem dX10_isPair_7 : decode cX10_isPair 7 = .ok (.irem, 1) := by decide +kernel
theorem dX10_isPair_8 : decode cX10_isPair 8 = .ok (.if_icmp .ge 29, 3) := by decide +kernel
theorem dX10_isPair_11 : decode cX10_isPair 11 = .ok (.aload_n 0, 1) := by decide +kernel
theorem dX10_isPair_12 : decode cX10_isPair 12 = .ok (.iload_n 1, 1) := by decide +kernel
theorem dX10_isPair_13 : decode cX10_isPair 13 = .ok (.bipush 12, 2) := by decide +kernel
theorem dX10_isPair_15 : decode cX10_isPair 15 = .ok (.idiv, 1) := by decide +kernel
theorem dX10_isPair_16 : decode cX10_isPair 16 = .ok (.invokevirtual 186, 3) := by decide +kernel
theorem dX10_isPair_19 : decode cX10_isPair 19 = .ok (.ifCond .eq 18, 3) := by decide +kernel
theorem dX10_isPair_22 : decode cX10_isPair 22 = .ok (.aload_n 0, 1) := by decide +kernel
theorem dX10_isPair_23 : decode cX10_isPair 23 = .ok (.iload_n 1, 1) := by decide +kernel
theorem dX10_isPair_24 : decode cX10_isPair 24 = .ok (.bipush 12, 2) := by decide +kernel
theorem dX10_isPair_26 : decode cX10_isPair 26 = .ok (.irem, 1) := by decide +kernel
theorem dX10_isPair_27 : decode cX10_isPair 27 = .ok (.invokevirtual 186, 3) := by decide +kernel
theorem dX10_isPair_30 : decode cX10_isPair 30 = .ok (.ifCond .eq 7, 3) := by decide +kernel
theorem dX10_isPair_33 : decode cX10_isPair 33 = .ok (.iconst 1, 1) := by decide +kernel
theorem dX10_isPair_34 : decode cX10_isPair 34 = .ok (.goto 4, 3) := by decide +kernel
theorem dX10_isPair_37 : decode cX10_isPair 37 = .ok (.iconst 0, 1) := by decide +kernel
theorem dX10_isPair_38 : decode cX10_isPair 38 = .ok (.ireturn, 1) := by decide +kernel
set_option maxRecDepth 20000 in
theorem ggX10_hasWay_X10_between : GoodIn wsX10_hasWay wsX10_between := goodIn_r _ [6, 7, 8, 9, 10, 11, 12, 13, 14, 15, 16, 17, 18, 19, 20, 21, 22, 23, 24, 25, 26, 27, 28, 29, 30, 31, 32, 33, 34, 35, 36, 37, 38, 39, 40, 41, 42, 43, 44] (by decide +kernel) (by decide +kernel)
set_option maxRecDepth 20000 in
theorem gX10_hasWay_X10_between : GoodIn wsX10_hasWay (wsV RX10 134 RX10 yX10_between wsX10_between) := goodIn_app (goodIn_of _ (by decide +kernel)) ggX10_hasWay_X10_between
theorem dX10_hasWay_0 : decode cX10_hasWay 0 = .ok (.aload_n 0, 1) := by decide +kernel
theorem dX10_hasWay_1 : decode cX10_hasWay 1 = .ok (.iload_n 1, 1) := by decide +kernel
theorem dX10_hasWay_2 : decode cX10_hasWay 2 = .ok (.bipush 12, 2) := by decide +kernel
theorem dX10_hasWay_4 : decode cX10_hasWay 4 = .ok (.idiv, 1) := by decide +kernel
theorem dX10_hasWay_5 : decode cX10_hasWay 5 = .ok (.iload_n 1, 1) := by decide +kernel
theorem dX10_hasWay_6 : decode cX10_hasWay 6 = .ok (.bipush 12, 2) := by decide +kernel
theorem dX10_hasWay_8 : decode cX10_hasWay 8 = .ok (.irem, 1) := by decide +kernel
theorem dX10_hasWay_9 : decode cX10_hasWay 9 = .ok (.invokevirtual 134, 3) := by decide +kernel
theorem dX10_hasWay_12 : decode cX10_hasWay 12 = .ok (.ldc 102, 2) := by decide +kernel
theorem dX10_hasWay_14 : decode cX10_hasWay 14 = .ok (.if_icmp .eq 7, 3) := by decide +kernel
theorem dX10_hasWay_17 : decode cX10_hasWay 17 = .ok (.iconst 1, 1) := by decide +kernel
theorem dX10_hasWay_18 : decode cX10_hasWay 18 = .ok (.goto 4, 3) := by decide +kernel
theorem dX10_hasWay_21 : decode cX10_hasWay 21 = .ok (.iconst 0, 1) := by decide +kernel
theorem dX10_hasWay_22 : decode cX10_hasWay 22 = .ok (.ireturn, 1) := by decide +kernel
set_option maxRecDepth 20000 in
theorem ggX10_isAhead_X10_priced : GoodIn wsX10_isAhead wsX10_priced := goodIn_r _ [6, 7, 8, 9, 10, 5, 11, 12, 13, 14, 15, 16, 17, 18, 19, 20, 21, 22, 23, 24, 25, 26, 27, 28, 29, 30, 31, 32, 33, 34, 35, 36, 37, 38, 39, 40, 41, 42, 43, 44, 45, 46, 47, 48, 49] (by decide +kernel) (by decide +kernel)
set_option maxRecDepth 20000 in
theorem gX10_isAhead_X10_priced : GoodIn wsX10_isAhead (wsV RX10 197 RX10 yX10_priced wsX10_priced) := goodIn_app (goodIn_of _ (by decide +kernel)) ggX10_isAhead_X10_priced
theorem dX10_isAhead_0 : decode cX10_isAhead 0 = .ok (.aload_n 0, 1) := by decide +kernel
theorem dX10_isAhead_1 : decode cX10_isAhead 1 = .ok (.getfield 72, 3) := by decide +kernel
theorem dX10_isAhead_4 : decode cX10_isAhead 4 = .ok (.iload_n 1, 1) := by decide +kernel
theorem dX10_isAhead_5 : decode cX10_isAhead 5 = .ok (.iaload, 1) := by decide +kernel
theorem dX10_isAhead_6 : decode cX10_isAhead 6 = .ok (.aload_n 0, 1) := by decide +kernel
theorem dX10_isAhead_7 : decode cX10_isAhead 7 = .ok (.getfield 72, 3) := by decide +kernel
theorem dX10_isAhead_10 : decode cX10_isAhead 10 = .ok (.iload_n 2, 1) := by decide +kernel
theorem dX10_isAhead_11 : decode cX10_isAhead 11 = .ok (.iaload, 1) := by decide +kernel
theorem dX10_isAhead_12 : decode cX10_isAhead 12 = .ok (.if_icmp .eq 39, 3) := by decide +kernel
theorem dX10_isAhead_15 : decode cX10_isAhead 15 = .ok (.aload_n 0, 1) := by decide +kernel
theorem dX10_isAhead_16 : decode cX10_isAhead 16 = .ok (.getfield 72, 3) := by decide +kernel
theorem dX10_isAhead_19 : decode cX10_isAhead 19 = .ok (.iload_n 1, 1) := by decide +kernel
theorem dX10_isAhead_20 : decode cX10_isAhead 20 = .ok (.iaload, 1) := by decide +kernel
theorem dX10_isAhead_21 : decode cX10_isAhead 21 = .ok (.iconst 1, 1) := by decide +kernel
theorem dX10_isAhead_22 : decode cX10_isAhead 22 = .ok (.if_icmp .eq 13, 3) := by decide +kernel
theorem dX10_isAhead_25 : decode cX10_isAhead 25 = .ok (.aload_n 0, 1) := by decide +kernel
theorem dX10_isAhead_26 : decode cX10_isAhead 26 = .ok (.getfield 72, 3) := by decide +kernel
theorem dX10_isAhead_29 : decode cX10_isAhead 29 = .ok (.iload_n 2, 1) := by decide +kernel
theorem dX10_isAhead_30 : decode cX10_isAhead 30 = .ok (.iaload, 1) := by decide +kernel
theorem dX10_isAhead_31 : decode cX10_isAhead 31 = .ok (.iconst 1, 1) := by decide +kernel
theorem dX10_isAhead_32 : decode cX10_isAhead 32 = .ok (.if_icmp .ne 19, 3) := by decide +kernel
theorem dX10_isAhead_35 : decode cX10_isAhead 35 = .ok (.aload_n 0, 1) := by decide +kernel
theorem dX10_isAhead_36 : decode cX10_isAhead 36 = .ok (.getfield 72, 3) := by decide +kernel
theorem dX10_isAhead_39 : decode cX10_isAhead 39 = .ok (.iload_n 1, 1) := by decide +kernel
theorem dX10_isAhead_40 : decode cX10_isAhead 40 = .ok (.iaload, 1) := by decide +kernel
theorem dX10_isAhead_41 : decode cX10_isAhead 41 = .ok (.iconst 1, 1) := by decide +kernel
theorem dX10_isAhead_42 : decode cX10_isAhead 42 = .ok (.if_icmp .ne 7, 3) := by decide +kernel
theorem dX10_isAhead_45 : decode cX10_isAhead 45 = .ok (.iconst 1, 1) := by decide +kernel
theorem dX10_isAhead_46 : decode cX10_isAhead 46 = .ok (.goto 4, 3) := by decide +kernel
theorem dX10_isAhead_49 : decode cX10_isAhead 49 = .ok (.iconst 0, 1) := by decide +kernel
theorem dX10_isAhead_50 : decode cX10_isAhead 50 = .ok (.ireturn, 1) := by decide +kernel
theorem dX10_isAhead_51 : decode cX10_isAhead 51 = .ok (.aload_n 0, 1) := by decide +kernel
theorem dX10_isAhead_52 : decode cX10_isAhead 52 = .ok (.iload_n 1, 1) := by decide +kernel
theorem dX10_isAhead_53 : decode cX10_isAhead 53 = .ok (.invokevirtual 197, 3) := by decide +kernel
theorem dX10_isAhead_56 : decode cX10_isAhead 56 = .ok (.aload_n 0, 1) := by decide +kernel
theorem dX10_isAhead_57 : decode cX10_isAhead 57 = .ok (.iload_n 2, 1) := by decide +kernel
theorem dX10_isAhead_58 : decode cX10_isAhead 58 = .ok (.invokevirtual 197, 3) := by decide +kernel
theorem dX10_isAhead_61 : decode cX10_isAhead 61 = .ok (.lcmp, 1) := by decide +kernel
theorem dX10_isAhead_62 : decode cX10_isAhead 62 = .ok (.ifCond .eq 25, 3) := by decide +kernel
theorem dX10_isAhead_65 : decode cX10_isAhead 65 = .ok (.aload_n 0, 1) := by decide +kernel
theorem dX10_isAhead_66 : decode cX10_isAhead 66 = .ok (.iload_n 1, 1) := by decide +kernel
theorem dX10_isAhead_67 : decode cX10_isAhead 67 = .ok (.invokevirtual 197, 3) := by decide +kernel
theorem dX10_isAhead_70 : decode cX10_isAhead 70 = .ok (.aload_n 0, 1) := by decide +kernel
theorem dX10_isAhead_71 : decode cX10_isAhead 71 = .ok (.iload_n 2, 1) := by decide +kernel
theorem dX10_isAhead_72 : decode cX10_isAhead 72 = .ok (.invokevirtual 197, 3) := by decide +kernel
theorem dX10_isAhead_75 : decode cX10_isAhead 75 = .ok (.lcmp, 1) := by decide +kernel
theorem dX10_isAhead_76 : decode cX10_isAhead 76 = .ok (.ifCond .ge 7, 3) := by decide +kernel
theorem dX10_isAhead_79 : decode cX10_isAhead 79 = .ok (.iconst 1, 1) := by decide +kernel
theorem dX10_isAhead_80 : decode cX10_isAhead 80 = .ok (.goto 17, 3) := by decide +kernel
theorem dX10_isAhead_83 : decode cX10_isAhead 83 = .ok (.iconst 0, 1) := by decide +kernel
theorem dX10_isAhead_84 : decode cX10_isAhead 84 = .ok (.goto 13, 3) := by decide +kernel
theorem dX10_isAhead_87 : decode cX10_isAhead 87 = .ok (.iload_n 1, 1) := by decide +kernel
theorem dX10_isAhead_88 : decode cX10_isAhead 88 = .ok (.iload_n 2, 1) := by decide +kernel
theorem dX10_isAhead_89 : decode cX10_isAhead 89 = .ok (.if_icmp .ge 7, 3) := by decide +kernel
theorem dX10_isAhead_92 : decode cX10_isAhead 92 = .ok (.iconst 1, 1) := by decide +kernel
theorem dX10_isAhead_93 : decode cX10_isAhead 93 = .ok (.goto 4, 3) := by decide +kernel
theorem dX10_isAhead_96 : decode cX10_isAhead 96 = .ok (.iconst 0, 1) := by decide +kernel
theorem dX10_isAhead_97 : decode cX10_isAhead 97 = .ok (.ireturn, 1) := by decide +kernel
theorem dX10_first_0 : decode cX10_first 0 = .ok (.iconst 0, 1) := by decide +kernel
theorem dX10_first_1 : decode cX10_first 1 = .ok (.istore_n 1, 1) := by decide +kernel
theorem dX10_first_2 : decode cX10_first 2 = .ok (.aload_n 0, 1) := by decide +kernel
theorem dX10_first_3 : decode cX10_first 3 = .ok (.getfield 45, 3) := by decide +kernel
theorem dX10_first_6 : decode cX10_first 6 = .ok (.iload_n 1, 1) := by decide +kernel
theorem dX10_first_7 : decode cX10_first 7 = .ok (.baload, 1) := by decide +kernel
theorem dX10_first_8 : decode cX10_first 8 = .ok (.ifCond .eq 9, 3) := by decide +kernel
theorem dX10_first_11 : decode cX10_first 11 = .ok (.iinc 1 1, 3) := by decide +kernel
theorem dX10_first_14 : decode cX10_first 14 = .ok (.goto (-12), 3) := by decide +kernel
theorem dX10_first_17 : decode cX10_first 17 = .ok (.iload_n 1, 1) := by decide +kernel
theorem dX10_first_18 : decode cX10_first 18 = .ok (.ireturn, 1) := by decide +kernel
set_option maxRecDepth 20000 in
theorem ggX10_nextPair_X10_first : GoodIn wsX10_nextPair wsX10_first := goodIn_r _ [8, 9, 43, 44, 45, 46, 47, 48, 49, 50, 51, 52, 53, 54, 55, 56, 57, 58, 59, 60, 61, 62, 63, 64, 65, 66, 67, 68, 69, 70, 71, 72, 73, 74, 75, 76, 77, 78] (by decide +kernel) (by decide +kernel)
set_option maxRecDepth 20000 in
theorem gX10_nextPair_X10_first : GoodIn wsX10_nextPair (wsV RX10 201 RX10 yX10_first wsX10_first) := goodIn_app (goodIn_of _ (by decide +kernel)) ggX10_nextPair_X10_first
set_option maxRecDepth 20000 in
theorem ggX10_nextPair_X10_isPair : GoodIn wsX10_nextPair wsX10_isPair := goodIn_r _ [13, 14, 15, 16, 7, 17, 9, 18, 19, 20, 21, 22, 43, 44, 45, 46, 47, 48, 49, 50, 51, 52, 53, 54, 55, 56, 57, 58, 59, 60, 61, 62, 63, 64, 65, 66, 67, 68, 69, 70, 71, 72, 73, 74, 75, 76, 77, 78] (by decide +kernel) (by decide +kernel)
set_option maxRecDepth 20000 in
theorem gX10_nextPair_X10_isPair : GoodIn wsX10_nextPair (wsV RX10 204 RX10 yX10_isPair wsX10_isPair) := goodIn_app (goodIn_of _ (by decide +kernel)) ggX10_nextPair_X10_isPair
set_option maxRecDepth 20000 in
theorem ggX10_nextPair_X10_hasWay : GoodIn wsX10_nextPair wsX10_hasWay := goodIn_r _ [26, 27, 28, 29, 30, 7, 31, 32, 33, 43, 44, 45, 46, 47, 48, 49, 50, 51, 52, 53, 54, 55, 56, 57, 58, 59, 60, 61, 62, 63, 64, 65, 66, 67, 68, 69, 70, 71, 72, 73, 74, 75, 76, 77, 78] (by decide +kernel) (by decide +kernel)
set_option maxRecDepth 20000 in
theorem gX10_nextPair_X10_hasWay : GoodIn wsX10_nextPair (wsV RX10 207 RX10 yX10_hasWay wsX10_hasWay) := goodIn_app (goodIn_of _ (by decide +kernel)) ggX10_nextPair_X10_hasWay
set_option maxRecDepth 20000 in
theorem ggX10_nextPair_X10_isAhead : GoodIn wsX10_nextPair wsX10_isAhead := goodIn_r _ [37, 1, 38, 39, 40, 7, 41, 42, 28, 29, 30, 31, 32, 33, 43, 44, 45, 46, 47, 48, 49, 50, 51, 52, 53, 54, 55, 56, 57, 58, 59, 60, 61, 62, 63, 64, 65, 66, 67, 68, 69, 70, 71, 72, 73, 74, 75, 76, 77, 78] (by decide +kernel) (by decide +kernel)
set_option maxRecDepth 20000 in
theorem gX10_nextPair_X10_isAhead : GoodIn wsX10_nextPair (wsV RX10 210 RX10 yX10_isAhead wsX10_isAhead) := goodIn_app (goodIn_of _ (by decide +kernel)) ggX10_nextPair_X10_isAhead
theorem dX10_nextPair_0 : decode cX10_nextPair 0 = .ok (.aload_n 0, 1) := by decide +kernel
theorem dX10_nextPair_1 : decode cX10_nextPair 1 = .ok (.invokevirtual 201, 3) := by decide +kernel
theorem dX10_nextPair_4 : decode cX10_nextPair 4 = .ok (.istore_n 2, 1) := by decide +kernel
theorem dX10_nextPair_5 : decode cX10_nextPair 5 = .ok (.iconst (-1), 1) := by decide +kernel
theorem dX10_nextPair_6 : decode cX10_nextPair 6 = .ok (.istore_n 3, 1) := by decide +kernel
theorem dX10_nextPair_7 : decode cX10_nextPair 7 = .ok (.iconst 0, 1) := by decide +kernel
theorem dX10_nextPair_8 : decode cX10_nextPair 8 = .ok (.istore 4, 2) := by decide +kernel
theorem dX10_nextPair_10 : decode cX10_nextPair 10 = .ok (.iload 4, 2) := by decide +kernel
theorem dX10_nextPair_12 : decode cX10_nextPair 12 = .ok (.sipush 144, 3) := by decide +kernel
theorem dX10_nextPair_15 : decode cX10_nextPair 15 = .ok (.if_icmp .ge 128, 3) := by decide +kernel
theorem dX10_nextPair_18 : decode cX10_nextPair 18 = .ok (.aload_n 0, 1) := by decide +kernel
theorem dX10_nextPair_19 : decode cX10_nextPair 19 = .ok (.iload 4, 2) := by decide +kernel
theorem dX10_nextPair_21 : decode cX10_nextPair 21 = .ok (.invokevirtual 204, 3) := by decide +kernel
theorem dX10_nextPair_24 : decode cX10_nextPair 24 = .ok (.ifCond .eq 113, 3) := by decide +kernel
theorem dX10_nextPair_27 : decode cX10_nextPair 27 = .ok (.aload_n 0, 1) := by decide +kernel
theorem dX10_nextPair_28 : decode cX10_nextPair 28 = .ok (.getfield 72, 3) := by decide +kernel
theorem dX10_nextPair_31 : decode cX10_nextPair 31 = .ok (.iload 4, 2) := by decide +kernel
theorem dX10_nextPair_33 : decode cX10_nextPair 33 = .ok (.iaload, 1) := by decide +kernel
theorem dX10_nextPair_34 : decode cX10_nextPair 34 = .ok (.iconst 2, 1) := by decide +kernel
theorem dX10_nextPair_35 : decode cX10_nextPair 35 = .ok (.if_icmp .eq 102, 3) := by decide +kernel
theorem dX10_nextPair_38 : decode cX10_nextPair 38 = .ok (.aload_n 0, 1) := by decide +kernel
theorem dX10_nextPair_39 : decode cX10_nextPair 39 = .ok (.iload 4, 2) := by decide +kernel
theorem dX10_nextPair_41 : decode cX10_nextPair 41 = .ok (.invokevirtual 207, 3) := by decide +kernel
theorem dX10_nextPair_44 : decode cX10_nextPair 44 = .ok (.ifCond .eq 93, 3) := by decide +kernel
theorem dX10_nextPair_47 : decode cX10_nextPair 47 = .ok (.aload_n 0, 1) := by decide +kernel
theorem dX10_nextPair_48 : decode cX10_nextPair 48 = .ok (.getfield 81, 3) := by decide +kernel
theorem dX10_nextPair_51 : decode cX10_nextPair 51 = .ok (.iload 4, 2) := by decide +kernel
theorem dX10_nextPair_53 : decode cX10_nextPair 53 = .ok (.baload, 1) := by decide +kernel
theorem dX10_nextPair_54 : decode cX10_nextPair 54 = .ok (.ifCond .eq 6, 3) := by decide +kernel
theorem dX10_nextPair_57 : decode cX10_nextPair 57 = .ok (.goto 80, 3) := by decide +kernel
theorem dX10_nextPair_60 : decode cX10_nextPair 60 = .ok (.iload 4, 2) := by decide +kernel
theorem dX10_nextPair_62 : decode cX10_nextPair 62 = .ok (.bipush 12, 2) := by decide +kernel
theorem dX10_nextPair_64 : decode cX10_nextPair 64 = .ok (.idiv, 1) := by decide +kernel
theorem dX10_nextPair_65 : decode cX10_nextPair 65 = .ok (.istore 5, 2) := by decide +kernel
theorem dX10_nextPair_67 : decode cX10_nextPair 67 = .ok (.iload 4, 2) := by decide +kernel
theorem dX10_nextPair_69 : decode cX10_nextPair 69 = .ok (.bipush 12, 2) := by decide +kernel
theorem dX10_nextPair_71 : decode cX10_nextPair 71 = .ok (.irem, 1) := by decide +kernel
theorem dX10_nextPair_72 : decode cX10_nextPair 72 = .ok (.istore 6, 2) := by decide +kernel
theorem dX10_nextPair_74 : decode cX10_nextPair 74 = .ok (.iload 5, 2) := by decide +kernel
theorem dX10_nextPair_76 : decode cX10_nextPair 76 = .ok (.iload_n 2, 1) := by decide +kernel
theorem dX10_nextPair_77 : decode cX10_nextPair 77 = .ok (.if_icmp .eq 9, 3) := by decide +kernel
theorem dX10_nextPair_80 : decode cX10_nextPair 80 = .ok (.iload 6, 2) := by decide +kernel
theorem dX10_nextPair_82 : decode cX10_nextPair 82 = .ok (.iload_n 2, 1) := by decide +kernel
theorem dX10_nextPair_83 : decode cX10_nextPair 83 = .ok (.if_icmp .ne 7, 3) := by decide +kernel
theorem dX10_nextPair_86 : decode cX10_nextPair 86 = .ok (.iconst 1, 1) := by decide +kernel
theorem dX10_nextPair_87 : decode cX10_nextPair 87 = .ok (.goto 4, 3) := by decide +kernel
theorem dX10_nextPair_90 : decode cX10_nextPair 90 = .ok (.iconst 0, 1) := by decide +kernel
theorem dX10_nextPair_91 : decode cX10_nextPair 91 = .ok (.istore 7, 2) := by decide +kernel
theorem dX10_nextPair_93 : decode cX10_nextPair 93 = .ok (.iload 7, 2) := by decide +kernel
theorem dX10_nextPair_95 : decode cX10_nextPair 95 = .ok (.iload_n 1, 1) := by decide +kernel
theorem dX10_nextPair_96 : decode cX10_nextPair 96 = .ok (.if_icmp .ne 41, 3) := by decide +kernel
theorem dX10_nextPair_99 : decode cX10_nextPair 99 = .ok (.iload_n 1, 1) := by decide +kernel
theorem dX10_nextPair_100 : decode cX10_nextPair 100 = .ok (.ifCond .ne 20, 3) := by decide +kernel
theorem dX10_nextPair_103 : decode cX10_nextPair 103 = .ok (.aload_n 0, 1) := by decide +kernel
theorem dX10_nextPair_104 : decode cX10_nextPair 104 = .ok (.getfield 75, 3) := by decide +kernel
theorem dX10_nextPair_107 : decode cX10_nextPair 107 = .ok (.iload 5, 2) := by decide +kernel
theorem dX10_nextPair_109 : decode cX10_nextPair 109 = .ok (.iaload, 1) := by decide +kernel
theorem dX10_nextPair_110 : decode cX10_nextPair 110 = .ok (.aload_n 0, 1) := by decide +kernel
theorem dX10_nextPair_111 : decode cX10_nextPair 111 = .ok (.getfield 75, 3) := by decide +kernel
theorem dX10_nextPair_114 : decode cX10_nextPair 114 = .ok (.iload 6, 2) := by decide +kernel
theorem dX10_nextPair_116 : decode cX10_nextPair 116 = .ok (.iaload, 1) := by decide +kernel
theorem dX10_nextPair_117 : decode cX10_nextPair 117 = .ok (.if_icmp .eq 20, 3) := by decide +kernel
theorem dX10_nextPair_120 : decode cX10_nextPair 120 = .ok (.iload_n 3, 1) := by decide +kernel
theorem dX10_nextPair_121 : decode cX10_nextPair 121 = .ok (.ifCond .lt 13, 3) := by decide +kernel
theorem dX10_nextPair_124 : decode cX10_nextPair 124 = .ok (.aload_n 0, 1) := by decide +kernel
theorem dX10_nextPair_125 : decode cX10_nextPair 125 = .ok (.iload 4, 2) := by decide +kernel
theorem dX10_nextPair_127 : decode cX10_nextPair 127 = .ok (.iload_n 3, 1) := by decide +kernel
theorem dX10_nextPair_128 : decode cX10_nextPair 128 = .ok (.invokevirtual 210, 3) := by decide +kernel
theorem dX10_nextPair_131 : decode cX10_nextPair 131 = .ok (.ifCond .eq 6, 3) := by decide +kernel
theorem dX10_nextPair_134 : decode cX10_nextPair 134 = .ok (.iload 4, 2) := by decide +kernel
theorem dX10_nextPair_136 : decode cX10_nextPair 136 = .ok (.istore_n 3, 1) := by decide +kernel
theorem dX10_nextPair_137 : decode cX10_nextPair 137 = .ok (.iinc 4 1, 3) := by decide +kernel
theorem dX10_nextPair_140 : decode cX10_nextPair 140 = .ok (.goto (-130), 3) := by decide +kernel
theorem dX10_nextPair_143 : decode cX10_nextPair 143 = .ok (.iload_n 3, 1) := by decide +kernel
theorem dX10_nextPair_144 : decode cX10_nextPair 144 = .ok (.ireturn, 1) := by decide +kernel
theorem dX10_take_0 : decode cX10_take 0 = .ok (.aload_n 0, 1) := by decide +kernel
theorem dX10_take_1 : decode cX10_take 1 = .ok (.getfield 81, 3) := by decide +kernel
theorem dX10_take_4 : decode cX10_take 4 = .ok (.iload_n 1, 1) := by decide +kernel
theorem dX10_take_5 : decode cX10_take 5 = .ok (.iconst 1, 1) := by decide +kernel
theorem dX10_take_6 : decode cX10_take 6 = .ok (.bastore, 1) := by decide +kernel
theorem dX10_take_7 : decode cX10_take 7 = .ok (.aload_n 0, 1) := by decide +kernel
theorem dX10_take_8 : decode cX10_take 8 = .ok (.getfield 78, 3) := by decide +kernel
theorem dX10_take_11 : decode cX10_take 11 = .ok (.aload_n 0, 1) := by decide +kernel
theorem dX10_take_12 : decode cX10_take 12 = .ok (.getfield 214, 3) := by decide +kernel
theorem dX10_take_15 : decode cX10_take 15 = .ok (.iload_n 1, 1) := by decide +kernel
theorem dX10_take_16 : decode cX10_take 16 = .ok (.iastore, 1) := by decide +kernel
theorem dX10_take_17 : decode cX10_take 17 = .ok (.aload_n 0, 1) := by decide +kernel
theorem dX10_take_18 : decode cX10_take 18 = .ok (.dup, 1) := by decide +kernel
theorem dX10_take_19 : decode cX10_take 19 = .ok (.getfield 214, 3) := by decide +kernel
theorem dX10_take_22 : decode cX10_take 22 = .ok (.iconst 1, 1) := by decide +kernel
theorem dX10_take_23 : decode cX10_take 23 = .ok (.iadd, 1) := by decide +kernel
theorem dX10_take_24 : decode cX10_take 24 = .ok (.putfield 214, 3) := by decide +kernel
theorem dX10_take_27 : decode cX10_take 27 = .ok (.aload_n 0, 1) := by decide +kernel
theorem dX10_take_28 : decode cX10_take 28 = .ok (.getfield 75, 3) := by decide +kernel
theorem dX10_take_31 : decode cX10_take 31 = .ok (.iload_n 1, 1) := by decide +kernel
theorem dX10_take_32 : decode cX10_take 32 = .ok (.bipush 12, 2) := by decide +kernel
theorem dX10_take_34 : decode cX10_take 34 = .ok (.idiv, 1) := by decide +kernel
theorem dX10_take_35 : decode cX10_take 35 = .ok (.iaload, 1) := by decide +kernel
theorem dX10_take_36 : decode cX10_take 36 = .ok (.istore_n 2, 1) := by decide +kernel
theorem dX10_take_37 : decode cX10_take 37 = .ok (.aload_n 0, 1) := by decide +kernel
theorem dX10_take_38 : decode cX10_take 38 = .ok (.getfield 75, 3) := by decide +kernel
theorem dX10_take_41 : decode cX10_take 41 = .ok (.iload_n 1, 1) := by decide +kernel
theorem dX10_take_42 : decode cX10_take 42 = .ok (.bipush 12, 2) := by decide +kernel
theorem dX10_take_44 : decode cX10_take 44 = .ok (.irem, 1) := by decide +kernel
theorem dX10_take_45 : decode cX10_take 45 = .ok (.iaload, 1) := by decide +kernel
theorem dX10_take_46 : decode cX10_take 46 = .ok (.istore_n 3, 1) := by decide +kernel
theorem dX10_take_47 : decode cX10_take 47 = .ok (.iconst 0, 1) := by decide +kernel
theorem dX10_take_48 : decode cX10_take 48 = .ok (.istore 4, 2) := by decide +kernel
theorem dX10_take_50 : decode cX10_take 50 = .ok (.iload 4, 2) := by decide +kernel
theorem dX10_take_52 : decode cX10_take 52 = .ok (.bipush 12, 2) := by decide +kernel
theorem dX10_take_54 : decode cX10_take 54 = .ok (.if_icmp .ge 38, 3) := by decide +kernel
theorem dX10_take_57 : decode cX10_take 57 = .ok (.aload_n 0, 1) := by decide +kernel
theorem dX10_take_58 : decode cX10_take 58 = .ok (.getfield 75, 3) := by decide +kernel
theorem dX10_take_61 : decode cX10_take 61 = .ok (.iload 4, 2) := by decide +kernel
theorem dX10_take_63 : decode cX10_take 63 = .ok (.aload_n 0, 1) := by decide +kernel
theorem dX10_take_64 : decode cX10_take 64 = .ok (.getfield 75, 3) := by decide +kernel
theorem dX10_take_67 : decode cX10_take 67 = .ok (.iload 4, 2) := by decide +kernel
theorem dX10_take_69 : decode cX10_take 69 = .ok (.iaload, 1) := by decide +kernel
theorem dX10_take_70 : decode cX10_take 70 = .ok (.iload_n 2, 1) := by decide +kernel
theorem dX10_take_71 : decode cX10_take 71 = .ok (.if_icmp .ne 7, 3) := by decide +kernel
theorem dX10_take_74 : decode cX10_take 74 = .ok (.iload_n 3, 1) := by decide +kernel
theorem dX10_take_75 : decode cX10_take 75 = .ok (.goto 10, 3) := by decide +kernel
theorem dX10_take_78 : decode cX10_take 78 = .ok (.aload_n 0, 1) := by decide +kernel
theorem dX10_take_79 : decode cX10_take 79 = .ok (.getfield 75, 3) := by decide +kernel
theorem dX10_take_82 : decode cX10_take 82 = .ok (.iload 4, 2) := by decide +kernel
theorem dX10_take_84 : decode cX10_take 84 = .ok (.iaload, 1) := by decide +kernel
theorem dX10_take_85 : decode cX10_take 85 = .ok (.iastore, 1) := by decide +kernel
theorem dX10_take_86 : decode cX10_take 86 = .ok (.iinc 4 1, 3) := by decide +kernel
theorem dX10_take_89 : decode cX10_take 89 = .ok (.goto (-39), 3) := by decide +kernel
theorem dX10_take_92 : decode cX10_take 92 = .ok (.return_, 1) := by decide +kernel
set_option maxRecDepth 20000 in
theorem ggX10_tree_X10_nextPair : GoodIn wsX10_tree wsX10_nextPair := goodIn_r _ [14, 15, 2, 3, 16, 17, 18, 13, 19, 6, 20, 21, 22, 23, 24, 25, 26, 27, 28, 29, 30, 31, 5, 32, 33, 34, 35, 36, 37, 38, 39, 40, 41, 42, 43, 44, 45, 46, 47, 48, 49, 50, 8, 55, 56, 57, 58, 59, 60, 61, 62, 63, 64, 65, 66, 67, 68, 69, 70, 71, 72, 73, 74, 75, 76, 77, 78, 79, 80, 81, 82, 83, 84, 85, 86, 87, 88, 89, 90] (by decide +kernel) (by decide +kernel)
set_option maxRecDepth 20000 in
theorem gX10_tree_X10_nextPair : GoodIn wsX10_tree (wsV RX10 217 RX10 yX10_nextPair wsX10_nextPair) := goodIn_app (goodIn_of _ (by decide +kernel)) ggX10_tree_X10_nextPair
set_option maxRecDepth 20000 in
theorem ggX10_tree_X10_take : GoodIn wsX10_tree wsX10_take := goodIn_r _ [54, 2, 4, 1, 3, 55, 56, 57, 58, 59, 60, 61, 62, 63, 64, 65, 66, 67, 68, 69, 70, 71, 72, 73, 74, 75, 76, 77, 78, 79, 80, 81, 82, 83, 84, 85, 86, 87, 88, 89, 90] (by decide +kernel) (by decide +kernel)
set_option maxRecDepth 20000 in
theorem gX10_tree_X10_take : GoodIn wsX10_tree (wsV RX10 221 RX10 yX10_take wsX10_take) := goodIn_app (goodIn_of _ (by decide +kernel)) ggX10_tree_X10_take
set_option maxRecDepth 20000 in
theorem ggX10_tree_X10_priced : GoodIn wsX10_tree wsX10_priced := goodIn_r _ [50, 8, 37, 38, 39, 13, 40, 41, 42, 55, 56, 57, 58, 59, 60, 61, 62, 63, 64, 65, 66, 67, 68, 69, 70, 71, 72, 73, 74, 75, 76, 77, 78, 79, 80, 81, 82, 83, 84, 85, 86, 87, 88, 89, 90] (by decide +kernel) (by decide +kernel)
set_option maxRecDepth 20000 in
theorem gX10_tree_X10_priced : GoodIn wsX10_tree (wsV RX10 197 RX10 yX10_priced wsX10_priced) := goodIn_app (goodIn_of _ (by decide +kernel)) ggX10_tree_X10_priced
set_option maxRecDepth 20000 in
theorem ggX10_tree_X10_first : GoodIn wsX10_tree wsX10_first := goodIn_r _ [19, 6, 55, 56, 57, 58, 59, 60, 61, 62, 63, 64, 65, 66, 67, 68, 69, 70, 71, 72, 73, 74, 75, 76, 77, 78, 79, 80, 81, 82, 83, 84, 85, 86, 87, 88, 89, 90] (by decide +kernel) (by decide +kernel)
set_option maxRecDepth 20000 in
theorem gX10_tree_X10_first : GoodIn wsX10_tree (wsV RX10 201 RX10 yX10_first wsX10_first) := goodIn_app (goodIn_of _ (by decide +kernel)) ggX10_tree_X10_first
theorem dX10_tree_0 : decode cX10_tree 0 = .ok (.aload_n 0, 1) := by decide +kernel
theorem dX10_tree_1 : decode cX10_tree 1 = .ok (.iconst 0, 1) := by decide +kernel
theorem dX10_tree_2 : decode cX10_tree 2 = .ok (.putfield 214, 3) := by decide +kernel
theorem dX10_tree_5 : decode cX10_tree 5 = .ok (.iconst 0, 1) := by decide +kernel
theorem dX10_tree_6 : decode cX10_tree 6 = .ok (.istore_n 1, 1) := by decide +kernel
theorem dX10_tree_7 : decode cX10_tree 7 = .ok (.iload_n 1, 1) := by decide +kernel
theorem dX10_tree_8 : decode cX10_tree 8 = .ok (.sipush 144, 3) := by decide +kernel
theorem dX10_tree_11 : decode cX10_tree 11 = .ok (.if_icmp .ge 16, 3) := by decide +kernel
theorem dX10_tree_14 : decode cX10_tree 14 = .ok (.aload_n 0, 1) := by decide +kernel
theorem dX10_tree_15 : decode cX10_tree 15 = .ok (.getfield 81, 3) := by decide +kernel
theorem dX10_tree_18 : decode cX10_tree 18 = .ok (.iload_n 1, 1) := by decide +kernel
theorem dX10_tree_19 : decode cX10_tree 19 = .ok (.iconst 0, 1) := by decide +kernel
theorem dX10_tree_20 : decode cX10_tree 20 = .ok (.bastore, 1) := by decide +kernel
theorem dX10_tree_21 : decode cX10_tree 21 = .ok (.iinc 1 1, 3) := by decide +kernel
theorem dX10_tree_24 : decode cX10_tree 24 = .ok (.goto (-17), 3) := by decide +kernel
theorem dX10_tree_27 : decode cX10_tree 27 = .ok (.iconst 0, 1) := by decide +kernel
theorem dX10_tree_28 : decode cX10_tree 28 = .ok (.istore_n 1, 1) := by decide +kernel
theorem dX10_tree_29 : decode cX10_tree 29 = .ok (.iload_n 1, 1) := by decide +kernel
theorem dX10_tree_30 : decode cX10_tree 30 = .ok (.bipush 12, 2) := by decide +kernel
theorem dX10_tree_32 : decode cX10_tree 32 = .ok (.if_icmp .ge 16, 3) := by decide +kernel
theorem dX10_tree_35 : decode cX10_tree 35 = .ok (.aload_n 0, 1) := by decide +kernel
theorem dX10_tree_36 : decode cX10_tree 36 = .ok (.getfield 75, 3) := by decide +kernel
theorem dX10_tree_39 : decode cX10_tree 39 = .ok (.iload_n 1, 1) := by decide +kernel
theorem dX10_tree_40 : decode cX10_tree 40 = .ok (.iload_n 1, 1) := by decide +kernel
theorem dX10_tree_41 : decode cX10_tree 41 = .ok (.iastore, 1) := by decide +kernel
theorem dX10_tree_42 : decode cX10_tree 42 = .ok (.iinc 1 1, 3) := by decide +kernel
theorem dX10_tree_45 : decode cX10_tree 45 = .ok (.goto (-16), 3) := by decide +kernel
theorem dX10_tree_48 : decode cX10_tree 48 = .ok (.aload_n 0, 1) := by decide +kernel
theorem dX10_tree_49 : decode cX10_tree 49 = .ok (.iconst 0, 1) := by decide +kernel
theorem dX10_tree_50 : decode cX10_tree 50 = .ok (.invokevirtual 217, 3) := by decide +kernel
theorem dX10_tree_53 : decode cX10_tree 53 = .ok (.istore_n 1, 1) := by decide +kernel
theorem dX10_tree_54 : decode cX10_tree 54 = .ok (.iload_n 1, 1) := by decide +kernel
theorem dX10_tree_55 : decode cX10_tree 55 = .ok (.ifCond .lt 17, 3) := by decide +kernel
theorem dX10_tree_58 : decode cX10_tree 58 = .ok (.aload_n 0, 1) := by decide +kernel
theorem dX10_tree_59 : decode cX10_tree 59 = .ok (.iload_n 1, 1) := by decide +kernel
theorem dX10_tree_60 : decode cX10_tree 60 = .ok (.invokevirtual 221, 3) := by decide +kernel
theorem dX10_tree_63 : decode cX10_tree 63 = .ok (.aload_n 0, 1) := by decide +kernel
theorem dX10_tree_64 : decode cX10_tree 64 = .ok (.iconst 0, 1) := by decide +kernel
theorem dX10_tree_65 : decode cX10_tree 65 = .ok (.invokevirtual 217, 3) := by decide +kernel
theorem dX10_tree_68 : decode cX10_tree 68 = .ok (.istore_n 1, 1) := by decide +kernel
theorem dX10_tree_69 : decode cX10_tree 69 = .ok (.goto (-15), 3) := by decide +kernel
theorem dX10_tree_72 : decode cX10_tree 72 = .ok (.iconst 0, 1) := by decide +kernel
theorem dX10_tree_73 : decode cX10_tree 73 = .ok (.istore_n 2, 1) := by decide +kernel
theorem dX10_tree_74 : decode cX10_tree 74 = .ok (.aload_n 0, 1) := by decide +kernel
theorem dX10_tree_75 : decode cX10_tree 75 = .ok (.iconst 1, 1) := by decide +kernel
theorem dX10_tree_76 : decode cX10_tree 76 = .ok (.invokevirtual 217, 3) := by decide +kernel
theorem dX10_tree_79 : decode cX10_tree 79 = .ok (.istore_n 1, 1) := by decide +kernel
theorem dX10_tree_80 : decode cX10_tree 80 = .ok (.iload_n 1, 1) := by decide +kernel
theorem dX10_tree_81 : decode cX10_tree 81 = .ok (.ifCond .lt 25, 3) := by decide +kernel
theorem dX10_tree_84 : decode cX10_tree 84 = .ok (.iload_n 2, 1) := by decide +kernel
theorem dX10_tree_85 : decode cX10_tree 85 = .ok (.iconst 2, 1) := by decide +kernel
theorem dX10_tree_86 : decode cX10_tree 86 = .ok (.if_icmp .ge 20, 3) := by decide +kernel
theorem dX10_tree_89 : decode cX10_tree 89 = .ok (.aload_n 0, 1) := by decide +kernel
theorem dX10_tree_90 : decode cX10_tree 90 = .ok (.iload_n 1, 1) := by decide +kernel
theorem dX10_tree_91 : decode cX10_tree 91 = .ok (.invokevirtual 221, 3) := by decide +kernel
theorem dX10_tree_94 : decode cX10_tree 94 = .ok (.iinc 2 1, 3) := by decide +kernel
theorem dX10_tree_97 : decode cX10_tree 97 = .ok (.aload_n 0, 1) := by decide +kernel
theorem dX10_tree_98 : decode cX10_tree 98 = .ok (.iconst 1, 1) := by decide +kernel
theorem dX10_tree_99 : decode cX10_tree 99 = .ok (.invokevirtual 217, 3) := by decide +kernel
theorem dX10_tree_102 : decode cX10_tree 102 = .ok (.istore_n 1, 1) := by decide +kernel
theorem dX10_tree_103 : decode cX10_tree 103 = .ok (.goto (-23), 3) := by decide +kernel
theorem dX10_tree_106 : decode cX10_tree 106 = .ok (.lconst 0, 1) := by decide +kernel
theorem dX10_tree_107 : decode cX10_tree 107 = .ok (.lstore_n 3, 1) := by decide +kernel
theorem dX10_tree_108 : decode cX10_tree 108 = .ok (.iconst 0, 1) := by decide +kernel
theorem dX10_tree_109 : decode cX10_tree 109 = .ok (.istore 5, 2) := by decide +kernel
theorem dX10_tree_111 : decode cX10_tree 111 = .ok (.iload 5, 2) := by decide +kernel
theorem dX10_tree_113 : decode cX10_tree 113 = .ok (.aload_n 0, 1) := by decide +kernel
theorem dX10_tree_114 : decode cX10_tree 114 = .ok (.getfield 214, 3) := by decide +kernel
theorem dX10_tree_117 : decode cX10_tree 117 = .ok (.if_icmp .ge 23, 3) := by decide +kernel
theorem dX10_tree_120 : decode cX10_tree 120 = .ok (.lload_n 3, 1) := by decide +kernel
theorem dX10_tree_121 : decode cX10_tree 121 = .ok (.aload_n 0, 1) := by decide +kernel
theorem dX10_tree_122 : decode cX10_tree 122 = .ok (.aload_n 0, 1) := by decide +kernel
theorem dX10_tree_123 : decode cX10_tree 123 = .ok (.getfield 78, 3) := by decide +kernel
theorem dX10_tree_126 : decode cX10_tree 126 = .ok (.iload 5, 2) := by decide +kernel
theorem dX10_tree_128 : decode cX10_tree 128 = .ok (.iaload, 1) := by decide +kernel
theorem dX10_tree_129 : decode cX10_tree 129 = .ok (.invokevirtual 197, 3) := by decide +kernel
theorem dX10_tree_132 : decode cX10_tree 132 = .ok (.ladd, 1) := by decide +kernel
theorem dX10_tree_133 : decode cX10_tree 133 = .ok (.lstore_n 3, 1) := by decide +kernel
theorem dX10_tree_134 : decode cX10_tree 134 = .ok (.iinc 5 1, 3) := by decide +kernel
theorem dX10_tree_137 : decode cX10_tree 137 = .ok (.goto (-26), 3) := by decide +kernel
theorem dX10_tree_140 : decode cX10_tree 140 = .ok (.iload_n 2, 1) := by decide +kernel
theorem dX10_tree_141 : decode cX10_tree 141 = .ok (.iconst 2, 1) := by decide +kernel
theorem dX10_tree_142 : decode cX10_tree 142 = .ok (.if_icmp .ne 7, 3) := by decide +kernel
theorem dX10_tree_145 : decode cX10_tree 145 = .ok (.iconst 1, 1) := by decide +kernel
theorem dX10_tree_146 : decode cX10_tree 146 = .ok (.goto 4, 3) := by decide +kernel
theorem dX10_tree_149 : decode cX10_tree 149 = .ok (.iconst 0, 1) := by decide +kernel
theorem dX10_tree_150 : decode cX10_tree 150 = .ok (.istore 5, 2) := by decide +kernel
theorem dX10_tree_152 : decode cX10_tree 152 = .ok (.iconst 0, 1) := by decide +kernel
theorem dX10_tree_153 : decode cX10_tree 153 = .ok (.istore 6, 2) := by decide +kernel
theorem dX10_tree_155 : decode cX10_tree 155 = .ok (.iload 6, 2) := by decide +kernel
theorem dX10_tree_157 : decode cX10_tree 157 = .ok (.aload_n 0, 1) := by decide +kernel
theorem dX10_tree_158 : decode cX10_tree 158 = .ok (.getfield 107, 3) := by decide +kernel
theorem dX10_tree_161 : decode cX10_tree 161 = .ok (.if_icmp .ge 77, 3) := by decide +kernel
theorem dX10_tree_164 : decode cX10_tree 164 = .ok (.iload 5, 2) := by decide +kernel
theorem dX10_tree_166 : decode cX10_tree 166 = .ok (.aload_n 0, 1) := by decide +kernel
theorem dX10_tree_167 : decode cX10_tree 167 = .ok (.getfield 45, 3) := by decide +kernel
theorem dX10_tree_170 : decode cX10_tree 170 = .ok (.iload 6, 2) := by decide +kernel
theorem dX10_tree_172 : decode cX10_tree 172 = .ok (.baload, 1) := by decide +kernel
theorem dX10_tree_173 : decode cX10_tree 173 = .ok (.ifCond .ne 22, 3) := by decide +kernel
theorem dX10_tree_176 : decode cX10_tree 176 = .ok (.aload_n 0, 1) := by decide +kernel
theorem dX10_tree_177 : decode cX10_tree 177 = .ok (.getfield 75, 3) := by decide +kernel
theorem dX10_tree_180 : decode cX10_tree 180 = .ok (.iload 6, 2) := by decide +kernel
theorem dX10_tree_182 : decode cX10_tree 182 = .ok (.iaload, 1) := by decide +kernel
theorem dX10_tree_183 : decode cX10_tree 183 = .ok (.aload_n 0, 1) := by decide +kernel
theorem dX10_tree_184 : decode cX10_tree 184 = .ok (.getfield 75, 3) := by decide +kernel
theorem dX10_tree_187 : decode cX10_tree 187 = .ok (.aload_n 0, 1) := by decide +kernel
theorem dX10_tree_188 : decode cX10_tree 188 = .ok (.invokevirtual 201, 3) := by decide +kernel
theorem dX10_tree_191 : decode cX10_tree 191 = .ok (.iaload, 1) := by decide +kernel
theorem dX10_tree_192 : decode cX10_tree 192 = .ok (.if_icmp .ne 7, 3) := by decide +kernel
theorem dX10_tree_195 : decode cX10_tree 195 = .ok (.iconst 1, 1) := by decide +kernel
theorem dX10_tree_196 : decode cX10_tree 196 = .ok (.goto 4, 3) := by decide +kernel
theorem dX10_tree_199 : decode cX10_tree 199 = .ok (.iconst 0, 1) := by decide +kernel
theorem dX10_tree_200 : decode cX10_tree 200 = .ok (.iand, 1) := by decide +kernel
theorem dX10_tree_201 : decode cX10_tree 201 = .ok (.istore 5, 2) := by decide +kernel
theorem dX10_tree_203 : decode cX10_tree 203 = .ok (.lload_n 3, 1) := by decide +kernel
theorem dX10_tree_204 : decode cX10_tree 204 = .ok (.aload_n 0, 1) := by decide +kernel
theorem dX10_tree_205 : decode cX10_tree 205 = .ok (.getfield 45, 3) := by decide +kernel
theorem dX10_tree_208 : decode cX10_tree 208 = .ok (.iload 6, 2) := by decide +kernel
theorem dX10_tree_210 : decode cX10_tree 210 = .ok (.baload, 1) := by decide +kernel
theorem dX10_tree_211 : decode cX10_tree 211 = .ok (.ifCond .eq 7, 3) := by decide +kernel
theorem dX10_tree_214 : decode cX10_tree 214 = .ok (.lconst 0, 1) := by decide +kernel
theorem dX10_tree_215 : decode cX10_tree 215 = .ok (.goto 15, 3) := by decide +kernel
theorem dX10_tree_218 : decode cX10_tree 218 = .ok (.ldc2_w 225, 3) := by decide +kernel
theorem dX10_tree_221 : decode cX10_tree 221 = .ok (.aload_n 0, 1) := by decide +kernel
theorem dX10_tree_222 : decode cX10_tree 222 = .ok (.getfield 48, 3) := by decide +kernel
theorem dX10_tree_225 : decode cX10_tree 225 = .ok (.iload 6, 2) := by decide +kernel
theorem dX10_tree_227 : decode cX10_tree 227 = .ok (.iaload, 1) := by decide +kernel
theorem dX10_tree_228 : decode cX10_tree 228 = .ok (.i2l, 1) := by decide +kernel
theorem dX10_tree_229 : decode cX10_tree 229 = .ok (.lmul, 1) := by decide +kernel
theorem dX10_tree_230 : decode cX10_tree 230 = .ok (.lsub, 1) := by decide +kernel
theorem dX10_tree_231 : decode cX10_tree 231 = .ok (.lstore_n 3, 1) := by decide +kernel
theorem dX10_tree_232 : decode cX10_tree 232 = .ok (.iinc 6 1, 3) := by decide +kernel
theorem dX10_tree_235 : decode cX10_tree 235 = .ok (.goto (-80), 3) := by decide +kernel
theorem dX10_tree_238 : decode cX10_tree 238 = .ok (.iload 5, 2) := by decide +kernel
theorem dX10_tree_240 : decode cX10_tree 240 = .ok (.ifCond .eq 7, 3) := by decide +kernel
theorem dX10_tree_243 : decode cX10_tree 243 = .ok (.lload_n 3, 1) := by decide +kernel
theorem dX10_tree_244 : decode cX10_tree 244 = .ok (.goto 6, 3) := by decide +kernel
theorem dX10_tree_247 : decode cX10_tree 247 = .ok (.ldc2_w 227, 3) := by decide +kernel
theorem dX10_tree_250 : decode cX10_tree 250 = .ok (.lreturn, 1) := by decide +kernel
set_option maxRecDepth 20000 in
theorem ggX10_price_X10_isLamp : GoodIn wsX10_price wsX10_isLamp := goodIn_r _ [8, 9, 10, 11, 12, 13, 14, 15, 16, 17, 18, 19, 20, 21, 22, 23, 24, 25, 26, 27, 28, 29, 30, 31, 32, 33, 34, 35, 36, 37, 38, 39, 40, 41, 42, 43, 44, 45] (by decide +kernel) (by decide +kernel)
set_option maxRecDepth 20000 in
theorem gX10_price_X10_isLamp : GoodIn wsX10_price (wsV RX10 110 RX10 yX10_isLamp wsX10_isLamp) := goodIn_app (goodIn_of _ (by decide +kernel)) ggX10_price_X10_isLamp
theorem dX10_price_0 : decode cX10_price 0 = .ok (.aload_n 0, 1) := by decide +kernel
theorem dX10_price_1 : decode cX10_price 1 = .ok (.iload_n 1, 1) := by decide +kernel
theorem dX10_price_2 : decode cX10_price 2 = .ok (.invokevirtual 110, 3) := by decide +kernel
theorem dX10_price_5 : decode cX10_price 5 = .ok (.ifCond .eq 15, 3) := by decide +kernel
theorem dX10_price_8 : decode cX10_price 8 = .ok (.iload_n 2, 1) := by decide +kernel
theorem dX10_price_9 : decode cX10_price 9 = .ok (.ldc 229, 2) := by decide +kernel
theorem dX10_price_11 : decode cX10_price 11 = .ok (.if_icmp .lt 9, 3) := by decide +kernel
theorem dX10_price_14 : decode cX10_price 14 = .ok (.iload_n 2, 1) := by decide +kernel
theorem dX10_price_15 : decode cX10_price 15 = .ok (.ldc 230, 2) := by decide +kernel
theorem dX10_price_17 : decode cX10_price 17 = .ok (.if_icmp .le 5, 3) := by decide +kernel
theorem dX10_price_20 : decode cX10_price 20 = .ok (.iconst (-1), 1) := by decide +kernel
theorem dX10_price_21 : decode cX10_price 21 = .ok (.ireturn, 1) := by decide +kernel
theorem dX10_price_22 : decode cX10_price 22 = .ok (.aload_n 0, 1) := by decide +kernel
theorem dX10_price_23 : decode cX10_price 23 = .ok (.getfield 48, 3) := by decide +kernel
theorem dX10_price_26 : decode cX10_price 26 = .ok (.iload_n 1, 1) := by decide +kernel
theorem dX10_price_27 : decode cX10_price 27 = .ok (.iload_n 2, 1) := by decide +kernel
theorem dX10_price_28 : decode cX10_price 28 = .ok (.iastore, 1) := by decide +kernel
theorem dX10_price_29 : decode cX10_price 29 = .ok (.iconst 1, 1) := by decide +kernel
theorem dX10_price_30 : decode cX10_price 30 = .ok (.ireturn, 1) := by decide +kernel
set_option maxRecDepth 20000 in
theorem ggX10_climb_X10_lit : GoodIn wsX10_climb wsX10_lit := goodIn_r _ [11, 2, 4, 67, 68, 69, 70, 71, 72, 73, 74, 75, 76, 77, 78, 79, 80, 81, 82, 83, 84, 85, 86, 87, 88, 89, 90, 91, 92, 93, 94, 95, 96, 97, 98, 99, 100, 101, 102] (by decide +kernel) (by decide +kernel)
set_option maxRecDepth 20000 in
theorem gX10_climb_X10_lit : GoodIn wsX10_climb (wsV RX10 142 RX10 yX10_lit wsX10_lit) := goodIn_app (goodIn_of _ (by decide +kernel)) ggX10_climb_X10_lit
set_option maxRecDepth 20000 in
theorem ggX10_climb_X10_freeAll : GoodIn wsX10_climb wsX10_freeAll := goodIn_r _ [15, 16, 67, 68, 69, 70, 71, 72, 73, 74, 75, 76, 77, 78, 79, 80, 81, 82, 83, 84, 85, 86, 87, 88, 89, 90, 91, 92, 93, 94, 95, 96, 97, 98, 99, 100, 101, 102] (by decide +kernel) (by decide +kernel)
set_option maxRecDepth 20000 in
theorem gX10_climb_X10_freeAll : GoodIn wsX10_climb (wsV RX10 231 RX10 yX10_freeAll wsX10_freeAll) := goodIn_app (goodIn_of _ (by decide +kernel)) ggX10_climb_X10_freeAll
set_option maxRecDepth 20000 in
theorem ggX10_climb_X10_tree : GoodIn wsX10_climb wsX10_tree := goodIn_r _ [20, 5, 21, 22, 6, 2, 4, 23, 3, 1, 24, 25, 26, 10, 27, 16, 28, 29, 30, 31, 32, 33, 34, 35, 36, 37, 38, 39, 40, 41, 42, 43, 44, 45, 46, 47, 48, 49, 50, 51, 52, 53, 54, 55, 56, 57, 58, 59, 60, 61, 62, 63, 64, 65, 66, 67, 68, 69, 70, 71, 72, 73, 74, 75, 76, 77, 78, 79, 80, 81, 82, 83, 84, 85, 86, 87, 88, 89, 90, 91, 92, 93, 94, 95, 96, 97, 98, 99, 100, 101, 102] (by decide +kernel) (by decide +kernel)
set_option maxRecDepth 20000 in
theorem gX10_climb_X10_tree : GoodIn wsX10_climb (wsV RX10 234 RX10 yX10_tree wsX10_tree) := goodIn_app (goodIn_of _ (by decide +kernel)) ggX10_climb_X10_tree
theorem dX10_climb_0 : decode cX10_climb 0 = .ok (.iload_n 1, 1) := by decide +kernel
theorem dX10_climb_1 : decode cX10_climb 1 = .ok (.iconst 1, 1) := by decide +kernel
theorem dX10_climb_2 : decode cX10_climb 2 = .ok (.if_icmp .lt 9, 3) := by decide +kernel
theorem dX10_climb_5 : decode cX10_climb 5 = .ok (.iload_n 1, 1) := by decide +kernel
theorem dX10_climb_6 : decode cX10_climb 6 = .ok (.bipush 100, 2) := by decide +kernel
theorem dX10_climb_8 : decode cX10_climb 8 = .ok (.if_icmp .le 5, 3) := by decide +kernel
theorem dX10_climb_11 : decode cX10_climb 11 = .ok (.iconst (-1), 1) := by decide +kernel
theorem dX10_climb_12 : decode cX10_climb 12 = .ok (.ireturn, 1) := by decide +kernel
theorem dX10_climb_13 : decode cX10_climb 13 = .ok (.aload_n 0, 1) := by decide +kernel
theorem dX10_climb_14 : decode cX10_climb 14 = .ok (.invokevirtual 142, 3) := by decide +kernel
theorem dX10_climb_17 : decode cX10_climb 17 = .ok (.iconst 3, 1) := by decide +kernel
theorem dX10_climb_18 : decode cX10_climb 18 = .ok (.if_icmp .ge 6, 3) := by decide +kernel
theorem dX10_climb_21 : decode cX10_climb 21 = .ok (.bipush (-4), 2) := by decide +kernel
theorem dX10_climb_23 : decode cX10_climb 23 = .ok (.ireturn, 1) := by decide +kernel
theorem dX10_climb_24 : decode cX10_climb 24 = .ok (.iconst 0, 1) := by decide +kernel
theorem dX10_climb_25 : decode cX10_climb 25 = .ok (.istore_n 2, 1) := by decide +kernel
theorem dX10_climb_26 : decode cX10_climb 26 = .ok (.aload_n 0, 1) := by decide +kernel
theorem dX10_climb_27 : decode cX10_climb 27 = .ok (.invokevirtual 231, 3) := by decide +kernel
theorem dX10_climb_30 : decode cX10_climb 30 = .ok (.iconst 0, 1) := by decide +kernel
theorem dX10_climb_31 : decode cX10_climb 31 = .ok (.istore_n 3, 1) := by decide +kernel
theorem dX10_climb_32 : decode cX10_climb 32 = .ok (.iload_n 3, 1) := by decide +kernel
theorem dX10_climb_33 : decode cX10_climb 33 = .ok (.iload_n 1, 1) := by decide +kernel
theorem dX10_climb_34 : decode cX10_climb 34 = .ok (.if_icmp .ge 122, 3) := by decide +kernel
theorem dX10_climb_37 : decode cX10_climb 37 = .ok (.aload_n 0, 1) := by decide +kernel
theorem dX10_climb_38 : decode cX10_climb 38 = .ok (.invokevirtual 234, 3) := by decide +kernel
theorem dX10_climb_41 : decode cX10_climb 41 = .ok (.ldc2_w 227, 3) := by decide +kernel
theorem dX10_climb_44 : decode cX10_climb 44 = .ok (.lcmp, 1) := by decide +kernel
theorem dX10_climb_45 : decode cX10_climb 45 = .ok (.ifCond .eq 105, 3) := by decide +kernel
theorem dX10_climb_48 : decode cX10_climb 48 = .ok (.iinc 2 1, 3) := by decide +kernel
theorem dX10_climb_51 : decode cX10_climb 51 = .ok (.iconst 0, 1) := by decide +kernel
theorem dX10_climb_52 : decode cX10_climb 52 = .ok (.istore 4, 2) := by decide +kernel
theorem dX10_climb_54 : decode cX10_climb 54 = .ok (.iload 4, 2) := by decide +kernel
theorem dX10_climb_56 : decode cX10_climb 56 = .ok (.aload_n 0, 1) := by decide +kernel
theorem dX10_climb_57 : decode cX10_climb 57 = .ok (.getfield 107, 3) := by decide +kernel
theorem dX10_climb_60 : decode cX10_climb 60 = .ok (.if_icmp .ge 34, 3) := by decide +kernel
theorem dX10_climb_63 : decode cX10_climb 63 = .ok (.aload_n 0, 1) := by decide +kernel
theorem dX10_climb_64 : decode cX10_climb 64 = .ok (.getfield 48, 3) := by decide +kernel
theorem dX10_climb_67 : decode cX10_climb 67 = .ok (.iload 4, 2) := by decide +kernel
theorem dX10_climb_69 : decode cX10_climb 69 = .ok (.dup2, 1) := by decide +kernel
theorem dX10_climb_70 : decode cX10_climb 70 = .ok (.iaload, 1) := by decide +kernel
theorem dX10_climb_71 : decode cX10_climb 71 = .ok (.aload_n 0, 1) := by decide +kernel
theorem dX10_climb_72 : decode cX10_climb 72 = .ok (.getfield 45, 3) := by decide +kernel
theorem dX10_climb_75 : decode cX10_climb 75 = .ok (.iload 4, 2) := by decide +kernel
theorem dX10_climb_77 : decode cX10_climb 77 = .ok (.baload, 1) := by decide +kernel
theorem dX10_climb_78 : decode cX10_climb 78 = .ok (.ifCond .eq 7, 3) := by decide +kernel
theorem dX10_climb_81 : decode cX10_climb 81 = .ok (.iconst 0, 1) := by decide +kernel
theorem dX10_climb_82 : decode cX10_climb 82 = .ok (.goto 4, 3) := by decide +kernel
theorem dX10_climb_85 : decode cX10_climb 85 = .ok (.iconst 2, 1) := by decide +kernel
theorem dX10_climb_86 : decode cX10_climb 86 = .ok (.isub, 1) := by decide +kernel
theorem dX10_climb_87 : decode cX10_climb 87 = .ok (.iastore, 1) := by decide +kernel
theorem dX10_climb_88 : decode cX10_climb 88 = .ok (.iinc 4 1, 3) := by decide +kernel
theorem dX10_climb_91 : decode cX10_climb 91 = .ok (.goto (-37), 3) := by decide +kernel
theorem dX10_climb_94 : decode cX10_climb 94 = .ok (.iconst 0, 1) := by decide +kernel
theorem dX10_climb_95 : decode cX10_climb 95 = .ok (.istore 4, 2) := by decide +kernel
theorem dX10_climb_97 : decode cX10_climb 97 = .ok (.iload 4, 2) := by decide +kernel
theorem dX10_climb_99 : decode cX10_climb 99 = .ok (.aload_n 0, 1) := by decide +kernel
theorem dX10_climb_100 : decode cX10_climb 100 = .ok (.getfield 214, 3) := by decide +kernel
theorem dX10_climb_103 : decode cX10_climb 103 = .ok (.if_icmp .ge 47, 3) := by decide +kernel
theorem dX10_climb_106 : decode cX10_climb 106 = .ok (.aload_n 0, 1) := by decide +kernel
theorem dX10_climb_107 : decode cX10_climb 107 = .ok (.getfield 48, 3) := by decide +kernel
theorem dX10_climb_110 : decode cX10_climb 110 = .ok (.aload_n 0, 1) := by decide +kernel
theorem dX10_climb_111 : decode cX10_climb 111 = .ok (.getfield 78, 3) := by decide +kernel
theorem dX10_climb_114 : decode cX10_climb 114 = .ok (.iload 4, 2) := by decide +kernel
theorem dX10_climb_116 : decode cX10_climb 116 = .ok (.iaload, 1) := by decide +kernel
theorem dX10_climb_117 : decode cX10_climb 117 = .ok (.bipush 12, 2) := by decide +kernel
theorem dX10_climb_119 : decode cX10_climb 119 = .ok (.idiv, 1) := by decide +kernel
theorem dX10_climb_120 : decode cX10_climb 120 = .ok (.dup2, 1) := by decide +kernel
theorem dX10_climb_121 : decode cX10_climb 121 = .ok (.iaload, 1) := by decide +kernel
theorem dX10_climb_122 : decode cX10_climb 122 = .ok (.iconst 1, 1) := by decide +kernel
theorem dX10_climb_123 : decode cX10_climb 123 = .ok (.iadd, 1) := by decide +kernel
theorem dX10_climb_124 : decode cX10_climb 124 = .ok (.iastore, 1) := by decide +kernel
theorem dX10_climb_125 : decode cX10_climb 125 = .ok (.aload_n 0, 1) := by decide +kernel
theorem dX10_climb_126 : decode cX10_climb 126 = .ok (.getfield 48, 3) := by decide +kernel
theorem dX10_climb_129 : decode cX10_climb 129 = .ok (.aload_n 0, 1) := by decide +kernel
theorem dX10_climb_130 : decode cX10_climb 130 = .ok (.getfield 78, 3) := by decide +kernel
theorem dX10_climb_133 : decode cX10_climb 133 = .ok (.iload 4, 2) := by decide +kernel
theorem dX10_climb_135 : decode cX10_climb 135 = .ok (.iaload, 1) := by decide +kernel
theorem dX10_climb_136 : decode cX10_climb 136 = .ok (.bipush 12, 2) := by decide +kernel
theorem dX10_climb_138 : decode cX10_climb 138 = .ok (.irem, 1) := by decide +kernel
theorem dX10_climb_139 : decode cX10_climb 139 = .ok (.dup2, 1) := by decide +kernel
theorem dX10_climb_140 : decode cX10_climb 140 = .ok (.iaload, 1) := by decide +kernel
theorem dX10_climb_141 : decode cX10_climb 141 = .ok (.iconst 1, 1) := by decide +kernel
theorem dX10_climb_142 : decode cX10_climb 142 = .ok (.iadd, 1) := by decide +kernel
theorem dX10_climb_143 : decode cX10_climb 143 = .ok (.iastore, 1) := by decide +kernel
theorem dX10_climb_144 : decode cX10_climb 144 = .ok (.iinc 4 1, 3) := by decide +kernel
theorem dX10_climb_147 : decode cX10_climb 147 = .ok (.goto (-50), 3) := by decide +kernel
theorem dX10_climb_150 : decode cX10_climb 150 = .ok (.iinc 3 1, 3) := by decide +kernel
theorem dX10_climb_153 : decode cX10_climb 153 = .ok (.goto (-121), 3) := by decide +kernel
theorem dX10_climb_156 : decode cX10_climb 156 = .ok (.iload_n 2, 1) := by decide +kernel
theorem dX10_climb_157 : decode cX10_climb 157 = .ok (.ireturn, 1) := by decide +kernel
set_option maxRecDepth 20000 in
theorem ggX10_bound_X10_lit : GoodIn wsX10_bound wsX10_lit := goodIn_r _ [6, 7, 8, 68, 69, 70, 71, 72, 73, 74, 75, 76, 77, 78, 79, 80, 81, 82, 83, 84, 85, 86, 87, 88, 89, 90, 91, 92, 93, 94, 95, 96, 97, 98, 99, 100, 101, 102, 103] (by decide +kernel) (by decide +kernel)
set_option maxRecDepth 20000 in
theorem gX10_bound_X10_lit : GoodIn wsX10_bound (wsV RX10 142 RX10 yX10_lit wsX10_lit) := goodIn_app (goodIn_of _ (by decide +kernel)) ggX10_bound_X10_lit
set_option maxRecDepth 20000 in
theorem ggX10_bound_X10_freeAll : GoodIn wsX10_bound wsX10_freeAll := goodIn_r _ [12, 13, 68, 69, 70, 71, 72, 73, 74, 75, 76, 77, 78, 79, 80, 81, 82, 83, 84, 85, 86, 87, 88, 89, 90, 91, 92, 93, 94, 95, 96, 97, 98, 99, 100, 101, 102, 103] (by decide +kernel) (by decide +kernel)
set_option maxRecDepth 20000 in
theorem gX10_bound_X10_freeAll : GoodIn wsX10_bound (wsV RX10 231 RX10 yX10_freeAll wsX10_freeAll) := goodIn_app (goodIn_of _ (by decide +kernel)) ggX10_bound_X10_freeAll
set_option maxRecDepth 20000 in
theorem ggX10_bound_X10_tree : GoodIn wsX10_bound wsX10_tree := goodIn_r _ [17, 18, 19, 20, 21, 7, 8, 22, 23, 24, 25, 26, 27, 5, 28, 13, 29, 30, 31, 32, 33, 34, 35, 36, 37, 38, 39, 40, 41, 42, 43, 44, 45, 46, 47, 48, 49, 50, 51, 52, 53, 54, 55, 56, 57, 58, 59, 60, 61, 62, 63, 64, 65, 66, 67, 68, 69, 70, 71, 72, 73, 74, 75, 76, 77, 78, 79, 80, 81, 82, 83, 84, 85, 86, 87, 88, 89, 90, 91, 92, 93, 94, 95, 96, 97, 98, 99, 100, 101, 102, 103] (by decide +kernel) (by decide +kernel)
set_option maxRecDepth 20000 in
theorem gX10_bound_X10_tree : GoodIn wsX10_bound (wsV RX10 234 RX10 yX10_tree wsX10_tree) := goodIn_app (goodIn_of _ (by decide +kernel)) ggX10_bound_X10_tree
theorem dX10_bound_0 : decode cX10_bound 0 = .ok (.aload_n 0, 1) := by decide +kernel
theorem dX10_bound_1 : decode cX10_bound 1 = .ok (.invokevirtual 142, 3) := by decide +kernel
theorem dX10_bound_4 : decode cX10_bound 4 = .ok (.iconst 3, 1) := by decide +kernel
theorem dX10_bound_5 : decode cX10_bound 5 = .ok (.if_icmp .ge 7, 3) := by decide +kernel
theorem dX10_bound_8 : decode cX10_bound 8 = .ok (.ldc2_w 238, 3) := by decide +kernel
theorem dX10_bound_11 : decode cX10_bound 11 = .ok (.lreturn, 1) := by decide +kernel
theorem dX10_bound_12 : decode cX10_bound 12 = .ok (.aload_n 0, 1) := by decide +kernel
theorem dX10_bound_13 : decode cX10_bound 13 = .ok (.invokevirtual 231, 3) := by decide +kernel
theorem dX10_bound_16 : decode cX10_bound 16 = .ok (.aload_n 0, 1) := by decide +kernel
theorem dX10_bound_17 : decode cX10_bound 17 = .ok (.invokevirtual 234, 3) := by decide +kernel
theorem dX10_bound_20 : decode cX10_bound 20 = .ok (.lreturn, 1) := by decide +kernel
set_option maxRecDepth 20000 in
theorem ggX10_taken_X10_lit : GoodIn wsX10_taken wsX10_lit := goodIn_r _ [7, 8, 9, 67, 68, 69, 70, 71, 72, 73, 74, 75, 76, 77, 78, 79, 80, 81, 82, 83, 84, 85, 86, 87, 88, 89, 90, 91, 92, 93, 94, 95, 96, 97, 98, 99, 100, 101, 102] (by decide +kernel) (by decide +kernel)
set_option maxRecDepth 20000 in
theorem gX10_taken_X10_lit : GoodIn wsX10_taken (wsV RX10 142 RX10 yX10_lit wsX10_lit) := goodIn_app (goodIn_of _ (by decide +kernel)) ggX10_taken_X10_lit
set_option maxRecDepth 20000 in
theorem ggX10_taken_X10_freeAll : GoodIn wsX10_taken wsX10_freeAll := goodIn_r _ [13, 14, 67, 68, 69, 70, 71, 72, 73, 74, 75, 76, 77, 78, 79, 80, 81, 82, 83, 84, 85, 86, 87, 88, 89, 90, 91, 92, 93, 94, 95, 96, 97, 98, 99, 100, 101, 102] (by decide +kernel) (by decide +kernel)
set_option maxRecDepth 20000 in
theorem gX10_taken_X10_freeAll : GoodIn wsX10_taken (wsV RX10 231 RX10 yX10_freeAll wsX10_freeAll) := goodIn_app (goodIn_of _ (by decide +kernel)) ggX10_taken_X10_freeAll
set_option maxRecDepth 20000 in
theorem ggX10_taken_X10_tree : GoodIn wsX10_taken wsX10_tree := goodIn_r _ [18, 1, 19, 20, 2, 8, 9, 21, 22, 23, 24, 25, 26, 6, 27, 14, 28, 29, 30, 31, 32, 33, 34, 35, 36, 37, 38, 39, 40, 41, 42, 43, 44, 45, 46, 47, 48, 49, 50, 51, 52, 53, 54, 55, 56, 57, 58, 59, 60, 61, 62, 63, 64, 65, 66, 67, 68, 69, 70, 71, 72, 73, 74, 75, 76, 77, 78, 79, 80, 81, 82, 83, 84, 85, 86, 87, 88, 89, 90, 91, 92, 93, 94, 95, 96, 97, 98, 99, 100, 101, 102] (by decide +kernel) (by decide +kernel)
set_option maxRecDepth 20000 in
theorem gX10_taken_X10_tree : GoodIn wsX10_taken (wsV RX10 234 RX10 yX10_tree wsX10_tree) := goodIn_app (goodIn_of _ (by decide +kernel)) ggX10_taken_X10_tree
theorem dX10_taken_0 : decode cX10_taken 0 = .ok (.aload_n 0, 1) := by decide +kernel
theorem dX10_taken_1 : decode cX10_taken 1 = .ok (.invokevirtual 142, 3) := by decide +kernel
theorem dX10_taken_4 : decode cX10_taken 4 = .ok (.iconst 3, 1) := by decide +kernel
theorem dX10_taken_5 : decode cX10_taken 5 = .ok (.if_icmp .ge 5, 3) := by decide +kernel
theorem dX10_taken_8 : decode cX10_taken 8 = .ok (.iconst (-1), 1) := by decide +kernel
theorem dX10_taken_9 : decode cX10_taken 9 = .ok (.ireturn, 1) := by decide +kernel
theorem dX10_taken_10 : decode cX10_taken 10 = .ok (.aload_n 0, 1) := by decide +kernel
theorem dX10_taken_11 : decode cX10_taken 11 = .ok (.invokevirtual 231, 3) := by decide +kernel
theorem dX10_taken_14 : decode cX10_taken 14 = .ok (.aload_n 0, 1) := by decide +kernel
theorem dX10_taken_15 : decode cX10_taken 15 = .ok (.invokevirtual 234, 3) := by decide +kernel
theorem dX10_taken_18 : decode cX10_taken 18 = .ok (.lstore_n 2, 1) := by decide +kernel
theorem dX10_taken_19 : decode cX10_taken 19 = .ok (.iload_n 1, 1) := by decide +kernel
theorem dX10_taken_20 : decode cX10_taken 20 = .ok (.ifCond .lt 11, 3) := by decide +kernel
theorem dX10_taken_23 : decode cX10_taken 23 = .ok (.iload_n 1, 1) := by decide +kernel
theorem dX10_taken_24 : decode cX10_taken 24 = .ok (.aload_n 0, 1) := by decide +kernel
theorem dX10_taken_25 : decode cX10_taken 25 = .ok (.getfield 214, 3) := by decide +kernel
theorem dX10_taken_28 : decode cX10_taken 28 = .ok (.if_icmp .lt 7, 3) := by decide +kernel
theorem dX10_taken_31 : decode cX10_taken 31 = .ok (.iconst (-1), 1) := by decide +kernel
theorem dX10_taken_32 : decode cX10_taken 32 = .ok (.goto 25, 3) := by decide +kernel
theorem dX10_taken_35 : decode cX10_taken 35 = .ok (.bipush 16, 2) := by decide +kernel
theorem dX10_taken_37 : decode cX10_taken 37 = .ok (.aload_n 0, 1) := by decide +kernel
theorem dX10_taken_38 : decode cX10_taken 38 = .ok (.getfield 78, 3) := by decide +kernel
theorem dX10_taken_41 : decode cX10_taken 41 = .ok (.iload_n 1, 1) := by decide +kernel
theorem dX10_taken_42 : decode cX10_taken 42 = .ok (.iaload, 1) := by decide +kernel
theorem dX10_taken_43 : decode cX10_taken 43 = .ok (.bipush 12, 2) := by decide +kernel
theorem dX10_taken_45 : decode cX10_taken 45 = .ok (.idiv, 1) := by decide +kernel
theorem dX10_taken_46 : decode cX10_taken 46 = .ok (.imul, 1) := by decide +kernel
theorem dX10_taken_47 : decode cX10_taken 47 = .ok (.aload_n 0, 1) := by decide +kernel
theorem dX10_taken_48 : decode cX10_taken 48 = .ok (.getfield 78, 3) := by decide +kernel
theorem dX10_taken_51 : decode cX10_taken 51 = .ok (.iload_n 1, 1) := by decide +kernel
theorem dX10_taken_52 : decode cX10_taken 52 = .ok (.iaload, 1) := by decide +kernel
theorem dX10_taken_53 : decode cX10_taken 53 = .ok (.bipush 12, 2) := by decide +kernel
theorem dX10_taken_55 : decode cX10_taken 55 = .ok (.irem, 1) := by decide +kernel
theorem dX10_taken_56 : decode cX10_taken 56 = .ok (.iadd, 1) := by decide +kernel
theorem dX10_taken_57 : decode cX10_taken 57 = .ok (.ireturn, 1) := by decide +kernel
theorem dX10_pushCase_0 : decode cX10_pushCase 0 = .ok (.iconst 0, 1) := by decide +kernel
theorem dX10_pushCase_1 : decode cX10_pushCase 1 = .ok (.istore_n 1, 1) := by decide +kernel
theorem dX10_pushCase_2 : decode cX10_pushCase 2 = .ok (.iload_n 1, 1) := by decide +kernel
theorem dX10_pushCase_3 : decode cX10_pushCase 3 = .ok (.sipush 144, 3) := by decide +kernel
theorem dX10_pushCase_6 : decode cX10_pushCase 6 = .ok (.if_icmp .ge 30, 3) := by decide +kernel
theorem dX10_pushCase_9 : decode cX10_pushCase 9 = .ok (.aload_n 0, 1) := by decide +kernel
theorem dX10_pushCase_10 : decode cX10_pushCase 10 = .ok (.getfield 84, 3) := by decide +kernel
theorem dX10_pushCase_13 : decode cX10_pushCase 13 = .ok (.sipush 144, 3) := by decide +kernel
theorem dX10_pushCase_16 : decode cX10_pushCase 16 = .ok (.aload_n 0, 1) := by decide +kernel
theorem dX10_pushCase_17 : decode cX10_pushCase 17 = .ok (.getfield 240, 3) := by decide +kernel
theorem dX10_pushCase_20 : decode cX10_pushCase 20 = .ok (.imul, 1) := by decide +kernel
theorem dX10_pushCase_21 : decode cX10_pushCase 21 = .ok (.iload_n 1, 1) := by decide +kernel
theorem dX10_pushCase_22 : decode cX10_pushCase 22 = .ok (.iadd, 1) := by decide +kernel
theorem dX10_pushCase_23 : decode cX10_pushCase 23 = .ok (.aload_n 0, 1) := by decide +kernel
theorem dX10_pushCase_24 : decode cX10_pushCase 24 = .ok (.getfield 72, 3) := by decide +kernel
theorem dX10_pushCase_27 : decode cX10_pushCase 27 = .ok (.iload_n 1, 1) := by decide +kernel
theorem dX10_pushCase_28 : decode cX10_pushCase 28 = .ok (.iaload, 1) := by decide +kernel
theorem dX10_pushCase_29 : decode cX10_pushCase 29 = .ok (.iastore, 1) := by decide +kernel
theorem dX10_pushCase_30 : decode cX10_pushCase 30 = .ok (.iinc 1 1, 3) := by decide +kernel
theorem dX10_pushCase_33 : decode cX10_pushCase 33 = .ok (.goto (-31), 3) := by decide +kernel
theorem dX10_pushCase_36 : decode cX10_pushCase 36 = .ok (.aload_n 0, 1) := by decide +kernel
theorem dX10_pushCase_37 : decode cX10_pushCase 37 = .ok (.dup, 1) := by decide +kernel
theorem dX10_pushCase_38 : decode cX10_pushCase 38 = .ok (.getfield 240, 3) := by decide +kernel
theorem dX10_pushCase_41 : decode cX10_pushCase 41 = .ok (.iconst 1, 1) := by decide +kernel
theorem dX10_pushCase_42 : decode cX10_pushCase 42 = .ok (.iadd, 1) := by decide +kernel
theorem dX10_pushCase_43 : decode cX10_pushCase 43 = .ok (.putfield 240, 3) := by decide +kernel
theorem dX10_pushCase_46 : decode cX10_pushCase 46 = .ok (.return_, 1) := by decide +kernel
theorem dX10_popCase_0 : decode cX10_popCase 0 = .ok (.aload_n 0, 1) := by decide +kernel
theorem dX10_popCase_1 : decode cX10_popCase 1 = .ok (.dup, 1) := by decide +kernel
theorem dX10_popCase_2 : decode cX10_popCase 2 = .ok (.getfield 240, 3) := by decide +kernel
theorem dX10_popCase_5 : decode cX10_popCase 5 = .ok (.iconst 1, 1) := by decide +kernel
theorem dX10_popCase_6 : decode cX10_popCase 6 = .ok (.isub, 1) := by decide +kernel
theorem dX10_popCase_7 : decode cX10_popCase 7 = .ok (.putfield 240, 3) := by decide +kernel
theorem dX10_popCase_10 : decode cX10_popCase 10 = .ok (.iconst 0, 1) := by decide +kernel
theorem dX10_popCase_11 : decode cX10_popCase 11 = .ok (.istore_n 1, 1) := by decide +kernel
theorem dX10_popCase_12 : decode cX10_popCase 12 = .ok (.iload_n 1, 1) := by decide +kernel
theorem dX10_popCase_13 : decode cX10_popCase 13 = .ok (.sipush 144, 3) := by decide +kernel
theorem dX10_popCase_16 : decode cX10_popCase 16 = .ok (.if_icmp .ge 30, 3) := by decide +kernel
theorem dX10_popCase_19 : decode cX10_popCase 19 = .ok (.aload_n 0, 1) := by decide +kernel
theorem dX10_popCase_20 : decode cX10_popCase 20 = .ok (.getfield 72, 3) := by decide +kernel
theorem dX10_popCase_23 : decode cX10_popCase 23 = .ok (.iload_n 1, 1) := by decide +kernel
theorem dX10_popCase_24 : decode cX10_popCase 24 = .ok (.aload_n 0, 1) := by decide +kernel
theorem dX10_popCase_25 : decode cX10_popCase 25 = .ok (.getfield 84, 3) := by decide +kernel
theorem dX10_popCase_28 : decode cX10_popCase 28 = .ok (.sipush 144, 3) := by decide +kernel
theorem dX10_popCase_31 : decode cX10_popCase 31 = .ok (.aload_n 0, 1) := by decide +kernel
theorem dX10_popCase_32 : decode cX10_popCase 32 = .ok (.getfield 240, 3) := by decide +kernel
theorem dX10_popCase_35 : decode cX10_popCase 35 = .ok (.imul, 1) := by decide +kernel
theorem dX10_popCase_36 : decode cX10_popCase 36 = .ok (.iload_n 1, 1) := by decide +kernel
theorem dX10_popCase_37 : decode cX10_popCase 37 = .ok (.iadd, 1) := by decide +kernel
theorem dX10_popCase_38 : decode cX10_popCase 38 = .ok (.iaload, 1) := by decide +kernel
theorem dX10_popCase_39 : decode cX10_popCase 39 = .ok (.iastore, 1) := by decide +kernel
theorem dX10_popCase_40 : decode cX10_popCase 40 = .ok (.iinc 1 1, 3) := by decide +kernel
theorem dX10_popCase_43 : decode cX10_popCase 43 = .ok (.goto (-31), 3) := by decide +kernel
theorem dX10_popCase_46 : decode cX10_popCase 46 = .ok (.return_, 1) := by decide +kernel
set_option maxRecDepth 20000 in
theorem ggX10_joinedOf_X10_isLit : GoodIn wsX10_joinedOf wsX10_isLit := goodIn_r _ [7, 8, 9, 10, 11, 6, 12, 1, 16, 17, 18, 19, 20, 21, 22, 23, 24, 25, 26, 27, 28, 29, 30, 31, 32, 33, 34, 35, 36, 37, 38, 39, 40, 41, 42, 43, 44, 45, 46, 47, 48, 49, 50, 51] (by decide +kernel) (by decide +kernel)
set_option maxRecDepth 20000 in
theorem gX10_joinedOf_X10_isLit : GoodIn wsX10_joinedOf (wsV RX10 186 RX10 yX10_isLit wsX10_isLit) := goodIn_app (goodIn_of _ (by decide +kernel)) ggX10_joinedOf_X10_isLit
set_option maxRecDepth 20000 in
theorem ggX10_joinedOf_X10_pairOf : GoodIn wsX10_joinedOf wsX10_pairOf := goodIn_r _ [15] (by decide +kernel) (by decide +kernel)
set_option maxRecDepth 20000 in
theorem gX10_joinedOf_X10_pairOf : GoodIn wsX10_joinedOf (va_wsS RX10 243 yX10_pairOf wsX10_pairOf) := goodIn_app (goodIn_of _ (by decide +kernel)) ggX10_joinedOf_X10_pairOf
theorem dX10_joinedOf_0 : decode cX10_joinedOf 0 = .ok (.iconst 0, 1) := by decide +kernel
theorem dX10_joinedOf_1 : decode cX10_joinedOf 1 = .ok (.istore_n 2, 1) := by decide +kernel
theorem dX10_joinedOf_2 : decode cX10_joinedOf 2 = .ok (.iconst 0, 1) := by decide +kernel
theorem dX10_joinedOf_3 : decode cX10_joinedOf 3 = .ok (.istore_n 3, 1) := by decide +kernel
theorem dX10_joinedOf_4 : decode cX10_joinedOf 4 = .ok (.iload_n 3, 1) := by decide +kernel
theorem dX10_joinedOf_5 : decode cX10_joinedOf 5 = .ok (.aload_n 0, 1) := by decide +kernel
theorem dX10_joinedOf_6 : decode cX10_joinedOf 6 = .ok (.getfield 107, 3) := by decide +kernel
theorem dX10_joinedOf_9 : decode cX10_joinedOf 9 = .ok (.if_icmp .ge 44, 3) := by decide +kernel
theorem dX10_joinedOf_12 : decode cX10_joinedOf 12 = .ok (.iload_n 2, 1) := by decide +kernel
theorem dX10_joinedOf_13 : decode cX10_joinedOf 13 = .ok (.iload_n 3, 1) := by decide +kernel
theorem dX10_joinedOf_14 : decode cX10_joinedOf 14 = .ok (.iload_n 1, 1) := by decide +kernel
theorem dX10_joinedOf_15 : decode cX10_joinedOf 15 = .ok (.if_icmp .eq 29, 3) := by decide +kernel
theorem dX10_joinedOf_18 : decode cX10_joinedOf 18 = .ok (.aload_n 0, 1) := by decide +kernel
theorem dX10_joinedOf_19 : decode cX10_joinedOf 19 = .ok (.iload_n 3, 1) := by decide +kernel
theorem dX10_joinedOf_20 : decode cX10_joinedOf 20 = .ok (.invokevirtual 186, 3) := by decide +kernel
theorem dX10_joinedOf_23 : decode cX10_joinedOf 23 = .ok (.ifCond .eq 21, 3) := by decide +kernel
theorem dX10_joinedOf_26 : decode cX10_joinedOf 26 = .ok (.aload_n 0, 1) := by decide +kernel
theorem dX10_joinedOf_27 : decode cX10_joinedOf 27 = .ok (.getfield 72, 3) := by decide +kernel
theorem dX10_joinedOf_30 : decode cX10_joinedOf 30 = .ok (.iload_n 1, 1) := by decide +kernel
theorem dX10_joinedOf_31 : decode cX10_joinedOf 31 = .ok (.iload_n 3, 1) := by decide +kernel
theorem dX10_joinedOf_32 : decode cX10_joinedOf 32 = .ok (.invokestatic 243, 3) := by decide +kernel
theorem dX10_joinedOf_35 : decode cX10_joinedOf 35 = .ok (.iaload, 1) := by decide +kernel
theorem dX10_joinedOf_36 : decode cX10_joinedOf 36 = .ok (.iconst 1, 1) := by decide +kernel
theorem dX10_joinedOf_37 : decode cX10_joinedOf 37 = .ok (.if_icmp .ne 7, 3) := by decide +kernel
theorem dX10_joinedOf_40 : decode cX10_joinedOf 40 = .ok (.iconst 1, 1) := by decide +kernel
theorem dX10_joinedOf_41 : decode cX10_joinedOf 41 = .ok (.goto 4, 3) := by decide +kernel
theorem dX10_joinedOf_44 : decode cX10_joinedOf 44 = .ok (.iconst 0, 1) := by decide +kernel
theorem dX10_joinedOf_45 : decode cX10_joinedOf 45 = .ok (.iadd, 1) := by decide +kernel
theorem dX10_joinedOf_46 : decode cX10_joinedOf 46 = .ok (.istore_n 2, 1) := by decide +kernel
theorem dX10_joinedOf_47 : decode cX10_joinedOf 47 = .ok (.iinc 3 1, 3) := by decide +kernel
theorem dX10_joinedOf_50 : decode cX10_joinedOf 50 = .ok (.goto (-46), 3) := by decide +kernel
theorem dX10_joinedOf_53 : decode cX10_joinedOf 53 = .ok (.iload_n 2, 1) := by decide +kernel
theorem dX10_joinedOf_54 : decode cX10_joinedOf 54 = .ok (.ireturn, 1) := by decide +kernel
set_option maxRecDepth 20000 in
theorem ggX10_isFew_X10_isLit : GoodIn wsX10_isFew wsX10_isLit := goodIn_r _ [7, 8, 9, 10, 11, 6, 12, 1, 16, 17, 18, 19, 20, 21, 22, 23, 24, 25, 26, 27, 28, 29, 30, 31, 32, 33, 34, 35, 36, 37, 38, 39, 40, 41, 42, 43, 44, 45, 46, 47, 48, 49, 50, 51] (by decide +kernel) (by decide +kernel)
set_option maxRecDepth 20000 in
theorem gX10_isFew_X10_isLit : GoodIn wsX10_isFew (wsV RX10 186 RX10 yX10_isLit wsX10_isLit) := goodIn_app (goodIn_of _ (by decide +kernel)) ggX10_isFew_X10_isLit
set_option maxRecDepth 20000 in
theorem ggX10_isFew_X10_pairOf : GoodIn wsX10_isFew wsX10_pairOf := goodIn_r _ [15] (by decide +kernel) (by decide +kernel)
set_option maxRecDepth 20000 in
theorem gX10_isFew_X10_pairOf : GoodIn wsX10_isFew (va_wsS RX10 243 yX10_pairOf wsX10_pairOf) := goodIn_app (goodIn_of _ (by decide +kernel)) ggX10_isFew_X10_pairOf
theorem dX10_isFew_0 : decode cX10_isFew 0 = .ok (.aload_n 0, 1) := by decide +kernel
theorem dX10_isFew_1 : decode cX10_isFew 1 = .ok (.iload_n 1, 1) := by decide +kernel
theorem dX10_isFew_2 : decode cX10_isFew 2 = .ok (.invokevirtual 186, 3) := by decide +kernel
theorem dX10_isFew_5 : decode cX10_isFew 5 = .ok (.ifCond .ne 5, 3) := by decide +kernel
theorem dX10_isFew_8 : decode cX10_isFew 8 = .ok (.iconst 0, 1) := by decide +kernel
theorem dX10_isFew_9 : decode cX10_isFew 9 = .ok (.ireturn, 1) := by decide +kernel
theorem dX10_isFew_10 : decode cX10_isFew 10 = .ok (.iconst 0, 1) := by decide +kernel
theorem dX10_isFew_11 : decode cX10_isFew 11 = .ok (.istore_n 2, 1) := by decide +kernel
theorem dX10_isFew_12 : decode cX10_isFew 12 = .ok (.iconst 0, 1) := by decide +kernel
theorem dX10_isFew_13 : decode cX10_isFew 13 = .ok (.istore_n 3, 1) := by decide +kernel
theorem dX10_isFew_14 : decode cX10_isFew 14 = .ok (.iload_n 3, 1) := by decide +kernel
theorem dX10_isFew_15 : decode cX10_isFew 15 = .ok (.aload_n 0, 1) := by decide +kernel
theorem dX10_isFew_16 : decode cX10_isFew 16 = .ok (.getfield 107, 3) := by decide +kernel
theorem dX10_isFew_19 : decode cX10_isFew 19 = .ok (.if_icmp .ge 44, 3) := by decide +kernel
theorem dX10_isFew_22 : decode cX10_isFew 22 = .ok (.iload_n 2, 1) := by decide +kernel
theorem dX10_isFew_23 : decode cX10_isFew 23 = .ok (.iload_n 3, 1) := by decide +kernel
theorem dX10_isFew_24 : decode cX10_isFew 24 = .ok (.iload_n 1, 1) := by decide +kernel
theorem dX10_isFew_25 : decode cX10_isFew 25 = .ok (.if_icmp .eq 29, 3) := by decide +kernel
theorem dX10_isFew_28 : decode cX10_isFew 28 = .ok (.aload_n 0, 1) := by decide +kernel
theorem dX10_isFew_29 : decode cX10_isFew 29 = .ok (.iload_n 3, 1) := by decide +kernel
theorem dX10_isFew_30 : decode cX10_isFew 30 = .ok (.invokevirtual 186, 3) := by decide +kernel
theorem dX10_isFew_33 : decode cX10_isFew 33 = .ok (.ifCond .eq 21, 3) := by decide +kernel
theorem dX10_isFew_36 : decode cX10_isFew 36 = .ok (.aload_n 0, 1) := by decide +kernel
theorem dX10_isFew_37 : decode cX10_isFew 37 = .ok (.getfield 72, 3) := by decide +kernel
theorem dX10_isFew_40 : decode cX10_isFew 40 = .ok (.iload_n 1, 1) := by decide +kernel
theorem dX10_isFew_41 : decode cX10_isFew 41 = .ok (.iload_n 3, 1) := by decide +kernel
theorem dX10_isFew_42 : decode cX10_isFew 42 = .ok (.invokestatic 243, 3) := by decide +kernel
theorem dX10_isFew_45 : decode cX10_isFew 45 = .ok (.iaload, 1) := by decide +kernel
theorem dX10_isFew_46 : decode cX10_isFew 46 = .ok (.iconst 2, 1) := by decide +kernel
theorem dX10_isFew_47 : decode cX10_isFew 47 = .ok (.if_icmp .eq 7, 3) := by decide +kernel
theorem dX10_isFew_50 : decode cX10_isFew 50 = .ok (.iconst 1, 1) := by decide +kernel
theorem dX10_isFew_51 : decode cX10_isFew 51 = .ok (.goto 4, 3) := by decide +kernel
theorem dX10_isFew_54 : decode cX10_isFew 54 = .ok (.iconst 0, 1) := by decide +kernel
theorem dX10_isFew_55 : decode cX10_isFew 55 = .ok (.iadd, 1) := by decide +kernel
theorem dX10_isFew_56 : decode cX10_isFew 56 = .ok (.istore_n 2, 1) := by decide +kernel
theorem dX10_isFew_57 : decode cX10_isFew 57 = .ok (.iinc 3 1, 3) := by decide +kernel
theorem dX10_isFew_60 : decode cX10_isFew 60 = .ok (.goto (-46), 3) := by decide +kernel
theorem dX10_isFew_63 : decode cX10_isFew 63 = .ok (.iload_n 2, 1) := by decide +kernel
theorem dX10_isFew_64 : decode cX10_isFew 64 = .ok (.iconst 2, 1) := by decide +kernel
theorem dX10_isFew_65 : decode cX10_isFew 65 = .ok (.if_icmp .ge 7, 3) := by decide +kernel
theorem dX10_isFew_68 : decode cX10_isFew 68 = .ok (.iconst 1, 1) := by decide +kernel
theorem dX10_isFew_69 : decode cX10_isFew 69 = .ok (.goto 4, 3) := by decide +kernel
theorem dX10_isFew_72 : decode cX10_isFew 72 = .ok (.iconst 0, 1) := by decide +kernel
theorem dX10_isFew_73 : decode cX10_isFew 73 = .ok (.ireturn, 1) := by decide +kernel
set_option maxRecDepth 20000 in
theorem ggX10_isMany_X10_isLit : GoodIn wsX10_isMany wsX10_isLit := goodIn_r _ [5, 6, 7, 8, 9, 4, 10, 11, 20, 21, 22, 23, 24, 25, 26, 27, 28, 29, 30, 31, 32, 33, 34, 35, 36, 37, 38, 39, 40, 41, 42, 43, 44, 45, 46, 47, 48, 49, 50, 51, 52, 53, 54, 55] (by decide +kernel) (by decide +kernel)
set_option maxRecDepth 20000 in
theorem gX10_isMany_X10_isLit : GoodIn wsX10_isMany (wsV RX10 186 RX10 yX10_isLit wsX10_isLit) := goodIn_app (goodIn_of _ (by decide +kernel)) ggX10_isMany_X10_isLit
set_option maxRecDepth 20000 in
theorem ggX10_isMany_X10_joinedOf : GoodIn wsX10_isMany wsX10_joinedOf := goodIn_r _ [15, 11, 16, 1, 2, 3, 4, 5, 6, 7, 8, 9, 10, 17, 18, 19, 20, 21, 22, 23, 24, 25, 26, 27, 28, 29, 30, 31, 32, 33, 34, 35, 36, 37, 38, 39, 40, 41, 42, 43, 44, 45, 46, 47, 48, 49, 50, 51, 52, 53, 54, 55] (by decide +kernel) (by decide +kernel)
set_option maxRecDepth 20000 in
theorem gX10_isMany_X10_joinedOf : GoodIn wsX10_isMany (wsV RX10 246 RX10 yX10_joinedOf wsX10_joinedOf) := goodIn_app (goodIn_of _ (by decide +kernel)) ggX10_isMany_X10_joinedOf
theorem dX10_isMany_0 : decode cX10_isMany 0 = .ok (.aload_n 0, 1) := by decide +kernel
theorem dX10_isMany_1 : decode cX10_isMany 1 = .ok (.iload_n 1, 1) := by decide +kernel
theorem dX10_isMany_2 : decode cX10_isMany 2 = .ok (.invokevirtual 186, 3) := by decide +kernel
theorem dX10_isMany_5 : decode cX10_isMany 5 = .ok (.ifCond .eq 16, 3) := by decide +kernel
theorem dX10_isMany_8 : decode cX10_isMany 8 = .ok (.aload_n 0, 1) := by decide +kernel
theorem dX10_isMany_9 : decode cX10_isMany 9 = .ok (.iload_n 1, 1) := by decide +kernel
theorem dX10_isMany_10 : decode cX10_isMany 10 = .ok (.invokevirtual 246, 3) := by decide +kernel
theorem dX10_isMany_13 : decode cX10_isMany 13 = .ok (.iconst 2, 1) := by decide +kernel
theorem dX10_isMany_14 : decode cX10_isMany 14 = .ok (.if_icmp .le 7, 3) := by decide +kernel
theorem dX10_isMany_17 : decode cX10_isMany 17 = .ok (.iconst 1, 1) := by decide +kernel
theorem dX10_isMany_18 : decode cX10_isMany 18 = .ok (.goto 4, 3) := by decide +kernel
theorem dX10_isMany_21 : decode cX10_isMany 21 = .ok (.iconst 0, 1) := by decide +kernel
theorem dX10_isMany_22 : decode cX10_isMany 22 = .ok (.ireturn, 1) := by decide +kernel
set_option maxRecDepth 20000 in
theorem ggX10_isRing_X10_isLit : GoodIn wsX10_isRing wsX10_isLit := goodIn_r _ [9, 4, 10, 11, 12, 8, 13, 3, 25, 26, 27, 28, 29, 30, 31, 32, 33, 34, 35, 36, 37, 38, 39, 40, 41, 42, 43, 44, 45, 46, 47, 48, 49, 50, 51, 52, 53, 54, 55, 56, 57, 58, 59, 60] (by decide +kernel) (by decide +kernel)
set_option maxRecDepth 20000 in
theorem gX10_isRing_X10_isLit : GoodIn wsX10_isRing (wsV RX10 186 RX10 yX10_isLit wsX10_isLit) := goodIn_app (goodIn_of _ (by decide +kernel)) ggX10_isRing_X10_isLit
set_option maxRecDepth 20000 in
theorem ggX10_isRing_X10_isPair : GoodIn wsX10_isRing wsX10_isPair := goodIn_r _ [17, 5, 6, 7, 8, 9, 4, 10, 11, 12, 13, 3, 25, 26, 27, 28, 29, 30, 31, 32, 33, 34, 35, 36, 37, 38, 39, 40, 41, 42, 43, 44, 45, 46, 47, 48, 49, 50, 51, 52, 53, 54, 55, 56, 57, 58, 59, 60] (by decide +kernel) (by decide +kernel)
set_option maxRecDepth 20000 in
theorem gX10_isRing_X10_isPair : GoodIn wsX10_isRing (wsV RX10 204 RX10 yX10_isPair wsX10_isPair) := goodIn_app (goodIn_of _ (by decide +kernel)) ggX10_isRing_X10_isPair
set_option maxRecDepth 20000 in
theorem ggX10_isRing_X10_joinedOf : GoodIn wsX10_isRing wsX10_joinedOf := goodIn_r _ [21, 3, 2, 5, 6, 7, 8, 9, 4, 10, 11, 12, 13, 22, 23, 24, 25, 26, 27, 28, 29, 30, 31, 32, 33, 34, 35, 36, 37, 38, 39, 40, 41, 42, 43, 44, 45, 46, 47, 48, 49, 50, 51, 52, 53, 54, 55, 56, 57, 58, 59, 60] (by decide +kernel) (by decide +kernel)
set_option maxRecDepth 20000 in
theorem gX10_isRing_X10_joinedOf : GoodIn wsX10_isRing (wsV RX10 246 RX10 yX10_joinedOf wsX10_joinedOf) := goodIn_app (goodIn_of _ (by decide +kernel)) ggX10_isRing_X10_joinedOf
theorem dX10_isRing_0 : decode cX10_isRing 0 = .ok (.aload_n 0, 1) := by decide +kernel
theorem dX10_isRing_1 : decode cX10_isRing 1 = .ok (.iload_n 1, 1) := by decide +kernel
theorem dX10_isRing_2 : decode cX10_isRing 2 = .ok (.invokevirtual 186, 3) := by decide +kernel
theorem dX10_isRing_5 : decode cX10_isRing 5 = .ok (.ifCond .ne 5, 3) := by decide +kernel
theorem dX10_isRing_8 : decode cX10_isRing 8 = .ok (.iconst 0, 1) := by decide +kernel
theorem dX10_isRing_9 : decode cX10_isRing 9 = .ok (.ireturn, 1) := by decide +kernel
theorem dX10_isRing_10 : decode cX10_isRing 10 = .ok (.iconst 0, 1) := by decide +kernel
theorem dX10_isRing_11 : decode cX10_isRing 11 = .ok (.istore_n 2, 1) := by decide +kernel
theorem dX10_isRing_12 : decode cX10_isRing 12 = .ok (.iload_n 2, 1) := by decide +kernel
theorem dX10_isRing_13 : decode cX10_isRing 13 = .ok (.bipush 12, 2) := by decide +kernel
theorem dX10_isRing_15 : decode cX10_isRing 15 = .ok (.if_icmp .ge 25, 3) := by decide +kernel
theorem dX10_isRing_18 : decode cX10_isRing 18 = .ok (.aload_n 0, 1) := by decide +kernel
theorem dX10_isRing_19 : decode cX10_isRing 19 = .ok (.getfield 87, 3) := by decide +kernel
theorem dX10_isRing_22 : decode cX10_isRing 22 = .ok (.iload_n 2, 1) := by decide +kernel
theorem dX10_isRing_23 : decode cX10_isRing 23 = .ok (.iload_n 2, 1) := by decide +kernel
theorem dX10_isRing_24 : decode cX10_isRing 24 = .ok (.iload_n 1, 1) := by decide +kernel
theorem dX10_isRing_25 : decode cX10_isRing 25 = .ok (.if_icmp .ne 7, 3) := by decide +kernel
theorem dX10_isRing_28 : decode cX10_isRing 28 = .ok (.iconst 1, 1) := by decide +kernel
theorem dX10_isRing_29 : decode cX10_isRing 29 = .ok (.goto 4, 3) := by decide +kernel
theorem dX10_isRing_32 : decode cX10_isRing 32 = .ok (.iconst 0, 1) := by decide +kernel
theorem dX10_isRing_33 : decode cX10_isRing 33 = .ok (.bastore, 1) := by decide +kernel
theorem dX10_isRing_34 : decode cX10_isRing 34 = .ok (.iinc 2 1, 3) := by decide +kernel
theorem dX10_isRing_37 : decode cX10_isRing 37 = .ok (.goto (-25), 3) := by decide +kernel
theorem dX10_isRing_40 : decode cX10_isRing 40 = .ok (.iconst 1, 1) := by decide +kernel
theorem dX10_isRing_41 : decode cX10_isRing 41 = .ok (.istore_n 2, 1) := by decide +kernel
theorem dX10_isRing_42 : decode cX10_isRing 42 = .ok (.iload_n 2, 1) := by decide +kernel
theorem dX10_isRing_43 : decode cX10_isRing 43 = .ok (.ifCond .eq 84, 3) := by decide +kernel
theorem dX10_isRing_46 : decode cX10_isRing 46 = .ok (.iconst 0, 1) := by decide +kernel
theorem dX10_isRing_47 : decode cX10_isRing 47 = .ok (.istore_n 2, 1) := by decide +kernel
theorem dX10_isRing_48 : decode cX10_isRing 48 = .ok (.iconst 0, 1) := by decide +kernel
theorem dX10_isRing_49 : decode cX10_isRing 49 = .ok (.istore_n 3, 1) := by decide +kernel
theorem dX10_isRing_50 : decode cX10_isRing 50 = .ok (.iload_n 3, 1) := by decide +kernel
theorem dX10_isRing_51 : decode cX10_isRing 51 = .ok (.sipush 144, 3) := by decide +kernel
theorem dX10_isRing_54 : decode cX10_isRing 54 = .ok (.if_icmp .ge 70, 3) := by decide +kernel
theorem dX10_isRing_57 : decode cX10_isRing 57 = .ok (.aload_n 0, 1) := by decide +kernel
theorem dX10_isRing_58 : decode cX10_isRing 58 = .ok (.iload_n 3, 1) := by decide +kernel
theorem dX10_isRing_59 : decode cX10_isRing 59 = .ok (.invokevirtual 204, 3) := by decide +kernel
theorem dX10_isRing_62 : decode cX10_isRing 62 = .ok (.ifCond .eq 56, 3) := by decide +kernel
theorem dX10_isRing_65 : decode cX10_isRing 65 = .ok (.aload_n 0, 1) := by decide +kernel
theorem dX10_isRing_66 : decode cX10_isRing 66 = .ok (.getfield 72, 3) := by decide +kernel
theorem dX10_isRing_69 : decode cX10_isRing 69 = .ok (.iload_n 3, 1) := by decide +kernel
theorem dX10_isRing_70 : decode cX10_isRing 70 = .ok (.iaload, 1) := by decide +kernel
theorem dX10_isRing_71 : decode cX10_isRing 71 = .ok (.iconst 1, 1) := by decide +kernel
theorem dX10_isRing_72 : decode cX10_isRing 72 = .ok (.if_icmp .ne 46, 3) := by decide +kernel
theorem dX10_isRing_75 : decode cX10_isRing 75 = .ok (.aload_n 0, 1) := by decide +kernel
theorem dX10_isRing_76 : decode cX10_isRing 76 = .ok (.getfield 87, 3) := by decide +kernel
theorem dX10_isRing_79 : decode cX10_isRing 79 = .ok (.iload_n 3, 1) := by decide +kernel
theorem dX10_isRing_80 : decode cX10_isRing 80 = .ok (.bipush 12, 2) := by decide +kernel
theorem dX10_isRing_82 : decode cX10_isRing 82 = .ok (.idiv, 1) := by decide +kernel
theorem dX10_isRing_83 : decode cX10_isRing 83 = .ok (.baload, 1) := by decide +kernel
theorem dX10_isRing_84 : decode cX10_isRing 84 = .ok (.aload_n 0, 1) := by decide +kernel
theorem dX10_isRing_85 : decode cX10_isRing 85 = .ok (.getfield 87, 3) := by decide +kernel
theorem dX10_isRing_88 : decode cX10_isRing 88 = .ok (.iload_n 3, 1) := by decide +kernel
theorem dX10_isRing_89 : decode cX10_isRing 89 = .ok (.bipush 12, 2) := by decide +kernel
theorem dX10_isRing_91 : decode cX10_isRing 91 = .ok (.irem, 1) := by decide +kernel
theorem dX10_isRing_92 : decode cX10_isRing 92 = .ok (.baload, 1) := by decide +kernel
theorem dX10_isRing_93 : decode cX10_isRing 93 = .ok (.if_icmp .eq 25, 3) := by decide +kernel
theorem dX10_isRing_96 : decode cX10_isRing 96 = .ok (.aload_n 0, 1) := by decide +kernel
theorem dX10_isRing_97 : decode cX10_isRing 97 = .ok (.getfield 87, 3) := by decide +kernel
theorem dX10_isRing_100 : decode cX10_isRing 100 = .ok (.iload_n 3, 1) := by decide +kernel
theorem dX10_isRing_101 : decode cX10_isRing 101 = .ok (.bipush 12, 2) := by decide +kernel
theorem dX10_isRing_103 : decode cX10_isRing 103 = .ok (.idiv, 1) := by decide +kernel
theorem dX10_isRing_104 : decode cX10_isRing 104 = .ok (.iconst 1, 1) := by decide +kernel
theorem dX10_isRing_105 : decode cX10_isRing 105 = .ok (.bastore, 1) := by decide +kernel
theorem dX10_isRing_106 : decode cX10_isRing 106 = .ok (.aload_n 0, 1) := by decide +kernel
theorem dX10_isRing_107 : decode cX10_isRing 107 = .ok (.getfield 87, 3) := by decide +kernel
theorem dX10_isRing_110 : decode cX10_isRing 110 = .ok (.iload_n 3, 1) := by decide +kernel
theorem dX10_isRing_111 : decode cX10_isRing 111 = .ok (.bipush 12, 2) := by decide +kernel
theorem dX10_isRing_113 : decode cX10_isRing 113 = .ok (.irem, 1) := by decide +kernel
theorem dX10_isRing_114 : decode cX10_isRing 114 = .ok (.iconst 1, 1) := by decide +kernel
theorem dX10_isRing_115 : decode cX10_isRing 115 = .ok (.bastore, 1) := by decide +kernel
theorem dX10_isRing_116 : decode cX10_isRing 116 = .ok (.iconst 1, 1) := by decide +kernel
theorem dX10_isRing_117 : decode cX10_isRing 117 = .ok (.istore_n 2, 1) := by decide +kernel
theorem dX10_isRing_118 : decode cX10_isRing 118 = .ok (.iinc 3 1, 3) := by decide +kernel
theorem dX10_isRing_121 : decode cX10_isRing 121 = .ok (.goto (-71), 3) := by decide +kernel
theorem dX10_isRing_124 : decode cX10_isRing 124 = .ok (.goto (-82), 3) := by decide +kernel
theorem dX10_isRing_127 : decode cX10_isRing 127 = .ok (.iconst 1, 1) := by decide +kernel
theorem dX10_isRing_128 : decode cX10_isRing 128 = .ok (.istore_n 3, 1) := by decide +kernel
theorem dX10_isRing_129 : decode cX10_isRing 129 = .ok (.iconst 1, 1) := by decide +kernel
theorem dX10_isRing_130 : decode cX10_isRing 130 = .ok (.istore 4, 2) := by decide +kernel
theorem dX10_isRing_132 : decode cX10_isRing 132 = .ok (.iconst 0, 1) := by decide +kernel
theorem dX10_isRing_133 : decode cX10_isRing 133 = .ok (.istore 5, 2) := by decide +kernel
theorem dX10_isRing_135 : decode cX10_isRing 135 = .ok (.iload 5, 2) := by decide +kernel
theorem dX10_isRing_137 : decode cX10_isRing 137 = .ok (.aload_n 0, 1) := by decide +kernel
theorem dX10_isRing_138 : decode cX10_isRing 138 = .ok (.getfield 107, 3) := by decide +kernel
theorem dX10_isRing_141 : decode cX10_isRing 141 = .ok (.if_icmp .ge 67, 3) := by decide +kernel
theorem dX10_isRing_144 : decode cX10_isRing 144 = .ok (.iload_n 3, 1) := by decide +kernel
theorem dX10_isRing_145 : decode cX10_isRing 145 = .ok (.aload_n 0, 1) := by decide +kernel
theorem dX10_isRing_146 : decode cX10_isRing 146 = .ok (.getfield 45, 3) := by decide +kernel
theorem dX10_isRing_149 : decode cX10_isRing 149 = .ok (.iload 5, 2) := by decide +kernel
theorem dX10_isRing_151 : decode cX10_isRing 151 = .ok (.baload, 1) := by decide +kernel
theorem dX10_isRing_152 : decode cX10_isRing 152 = .ok (.ifCond .ne 13, 3) := by decide +kernel
theorem dX10_isRing_155 : decode cX10_isRing 155 = .ok (.aload_n 0, 1) := by decide +kernel
theorem dX10_isRing_156 : decode cX10_isRing 156 = .ok (.getfield 87, 3) := by decide +kernel
theorem dX10_isRing_159 : decode cX10_isRing 159 = .ok (.iload 5, 2) := by decide +kernel
theorem dX10_isRing_161 : decode cX10_isRing 161 = .ok (.baload, 1) := by decide +kernel
theorem dX10_isRing_162 : decode cX10_isRing 162 = .ok (.ifCond .eq 7, 3) := by decide +kernel
theorem dX10_isRing_165 : decode cX10_isRing 165 = .ok (.iconst 1, 1) := by decide +kernel
theorem dX10_isRing_166 : decode cX10_isRing 166 = .ok (.goto 4, 3) := by decide +kernel
theorem dX10_isRing_169 : decode cX10_isRing 169 = .ok (.iconst 0, 1) := by decide +kernel
theorem dX10_isRing_170 : decode cX10_isRing 170 = .ok (.iand, 1) := by decide +kernel
theorem dX10_isRing_171 : decode cX10_isRing 171 = .ok (.istore_n 3, 1) := by decide +kernel
theorem dX10_isRing_172 : decode cX10_isRing 172 = .ok (.iload 4, 2) := by decide +kernel
theorem dX10_isRing_174 : decode cX10_isRing 174 = .ok (.aload_n 0, 1) := by decide +kernel
theorem dX10_isRing_175 : decode cX10_isRing 175 = .ok (.getfield 87, 3) := by decide +kernel
theorem dX10_isRing_178 : decode cX10_isRing 178 = .ok (.iload 5, 2) := by decide +kernel
theorem dX10_isRing_180 : decode cX10_isRing 180 = .ok (.baload, 1) := by decide +kernel
theorem dX10_isRing_181 : decode cX10_isRing 181 = .ok (.ifCond .eq 13, 3) := by decide +kernel
theorem dX10_isRing_184 : decode cX10_isRing 184 = .ok (.aload_n 0, 1) := by decide +kernel
theorem dX10_isRing_185 : decode cX10_isRing 185 = .ok (.iload 5, 2) := by decide +kernel
theorem dX10_isRing_187 : decode cX10_isRing 187 = .ok (.invokevirtual 246, 3) := by decide +kernel
theorem dX10_isRing_190 : decode cX10_isRing 190 = .ok (.iconst 2, 1) := by decide +kernel
theorem dX10_isRing_191 : decode cX10_isRing 191 = .ok (.if_icmp .ne 7, 3) := by decide +kernel
theorem dX10_isRing_194 : decode cX10_isRing 194 = .ok (.iconst 1, 1) := by decide +kernel
theorem dX10_isRing_195 : decode cX10_isRing 195 = .ok (.goto 4, 3) := by decide +kernel
theorem dX10_isRing_198 : decode cX10_isRing 198 = .ok (.iconst 0, 1) := by decide +kernel
theorem dX10_isRing_199 : decode cX10_isRing 199 = .ok (.iand, 1) := by decide +kernel
theorem dX10_isRing_200 : decode cX10_isRing 200 = .ok (.istore 4, 2) := by decide +kernel
theorem dX10_isRing_202 : decode cX10_isRing 202 = .ok (.iinc 5 1, 3) := by decide +kernel
theorem dX10_isRing_205 : decode cX10_isRing 205 = .ok (.goto (-70), 3) := by decide +kernel
theorem dX10_isRing_208 : decode cX10_isRing 208 = .ok (.iload 4, 2) := by decide +kernel
theorem dX10_isRing_210 : decode cX10_isRing 210 = .ok (.ifCond .eq 11, 3) := by decide +kernel
theorem dX10_isRing_213 : decode cX10_isRing 213 = .ok (.iload_n 3, 1) := by decide +kernel
theorem dX10_isRing_214 : decode cX10_isRing 214 = .ok (.ifCond .ne 7, 3) := by decide +kernel
theorem dX10_isRing_217 : decode cX10_isRing 217 = .ok (.iconst 1, 1) := by decide +kernel
theorem dX10_isRing_218 : decode cX10_isRing 218 = .ok (.goto 4, 3) := by decide +kernel
theorem dX10_isRing_221 : decode cX10_isRing 221 = .ok (.iconst 0, 1) := by decide +kernel
theorem dX10_isRing_222 : decode cX10_isRing 222 = .ok (.ireturn, 1) := by decide +kernel
set_option maxRecDepth 20000 in
theorem ggX10_isTwins_X10_isLit : GoodIn wsX10_isTwins wsX10_isLit := goodIn_r _ [6, 7, 8, 9, 10, 5, 11, 12, 29, 30, 31, 32, 33, 34, 35, 36, 37, 38, 39, 40, 41, 42, 43, 44, 45, 46, 47, 48, 49, 50, 51, 52, 53, 54, 55, 56, 57, 58, 59, 60, 61, 62, 63, 64] (by decide +kernel) (by decide +kernel)
set_option maxRecDepth 20000 in
theorem gX10_isTwins_X10_isLit : GoodIn wsX10_isTwins (wsV RX10 186 RX10 yX10_isLit wsX10_isLit) := goodIn_app (goodIn_of _ (by decide +kernel)) ggX10_isTwins_X10_isLit
set_option maxRecDepth 20000 in
theorem ggX10_isTwins_X10_twinOf : GoodIn wsX10_isTwins wsX10_twinOf := goodIn_r _ [16, 17, 18, 12, 19, 20, 21, 22, 5, 23, 24, 25, 29, 30, 31, 32, 33, 34, 35, 36, 37, 38, 39, 40, 41, 42, 43, 44, 45, 46, 47, 48, 49, 50, 51, 52, 53, 54, 55, 56, 57, 58, 59, 60, 61, 62, 63, 64] (by decide +kernel) (by decide +kernel)
set_option maxRecDepth 20000 in
theorem gX10_isTwins_X10_twinOf : GoodIn wsX10_isTwins (wsV RX10 137 RX10 yX10_twinOf wsX10_twinOf) := goodIn_app (goodIn_of _ (by decide +kernel)) ggX10_isTwins_X10_twinOf
set_option maxRecDepth 20000 in
theorem ggX10_isTwins_X10_pairOf : GoodIn wsX10_isTwins wsX10_pairOf := goodIn_r _ [28] (by decide +kernel) (by decide +kernel)
set_option maxRecDepth 20000 in
theorem gX10_isTwins_X10_pairOf : GoodIn wsX10_isTwins (va_wsS RX10 243 yX10_pairOf wsX10_pairOf) := goodIn_app (goodIn_of _ (by decide +kernel)) ggX10_isTwins_X10_pairOf
theorem dX10_isTwins_0 : decode cX10_isTwins 0 = .ok (.aload_n 0, 1) := by decide +kernel
theorem dX10_isTwins_1 : decode cX10_isTwins 1 = .ok (.iload_n 1, 1) := by decide +kernel
theorem dX10_isTwins_2 : decode cX10_isTwins 2 = .ok (.invokevirtual 186, 3) := by decide +kernel
theorem dX10_isTwins_5 : decode cX10_isTwins 5 = .ok (.ifCond .eq 52, 3) := by decide +kernel
theorem dX10_isTwins_8 : decode cX10_isTwins 8 = .ok (.aload_n 0, 1) := by decide +kernel
theorem dX10_isTwins_9 : decode cX10_isTwins 9 = .ok (.iload_n 2, 1) := by decide +kernel
theorem dX10_isTwins_10 : decode cX10_isTwins 10 = .ok (.invokevirtual 186, 3) := by decide +kernel
theorem dX10_isTwins_13 : decode cX10_isTwins 13 = .ok (.ifCond .eq 44, 3) := by decide +kernel
theorem dX10_isTwins_16 : decode cX10_isTwins 16 = .ok (.iload_n 1, 1) := by decide +kernel
theorem dX10_isTwins_17 : decode cX10_isTwins 17 = .ok (.iload_n 2, 1) := by decide +kernel
theorem dX10_isTwins_18 : decode cX10_isTwins 18 = .ok (.if_icmp .eq 39, 3) := by decide +kernel
theorem dX10_isTwins_21 : decode cX10_isTwins 21 = .ok (.aload_n 0, 1) := by decide +kernel
theorem dX10_isTwins_22 : decode cX10_isTwins 22 = .ok (.iload_n 1, 1) := by decide +kernel
theorem dX10_isTwins_23 : decode cX10_isTwins 23 = .ok (.invokevirtual 137, 3) := by decide +kernel
theorem dX10_isTwins_26 : decode cX10_isTwins 26 = .ok (.iload_n 2, 1) := by decide +kernel
theorem dX10_isTwins_27 : decode cX10_isTwins 27 = .ok (.if_icmp .eq 12, 3) := by decide +kernel
theorem dX10_isTwins_30 : decode cX10_isTwins 30 = .ok (.aload_n 0, 1) := by decide +kernel
theorem dX10_isTwins_31 : decode cX10_isTwins 31 = .ok (.iload_n 2, 1) := by decide +kernel
theorem dX10_isTwins_32 : decode cX10_isTwins 32 = .ok (.invokevirtual 137, 3) := by decide +kernel
theorem dX10_isTwins_35 : decode cX10_isTwins 35 = .ok (.iload_n 1, 1) := by decide +kernel
theorem dX10_isTwins_36 : decode cX10_isTwins 36 = .ok (.if_icmp .ne 21, 3) := by decide +kernel
theorem dX10_isTwins_39 : decode cX10_isTwins 39 = .ok (.aload_n 0, 1) := by decide +kernel
theorem dX10_isTwins_40 : decode cX10_isTwins 40 = .ok (.getfield 72, 3) := by decide +kernel
theorem dX10_isTwins_43 : decode cX10_isTwins 43 = .ok (.iload_n 1, 1) := by decide +kernel
theorem dX10_isTwins_44 : decode cX10_isTwins 44 = .ok (.iload_n 2, 1) := by decide +kernel
theorem dX10_isTwins_45 : decode cX10_isTwins 45 = .ok (.invokestatic 243, 3) := by decide +kernel
theorem dX10_isTwins_48 : decode cX10_isTwins 48 = .ok (.iaload, 1) := by decide +kernel
theorem dX10_isTwins_49 : decode cX10_isTwins 49 = .ok (.iconst 2, 1) := by decide +kernel
theorem dX10_isTwins_50 : decode cX10_isTwins 50 = .ok (.if_icmp .ne 7, 3) := by decide +kernel
theorem dX10_isTwins_53 : decode cX10_isTwins 53 = .ok (.iconst 1, 1) := by decide +kernel
theorem dX10_isTwins_54 : decode cX10_isTwins 54 = .ok (.goto 4, 3) := by decide +kernel
theorem dX10_isTwins_57 : decode cX10_isTwins 57 = .ok (.iconst 0, 1) := by decide +kernel
theorem dX10_isTwins_58 : decode cX10_isTwins 58 = .ok (.ireturn, 1) := by decide +kernel
set_option maxRecDepth 20000 in
theorem ggX10_isPart_X10_isLit : GoodIn wsX10_isPart wsX10_isLit := goodIn_r _ [6, 7, 8, 9, 10, 5, 11, 12, 16, 17, 18, 19, 20, 21, 22, 23, 24, 25, 26, 27, 28, 29, 30, 31, 32, 33, 34, 35, 36, 37, 38, 39, 40, 41, 42, 43, 44, 45, 46, 47, 48, 49, 50, 51] (by decide +kernel) (by decide +kernel)
set_option maxRecDepth 20000 in
theorem gX10_isPart_X10_isLit : GoodIn wsX10_isPart (wsV RX10 186 RX10 yX10_isLit wsX10_isLit) := goodIn_app (goodIn_of _ (by decide +kernel)) ggX10_isPart_X10_isLit
set_option maxRecDepth 20000 in
theorem ggX10_isPart_X10_pairOf : GoodIn wsX10_isPart wsX10_pairOf := goodIn_r _ [15] (by decide +kernel) (by decide +kernel)
set_option maxRecDepth 20000 in
theorem gX10_isPart_X10_pairOf : GoodIn wsX10_isPart (va_wsS RX10 243 yX10_pairOf wsX10_pairOf) := goodIn_app (goodIn_of _ (by decide +kernel)) ggX10_isPart_X10_pairOf
theorem dX10_isPart_0 : decode cX10_isPart 0 = .ok (.iload_n 1, 1) := by decide +kernel
theorem dX10_isPart_1 : decode cX10_isPart 1 = .ok (.iload_n 2, 1) := by decide +kernel
theorem dX10_isPart_2 : decode cX10_isPart 2 = .ok (.if_icmp .ge 36, 3) := by decide +kernel
theorem dX10_isPart_5 : decode cX10_isPart 5 = .ok (.aload_n 0, 1) := by decide +kernel
theorem dX10_isPart_6 : decode cX10_isPart 6 = .ok (.iload_n 1, 1) := by decide +kernel
theorem dX10_isPart_7 : decode cX10_isPart 7 = .ok (.invokevirtual 186, 3) := by decide +kernel
theorem dX10_isPart_10 : decode cX10_isPart 10 = .ok (.ifCond .eq 28, 3) := by decide +kernel
theorem dX10_isPart_13 : decode cX10_isPart 13 = .ok (.aload_n 0, 1) := by decide +kernel
theorem dX10_isPart_14 : decode cX10_isPart 14 = .ok (.iload_n 2, 1) := by decide +kernel
theorem dX10_isPart_15 : decode cX10_isPart 15 = .ok (.invokevirtual 186, 3) := by decide +kernel
theorem dX10_isPart_18 : decode cX10_isPart 18 = .ok (.ifCond .eq 20, 3) := by decide +kernel
theorem dX10_isPart_21 : decode cX10_isPart 21 = .ok (.aload_n 0, 1) := by decide +kernel
theorem dX10_isPart_22 : decode cX10_isPart 22 = .ok (.getfield 72, 3) := by decide +kernel
theorem dX10_isPart_25 : decode cX10_isPart 25 = .ok (.iload_n 1, 1) := by decide +kernel
theorem dX10_isPart_26 : decode cX10_isPart 26 = .ok (.iload_n 2, 1) := by decide +kernel
theorem dX10_isPart_27 : decode cX10_isPart 27 = .ok (.invokestatic 243, 3) := by decide +kernel
theorem dX10_isPart_30 : decode cX10_isPart 30 = .ok (.iaload, 1) := by decide +kernel
