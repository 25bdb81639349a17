theorem dX10_init_71 : decode cX10_init 71 = .ok (.newarray .int, 2) := by decide +kernel
theorem dX10_init_73 : decode cX10_init 73 = .ok (.putfield 36, 3) := by decide +kernel
theorem dX10_init_76 : decode cX10_init 76 = .ok (.aload_n 0, 1) := by decide +kernel
theorem dX10_init_77 : decode cX10_init 77 = .ok (.bipush 12, 2) := by decide +kernel
theorem dX10_init_79 : decode cX10_init 79 = .ok (.newarray .int, 2) := by decide +kernel
theorem dX10_init_81 : decode cX10_init 81 = .ok (.putfield 39, 3) := by decide +kernel
theorem dX10_init_84 : decode cX10_init 84 = .ok (.aload_n 0, 1) := by decide +kernel
theorem dX10_init_85 : decode cX10_init 85 = .ok (.bipush 12, 2) := by decide +kernel
theorem dX10_init_87 : decode cX10_init 87 = .ok (.newarray .int, 2) := by decide +kernel
theorem dX10_init_89 : decode cX10_init 89 = .ok (.putfield 42, 3) := by decide +kernel
theorem dX10_init_92 : decode cX10_init 92 = .ok (.aload_n 0, 1) := by decide +kernel
theorem dX10_init_93 : decode cX10_init 93 = .ok (.bipush 12, 2) := by decide +kernel
theorem dX10_init_95 : decode cX10_init 95 = .ok (.newarray .boolean, 2) := by decide +kernel
theorem dX10_init_97 : decode cX10_init 97 = .ok (.putfield 45, 3) := by decide +kernel
theorem dX10_init_100 : decode cX10_init 100 = .ok (.aload_n 0, 1) := by decide +kernel
theorem dX10_init_101 : decode cX10_init 101 = .ok (.bipush 12, 2) := by decide +kernel
theorem dX10_init_103 : decode cX10_init 103 = .ok (.newarray .int, 2) := by decide +kernel
theorem dX10_init_105 : decode cX10_init 105 = .ok (.putfield 48, 3) := by decide +kernel
theorem dX10_init_108 : decode cX10_init 108 = .ok (.aload_n 0, 1) := by decide +kernel
theorem dX10_init_109 : decode cX10_init 109 = .ok (.bipush 12, 2) := by decide +kernel
theorem dX10_init_111 : decode cX10_init 111 = .ok (.newarray .int, 2) := by decide +kernel
theorem dX10_init_113 : decode cX10_init 113 = .ok (.putfield 51, 3) := by decide +kernel
theorem dX10_init_116 : decode cX10_init 116 = .ok (.aload_n 0, 1) := by decide +kernel
theorem dX10_init_117 : decode cX10_init 117 = .ok (.sipush 400, 3) := by decide +kernel
theorem dX10_init_120 : decode cX10_init 120 = .ok (.newarray .int, 2) := by decide +kernel
theorem dX10_init_122 : decode cX10_init 122 = .ok (.putfield 54, 3) := by decide +kernel
theorem dX10_init_125 : decode cX10_init 125 = .ok (.aload_n 0, 1) := by decide +kernel
theorem dX10_init_126 : decode cX10_init 126 = .ok (.sipush 400, 3) := by decide +kernel
theorem dX10_init_129 : decode cX10_init 129 = .ok (.newarray .int, 2) := by decide +kernel
theorem dX10_init_131 : decode cX10_init 131 = .ok (.putfield 57, 3) := by decide +kernel
theorem dX10_init_134 : decode cX10_init 134 = .ok (.aload_n 0, 1) := by decide +kernel
theorem dX10_init_135 : decode cX10_init 135 = .ok (.sipush 400, 3) := by decide +kernel
theorem dX10_init_138 : decode cX10_init 138 = .ok (.newarray .int, 2) := by decide +kernel
theorem dX10_init_140 : decode cX10_init 140 = .ok (.putfield 60, 3) := by decide +kernel
theorem dX10_init_143 : decode cX10_init 143 = .ok (.aload_n 0, 1) := by decide +kernel
theorem dX10_init_144 : decode cX10_init 144 = .ok (.bipush 12, 2) := by decide +kernel
theorem dX10_init_146 : decode cX10_init 146 = .ok (.newarray .int, 2) := by decide +kernel
theorem dX10_init_148 : decode cX10_init 148 = .ok (.putfield 63, 3) := by decide +kernel
theorem dX10_init_151 : decode cX10_init 151 = .ok (.aload_n 0, 1) := by decide +kernel
theorem dX10_init_152 : decode cX10_init 152 = .ok (.bipush 12, 2) := by decide +kernel
theorem dX10_init_154 : decode cX10_init 154 = .ok (.newarray .int, 2) := by decide +kernel
theorem dX10_init_156 : decode cX10_init 156 = .ok (.putfield 66, 3) := by decide +kernel
theorem dX10_init_159 : decode cX10_init 159 = .ok (.aload_n 0, 1) := by decide +kernel
theorem dX10_init_160 : decode cX10_init 160 = .ok (.bipush 12, 2) := by decide +kernel
theorem dX10_init_162 : decode cX10_init 162 = .ok (.newarray .int, 2) := by decide +kernel
theorem dX10_init_164 : decode cX10_init 164 = .ok (.putfield 69, 3) := by decide +kernel
theorem dX10_init_167 : decode cX10_init 167 = .ok (.aload_n 0, 1) := by decide +kernel
theorem dX10_init_168 : decode cX10_init 168 = .ok (.sipush 144, 3) := by decide +kernel
theorem dX10_init_171 : decode cX10_init 171 = .ok (.newarray .int, 2) := by decide +kernel
theorem dX10_init_173 : decode cX10_init 173 = .ok (.putfield 72, 3) := by decide +kernel
theorem dX10_init_176 : decode cX10_init 176 = .ok (.aload_n 0, 1) := by decide +kernel
theorem dX10_init_177 : decode cX10_init 177 = .ok (.bipush 12, 2) := by decide +kernel
theorem dX10_init_179 : decode cX10_init 179 = .ok (.newarray .int, 2) := by decide +kernel
theorem dX10_init_181 : decode cX10_init 181 = .ok (.putfield 75, 3) := by decide +kernel
theorem dX10_init_184 : decode cX10_init 184 = .ok (.aload_n 0, 1) := by decide +kernel
theorem dX10_init_185 : decode cX10_init 185 = .ok (.bipush 24, 2) := by decide +kernel
theorem dX10_init_187 : decode cX10_init 187 = .ok (.newarray .int, 2) := by decide +kernel
theorem dX10_init_189 : decode cX10_init 189 = .ok (.putfield 78, 3) := by decide +kernel
theorem dX10_init_192 : decode cX10_init 192 = .ok (.aload_n 0, 1) := by decide +kernel
theorem dX10_init_193 : decode cX10_init 193 = .ok (.sipush 144, 3) := by decide +kernel
theorem dX10_init_196 : decode cX10_init 196 = .ok (.newarray .boolean, 2) := by decide +kernel
theorem dX10_init_198 : decode cX10_init 198 = .ok (.putfield 81, 3) := by decide +kernel
theorem dX10_init_201 : decode cX10_init 201 = .ok (.aload_n 0, 1) := by decide +kernel
theorem dX10_init_202 : decode cX10_init 202 = .ok (.sipush 11520, 3) := by decide +kernel
theorem dX10_init_205 : decode cX10_init 205 = .ok (.newarray .int, 2) := by decide +kernel
theorem dX10_init_207 : decode cX10_init 207 = .ok (.putfield 84, 3) := by decide +kernel
theorem dX10_init_210 : decode cX10_init 210 = .ok (.aload_n 0, 1) := by decide +kernel
theorem dX10_init_211 : decode cX10_init 211 = .ok (.bipush 12, 2) := by decide +kernel
theorem dX10_init_213 : decode cX10_init 213 = .ok (.newarray .boolean, 2) := by decide +kernel
theorem dX10_init_215 : decode cX10_init 215 = .ok (.putfield 87, 3) := by decide +kernel
theorem dX10_init_218 : decode cX10_init 218 = .ok (.aload_n 0, 1) := by decide +kernel
theorem dX10_init_219 : decode cX10_init 219 = .ok (.sipush 400, 3) := by decide +kernel
theorem dX10_init_222 : decode cX10_init 222 = .ok (.newarray .int, 2) := by decide +kernel
theorem dX10_init_224 : decode cX10_init 224 = .ok (.putfield 90, 3) := by decide +kernel
theorem dX10_init_227 : decode cX10_init 227 = .ok (.aload_n 0, 1) := by decide +kernel
theorem dX10_init_228 : decode cX10_init 228 = .ok (.sipush 400, 3) := by decide +kernel
theorem dX10_init_231 : decode cX10_init 231 = .ok (.newarray .int, 2) := by decide +kernel
theorem dX10_init_233 : decode cX10_init 233 = .ok (.putfield 93, 3) := by decide +kernel
theorem dX10_init_236 : decode cX10_init 236 = .ok (.aload_n 0, 1) := by decide +kernel
theorem dX10_init_237 : decode cX10_init 237 = .ok (.sipush 400, 3) := by decide +kernel
theorem dX10_init_240 : decode cX10_init 240 = .ok (.newarray .int, 2) := by decide +kernel
theorem dX10_init_242 : decode cX10_init 242 = .ok (.putfield 96, 3) := by decide +kernel
theorem dX10_init_245 : decode cX10_init 245 = .ok (.iconst 0, 1) := by decide +kernel
theorem dX10_init_246 : decode cX10_init 246 = .ok (.istore_n 1, 1) := by decide +kernel
theorem dX10_init_247 : decode cX10_init 247 = .ok (.iload_n 1, 1) := by decide +kernel
theorem dX10_init_248 : decode cX10_init 248 = .ok (.iconst 4, 1) := by decide +kernel
theorem dX10_init_249 : decode cX10_init 249 = .ok (.if_icmp .ge 16, 3) := by decide +kernel
theorem dX10_init_252 : decode cX10_init 252 = .ok (.aload_n 0, 1) := by decide +kernel
theorem dX10_init_253 : decode cX10_init 253 = .ok (.getfield 26, 3) := by decide +kernel
theorem dX10_init_256 : decode cX10_init 256 = .ok (.iload_n 1, 1) := by decide +kernel
theorem dX10_init_257 : decode cX10_init 257 = .ok (.iconst (-1), 1) := by decide +kernel
theorem dX10_init_258 : decode cX10_init 258 = .ok (.iastore, 1) := by decide +kernel
theorem dX10_init_259 : decode cX10_init 259 = .ok (.iinc 1 1, 3) := by decide +kernel
theorem dX10_init_262 : decode cX10_init 262 = .ok (.goto (-15), 3) := by decide +kernel
theorem dX10_init_265 : decode cX10_init 265 = .ok (.aload_n 0, 1) := by decide +kernel
theorem dX10_init_266 : decode cX10_init 266 = .ok (.invokevirtual 99, 3) := by decide +kernel
theorem dX10_init_269 : decode cX10_init 269 = .ok (.return_, 1) := by decide +kernel
theorem dX10_work_0 : decode cX10_work 0 = .ok (.iconst 0, 1) := by decide +kernel
theorem dX10_work_1 : decode cX10_work 1 = .ok (.istore_n 1, 1) := by decide +kernel
theorem dX10_work_2 : decode cX10_work 2 = .ok (.iload_n 1, 1) := by decide +kernel
theorem dX10_work_3 : decode cX10_work 3 = .ok (.sipush 1600, 3) := by decide +kernel
theorem dX10_work_6 : decode cX10_work 6 = .ok (.if_icmp .ge 32, 3) := by decide +kernel
theorem dX10_work_9 : decode cX10_work 9 = .ok (.aload_n 0, 1) := by decide +kernel
theorem dX10_work_10 : decode cX10_work 10 = .ok (.getfield 33, 3) := by decide +kernel
theorem dX10_work_13 : decode cX10_work 13 = .ok (.iload_n 1, 1) := by decide +kernel
theorem dX10_work_14 : decode cX10_work 14 = .ok (.iload_n 1, 1) := by decide +kernel
theorem dX10_work_15 : decode cX10_work 15 = .ok (.bipush 40, 2) := by decide +kernel
theorem dX10_work_17 : decode cX10_work 17 = .ok (.idiv, 1) := by decide +kernel
theorem dX10_work_18 : decode cX10_work 18 = .ok (.iload_n 1, 1) := by decide +kernel
theorem dX10_work_19 : decode cX10_work 19 = .ok (.bipush 40, 2) := by decide +kernel
theorem dX10_work_21 : decode cX10_work 21 = .ok (.irem, 1) := by decide +kernel
theorem dX10_work_22 : decode cX10_work 22 = .ok (.if_icmp .ne 7, 3) := by decide +kernel
theorem dX10_work_25 : decode cX10_work 25 = .ok (.iconst 0, 1) := by decide +kernel
theorem dX10_work_26 : decode cX10_work 26 = .ok (.goto 5, 3) := by decide +kernel
theorem dX10_work_29 : decode cX10_work 29 = .ok (.ldc 102, 2) := by decide +kernel
theorem dX10_work_31 : decode cX10_work 31 = .ok (.iastore, 1) := by decide +kernel
theorem dX10_work_32 : decode cX10_work 32 = .ok (.iinc 1 1, 3) := by decide +kernel
theorem dX10_work_35 : decode cX10_work 35 = .ok (.goto (-33), 3) := by decide +kernel
theorem dX10_work_38 : decode cX10_work 38 = .ok (.iconst 0, 1) := by decide +kernel
theorem dX10_work_39 : decode cX10_work 39 = .ok (.istore_n 1, 1) := by decide +kernel
theorem dX10_work_40 : decode cX10_work 40 = .ok (.iload_n 1, 1) := by decide +kernel
theorem dX10_work_41 : decode cX10_work 41 = .ok (.aload_n 0, 1) := by decide +kernel
theorem dX10_work_42 : decode cX10_work 42 = .ok (.getfield 103, 3) := by decide +kernel
theorem dX10_work_45 : decode cX10_work 45 = .ok (.if_icmp .ge 100, 3) := by decide +kernel
theorem dX10_work_48 : decode cX10_work 48 = .ok (.aload_n 0, 1) := by decide +kernel
theorem dX10_work_49 : decode cX10_work 49 = .ok (.getfield 19, 3) := by decide +kernel
theorem dX10_work_52 : decode cX10_work 52 = .ok (.iload_n 1, 1) := by decide +kernel
theorem dX10_work_53 : decode cX10_work 53 = .ok (.baload, 1) := by decide +kernel
theorem dX10_work_54 : decode cX10_work 54 = .ok (.ifCond .eq 85, 3) := by decide +kernel
theorem dX10_work_57 : decode cX10_work 57 = .ok (.bipush 40, 2) := by decide +kernel
theorem dX10_work_59 : decode cX10_work 59 = .ok (.aload_n 0, 1) := by decide +kernel
theorem dX10_work_60 : decode cX10_work 60 = .ok (.getfield 7, 3) := by decide +kernel
theorem dX10_work_63 : decode cX10_work 63 = .ok (.iload_n 1, 1) := by decide +kernel
theorem dX10_work_64 : decode cX10_work 64 = .ok (.iaload, 1) := by decide +kernel
theorem dX10_work_65 : decode cX10_work 65 = .ok (.imul, 1) := by decide +kernel
theorem dX10_work_66 : decode cX10_work 66 = .ok (.aload_n 0, 1) := by decide +kernel
theorem dX10_work_67 : decode cX10_work 67 = .ok (.getfield 13, 3) := by decide +kernel
theorem dX10_work_70 : decode cX10_work 70 = .ok (.iload_n 1, 1) := by decide +kernel
theorem dX10_work_71 : decode cX10_work 71 = .ok (.iaload, 1) := by decide +kernel
theorem dX10_work_72 : decode cX10_work 72 = .ok (.iadd, 1) := by decide +kernel
theorem dX10_work_73 : decode cX10_work 73 = .ok (.istore_n 2, 1) := by decide +kernel
theorem dX10_work_74 : decode cX10_work 74 = .ok (.bipush 40, 2) := by decide +kernel
theorem dX10_work_76 : decode cX10_work 76 = .ok (.aload_n 0, 1) := by decide +kernel
theorem dX10_work_77 : decode cX10_work 77 = .ok (.getfield 13, 3) := by decide +kernel
theorem dX10_work_80 : decode cX10_work 80 = .ok (.iload_n 1, 1) := by decide +kernel
theorem dX10_work_81 : decode cX10_work 81 = .ok (.iaload, 1) := by decide +kernel
theorem dX10_work_82 : decode cX10_work 82 = .ok (.imul, 1) := by decide +kernel
theorem dX10_work_83 : decode cX10_work 83 = .ok (.aload_n 0, 1) := by decide +kernel
theorem dX10_work_84 : decode cX10_work 84 = .ok (.getfield 7, 3) := by decide +kernel
theorem dX10_work_87 : decode cX10_work 87 = .ok (.iload_n 1, 1) := by decide +kernel
theorem dX10_work_88 : decode cX10_work 88 = .ok (.iaload, 1) := by decide +kernel
theorem dX10_work_89 : decode cX10_work 89 = .ok (.iadd, 1) := by decide +kernel
theorem dX10_work_90 : decode cX10_work 90 = .ok (.istore_n 3, 1) := by decide +kernel
theorem dX10_work_91 : decode cX10_work 91 = .ok (.aload_n 0, 1) := by decide +kernel
theorem dX10_work_92 : decode cX10_work 92 = .ok (.getfield 33, 3) := by decide +kernel
theorem dX10_work_95 : decode cX10_work 95 = .ok (.iload_n 2, 1) := by decide +kernel
theorem dX10_work_96 : decode cX10_work 96 = .ok (.aload_n 0, 1) := by decide +kernel
theorem dX10_work_97 : decode cX10_work 97 = .ok (.getfield 16, 3) := by decide +kernel
theorem dX10_work_100 : decode cX10_work 100 = .ok (.iload_n 1, 1) := by decide +kernel
theorem dX10_work_101 : decode cX10_work 101 = .ok (.iaload, 1) := by decide +kernel
theorem dX10_work_102 : decode cX10_work 102 = .ok (.aload_n 0, 1) := by decide +kernel
theorem dX10_work_103 : decode cX10_work 103 = .ok (.getfield 33, 3) := by decide +kernel
theorem dX10_work_106 : decode cX10_work 106 = .ok (.iload_n 2, 1) := by decide +kernel
theorem dX10_work_107 : decode cX10_work 107 = .ok (.iaload, 1) := by decide +kernel
theorem dX10_work_108 : decode cX10_work 108 = .ok (.if_icmp .ge 12, 3) := by decide +kernel
theorem dX10_work_111 : decode cX10_work 111 = .ok (.aload_n 0, 1) := by decide +kernel
theorem dX10_work_112 : decode cX10_work 112 = .ok (.getfield 16, 3) := by decide +kernel
theorem dX10_work_115 : decode cX10_work 115 = .ok (.iload_n 1, 1) := by decide +kernel
theorem dX10_work_116 : decode cX10_work 116 = .ok (.iaload, 1) := by decide +kernel
theorem dX10_work_117 : decode cX10_work 117 = .ok (.goto 9, 3) := by decide +kernel
theorem dX10_work_120 : decode cX10_work 120 = .ok (.aload_n 0, 1) := by decide +kernel
theorem dX10_work_121 : decode cX10_work 121 = .ok (.getfield 33, 3) := by decide +kernel
theorem dX10_work_124 : decode cX10_work 124 = .ok (.iload_n 2, 1) := by decide +kernel
theorem dX10_work_125 : decode cX10_work 125 = .ok (.iaload, 1) := by decide +kernel
theorem dX10_work_126 : decode cX10_work 126 = .ok (.iastore, 1) := by decide +kernel
theorem dX10_work_127 : decode cX10_work 127 = .ok (.aload_n 0, 1) := by decide +kernel
theorem dX10_work_128 : decode cX10_work 128 = .ok (.getfield 33, 3) := by decide +kernel
theorem dX10_work_131 : decode cX10_work 131 = .ok (.iload_n 3, 1) := by decide +kernel
theorem dX10_work_132 : decode cX10_work 132 = .ok (.aload_n 0, 1) := by decide +kernel
theorem dX10_work_133 : decode cX10_work 133 = .ok (.getfield 33, 3) := by decide +kernel
theorem dX10_work_136 : decode cX10_work 136 = .ok (.iload_n 2, 1) := by decide +kernel
theorem dX10_work_137 : decode cX10_work 137 = .ok (.iaload, 1) := by decide +kernel
theorem dX10_work_138 : decode cX10_work 138 = .ok (.iastore, 1) := by decide +kernel
theorem dX10_work_139 : decode cX10_work 139 = .ok (.iinc 1 1, 3) := by decide +kernel
theorem dX10_work_142 : decode cX10_work 142 = .ok (.goto (-102), 3) := by decide +kernel
theorem dX10_work_145 : decode cX10_work 145 = .ok (.iconst 0, 1) := by decide +kernel
theorem dX10_work_146 : decode cX10_work 146 = .ok (.istore_n 1, 1) := by decide +kernel
theorem dX10_work_147 : decode cX10_work 147 = .ok (.iload_n 1, 1) := by decide +kernel
theorem dX10_work_148 : decode cX10_work 148 = .ok (.bipush 40, 2) := by decide +kernel
theorem dX10_work_150 : decode cX10_work 150 = .ok (.if_icmp .ge 80, 3) := by decide +kernel
theorem dX10_work_153 : decode cX10_work 153 = .ok (.iconst 0, 1) := by decide +kernel
theorem dX10_work_154 : decode cX10_work 154 = .ok (.istore_n 2, 1) := by decide +kernel
theorem dX10_work_155 : decode cX10_work 155 = .ok (.iload_n 2, 1) := by decide +kernel
theorem dX10_work_156 : decode cX10_work 156 = .ok (.sipush 1600, 3) := by decide +kernel
theorem dX10_work_159 : decode cX10_work 159 = .ok (.if_icmp .ge 65, 3) := by decide +kernel
theorem dX10_work_162 : decode cX10_work 162 = .ok (.aload_n 0, 1) := by decide +kernel
theorem dX10_work_163 : decode cX10_work 163 = .ok (.getfield 33, 3) := by decide +kernel
theorem dX10_work_166 : decode cX10_work 166 = .ok (.iload_n 2, 1) := by decide +kernel
theorem dX10_work_167 : decode cX10_work 167 = .ok (.bipush 40, 2) := by decide +kernel
theorem dX10_work_169 : decode cX10_work 169 = .ok (.idiv, 1) := by decide +kernel
theorem dX10_work_170 : decode cX10_work 170 = .ok (.bipush 40, 2) := by decide +kernel
theorem dX10_work_172 : decode cX10_work 172 = .ok (.imul, 1) := by decide +kernel
theorem dX10_work_173 : decode cX10_work 173 = .ok (.iload_n 1, 1) := by decide +kernel
theorem dX10_work_174 : decode cX10_work 174 = .ok (.iadd, 1) := by decide +kernel
theorem dX10_work_175 : decode cX10_work 175 = .ok (.iaload, 1) := by decide +kernel
theorem dX10_work_176 : decode cX10_work 176 = .ok (.aload_n 0, 1) := by decide +kernel
theorem dX10_work_177 : decode cX10_work 177 = .ok (.getfield 33, 3) := by decide +kernel
theorem dX10_work_180 : decode cX10_work 180 = .ok (.bipush 40, 2) := by decide +kernel
theorem dX10_work_182 : decode cX10_work 182 = .ok (.iload_n 1, 1) := by decide +kernel
theorem dX10_work_183 : decode cX10_work 183 = .ok (.imul, 1) := by decide +kernel
theorem dX10_work_184 : decode cX10_work 184 = .ok (.iload_n 2, 1) := by decide +kernel
theorem dX10_work_185 : decode cX10_work 185 = .ok (.bipush 40, 2) := by decide +kernel
theorem dX10_work_187 : decode cX10_work 187 = .ok (.irem, 1) := by decide +kernel
theorem dX10_work_188 : decode cX10_work 188 = .ok (.iadd, 1) := by decide +kernel
theorem dX10_work_189 : decode cX10_work 189 = .ok (.iaload, 1) := by decide +kernel
theorem dX10_work_190 : decode cX10_work 190 = .ok (.iadd, 1) := by decide +kernel
theorem dX10_work_191 : decode cX10_work 191 = .ok (.istore_n 3, 1) := by decide +kernel
theorem dX10_work_192 : decode cX10_work 192 = .ok (.aload_n 0, 1) := by decide +kernel
theorem dX10_work_193 : decode cX10_work 193 = .ok (.getfield 33, 3) := by decide +kernel
theorem dX10_work_196 : decode cX10_work 196 = .ok (.iload_n 2, 1) := by decide +kernel
theorem dX10_work_197 : decode cX10_work 197 = .ok (.iload_n 3, 1) := by decide +kernel
theorem dX10_work_198 : decode cX10_work 198 = .ok (.aload_n 0, 1) := by decide +kernel
theorem dX10_work_199 : decode cX10_work 199 = .ok (.getfield 33, 3) := by decide +kernel
theorem dX10_work_202 : decode cX10_work 202 = .ok (.iload_n 2, 1) := by decide +kernel
theorem dX10_work_203 : decode cX10_work 203 = .ok (.iaload, 1) := by decide +kernel
theorem dX10_work_204 : decode cX10_work 204 = .ok (.if_icmp .ge 7, 3) := by decide +kernel
theorem dX10_work_207 : decode cX10_work 207 = .ok (.iload_n 3, 1) := by decide +kernel
theorem dX10_work_208 : decode cX10_work 208 = .ok (.goto 9, 3) := by decide +kernel
theorem dX10_work_211 : decode cX10_work 211 = .ok (.aload_n 0, 1) := by decide +kernel
theorem dX10_work_212 : decode cX10_work 212 = .ok (.getfield 33, 3) := by decide +kernel
theorem dX10_work_215 : decode cX10_work 215 = .ok (.iload_n 2, 1) := by decide +kernel
theorem dX10_work_216 : decode cX10_work 216 = .ok (.iaload, 1) := by decide +kernel
theorem dX10_work_217 : decode cX10_work 217 = .ok (.iastore, 1) := by decide +kernel
theorem dX10_work_218 : decode cX10_work 218 = .ok (.iinc 2 1, 3) := by decide +kernel
theorem dX10_work_221 : decode cX10_work 221 = .ok (.goto (-66), 3) := by decide +kernel
theorem dX10_work_224 : decode cX10_work 224 = .ok (.iinc 1 1, 3) := by decide +kernel
theorem dX10_work_227 : decode cX10_work 227 = .ok (.goto (-80), 3) := by decide +kernel
theorem dX10_work_230 : decode cX10_work 230 = .ok (.return_, 1) := by decide +kernel
theorem dX10_isCrossing_0 : decode cX10_isCrossing 0 = .ok (.iload_n 0, 1) := by decide +kernel
theorem dX10_isCrossing_1 : decode cX10_isCrossing 1 = .ok (.ifCond .lt 13, 3) := by decide +kernel
theorem dX10_isCrossing_4 : decode cX10_isCrossing 4 = .ok (.iload_n 0, 1) := by decide +kernel
theorem dX10_isCrossing_5 : decode cX10_isCrossing 5 = .ok (.bipush 40, 2) := by decide +kernel
theorem dX10_isCrossing_7 : decode cX10_isCrossing 7 = .ok (.if_icmp .ge 7, 3) := by decide +kernel
theorem dX10_isCrossing_10 : decode cX10_isCrossing 10 = .ok (.iconst 1, 1) := by decide +kernel
theorem dX10_isCrossing_11 : decode cX10_isCrossing 11 = .ok (.goto 4, 3) := by decide +kernel
theorem dX10_isCrossing_14 : decode cX10_isCrossing 14 = .ok (.iconst 0, 1) := by decide +kernel
theorem dX10_isCrossing_15 : decode cX10_isCrossing 15 = .ok (.ireturn, 1) := by decide +kernel
theorem dX10_isLane_0 : decode cX10_isLane 0 = .ok (.iload_n 1, 1) := by decide +kernel
theorem dX10_isLane_1 : decode cX10_isLane 1 = .ok (.ifCond .lt 15, 3) := by decide +kernel
theorem dX10_isLane_4 : decode cX10_isLane 4 = .ok (.iload_n 1, 1) := by decide +kernel
theorem dX10_isLane_5 : decode cX10_isLane 5 = .ok (.aload_n 0, 1) := by decide +kernel
theorem dX10_isLane_6 : decode cX10_isLane 6 = .ok (.getfield 103, 3) := by decide +kernel
theorem dX10_isLane_9 : decode cX10_isLane 9 = .ok (.if_icmp .ge 7, 3) := by decide +kernel
theorem dX10_isLane_12 : decode cX10_isLane 12 = .ok (.iconst 1, 1) := by decide +kernel
theorem dX10_isLane_13 : decode cX10_isLane 13 = .ok (.goto 4, 3) := by decide +kernel
theorem dX10_isLane_16 : decode cX10_isLane 16 = .ok (.iconst 0, 1) := by decide +kernel
theorem dX10_isLane_17 : decode cX10_isLane 17 = .ok (.ireturn, 1) := by decide +kernel
theorem dX10_isLamp_0 : decode cX10_isLamp 0 = .ok (.iload_n 1, 1) := by decide +kernel
theorem dX10_isLamp_1 : decode cX10_isLamp 1 = .ok (.ifCond .lt 15, 3) := by decide +kernel
theorem dX10_isLamp_4 : decode cX10_isLamp 4 = .ok (.iload_n 1, 1) := by decide +kernel
theorem dX10_isLamp_5 : decode cX10_isLamp 5 = .ok (.aload_n 0, 1) := by decide +kernel
theorem dX10_isLamp_6 : decode cX10_isLamp 6 = .ok (.getfield 107, 3) := by decide +kernel
theorem dX10_isLamp_9 : decode cX10_isLamp 9 = .ok (.if_icmp .ge 7, 3) := by decide +kernel
theorem dX10_isLamp_12 : decode cX10_isLamp 12 = .ok (.iconst 1, 1) := by decide +kernel
theorem dX10_isLamp_13 : decode cX10_isLamp 13 = .ok (.goto 4, 3) := by decide +kernel
theorem dX10_isLamp_16 : decode cX10_isLamp 16 = .ok (.iconst 0, 1) := by decide +kernel
theorem dX10_isLamp_17 : decode cX10_isLamp 17 = .ok (.ireturn, 1) := by decide +kernel
set_option maxRecDepth 20000 in
theorem ggX10_isLit_X10_isLamp : GoodIn wsX10_isLit wsX10_isLamp := goodIn_r _ [6, 7, 8, 9, 10, 11, 12, 13, 14, 15, 16, 17, 18, 19, 20, 21, 22, 23, 24, 25, 26, 27, 28, 29, 30, 31, 32, 33, 34, 35, 36, 37, 38, 39, 40, 41, 42, 43] (by decide +kernel) (by decide +kernel)
set_option maxRecDepth 20000 in
theorem gX10_isLit_X10_isLamp : GoodIn wsX10_isLit (wsV RX10 110 RX10 yX10_isLamp wsX10_isLamp) := goodIn_app (goodIn_of _ (by decide +kernel)) ggX10_isLit_X10_isLamp
theorem dX10_isLit_0 : decode cX10_isLit 0 = .ok (.aload_n 0, 1) := by decide +kernel
theorem dX10_isLit_1 : decode cX10_isLit 1 = .ok (.iload_n 1, 1) := by decide +kernel
theorem dX10_isLit_2 : decode cX10_isLit 2 = .ok (.invokevirtual 110, 3) := by decide +kernel
theorem dX10_isLit_5 : decode cX10_isLit 5 = .ok (.ifCond .eq 16, 3) := by decide +kernel
theorem dX10_isLit_8 : decode cX10_isLit 8 = .ok (.aload_n 0, 1) := by decide +kernel
theorem dX10_isLit_9 : decode cX10_isLit 9 = .ok (.getfield 45, 3) := by decide +kernel
theorem dX10_isLit_12 : decode cX10_isLit 12 = .ok (.iload_n 1, 1) := by decide +kernel
theorem dX10_isLit_13 : decode cX10_isLit 13 = .ok (.baload, 1) := by decide +kernel
theorem dX10_isLit_14 : decode cX10_isLit 14 = .ok (.ifCond .ne 7, 3) := by decide +kernel
theorem dX10_isLit_17 : decode cX10_isLit 17 = .ok (.iconst 1, 1) := by decide +kernel
theorem dX10_isLit_18 : decode cX10_isLit 18 = .ok (.goto 4, 3) := by decide +kernel
theorem dX10_isLit_21 : decode cX10_isLit 21 = .ok (.iconst 0, 1) := by decide +kernel
theorem dX10_isLit_22 : decode cX10_isLit 22 = .ok (.ireturn, 1) := by decide +kernel
theorem dX10_lit_0 : decode cX10_lit 0 = .ok (.iconst 0, 1) := by decide +kernel
theorem dX10_lit_1 : decode cX10_lit 1 = .ok (.istore_n 1, 1) := by decide +kernel
theorem dX10_lit_2 : decode cX10_lit 2 = .ok (.iconst 0, 1) := by decide +kernel
theorem dX10_lit_3 : decode cX10_lit 3 = .ok (.istore_n 2, 1) := by decide +kernel
theorem dX10_lit_4 : decode cX10_lit 4 = .ok (.iload_n 2, 1) := by decide +kernel
theorem dX10_lit_5 : decode cX10_lit 5 = .ok (.aload_n 0, 1) := by decide +kernel
theorem dX10_lit_6 : decode cX10_lit 6 = .ok (.getfield 107, 3) := by decide +kernel
theorem dX10_lit_9 : decode cX10_lit 9 = .ok (.if_icmp .ge 26, 3) := by decide +kernel
theorem dX10_lit_12 : decode cX10_lit 12 = .ok (.iload_n 1, 1) := by decide +kernel
theorem dX10_lit_13 : decode cX10_lit 13 = .ok (.aload_n 0, 1) := by decide +kernel
theorem dX10_lit_14 : decode cX10_lit 14 = .ok (.getfield 45, 3) := by decide +kernel
theorem dX10_lit_17 : decode cX10_lit 17 = .ok (.iload_n 2, 1) := by decide +kernel
theorem dX10_lit_18 : decode cX10_lit 18 = .ok (.baload, 1) := by decide +kernel
theorem dX10_lit_19 : decode cX10_lit 19 = .ok (.ifCond .eq 7, 3) := by decide +kernel
theorem dX10_lit_22 : decode cX10_lit 22 = .ok (.iconst 0, 1) := by decide +kernel
theorem dX10_lit_23 : decode cX10_lit 23 = .ok (.goto 4, 3) := by decide +kernel
theorem dX10_lit_26 : decode cX10_lit 26 = .ok (.iconst 1, 1) := by decide +kernel
theorem dX10_lit_27 : decode cX10_lit 27 = .ok (.iadd, 1) := by decide +kernel
theorem dX10_lit_28 : decode cX10_lit 28 = .ok (.istore_n 1, 1) := by decide +kernel
theorem dX10_lit_29 : decode cX10_lit 29 = .ok (.iinc 2 1, 3) := by decide +kernel
theorem dX10_lit_32 : decode cX10_lit 32 = .ok (.goto (-28), 3) := by decide +kernel
theorem dX10_lit_35 : decode cX10_lit 35 = .ok (.iload_n 1, 1) := by decide +kernel
theorem dX10_lit_36 : decode cX10_lit 36 = .ok (.ireturn, 1) := by decide +kernel
theorem dX10_between_0 : decode cX10_between 0 = .ok (.aload_n 0, 1) := by decide +kernel
theorem dX10_between_1 : decode cX10_between 1 = .ok (.getfield 33, 3) := by decide +kernel
theorem dX10_between_4 : decode cX10_between 4 = .ok (.bipush 40, 2) := by decide +kernel
theorem dX10_between_6 : decode cX10_between 6 = .ok (.aload_n 0, 1) := by decide +kernel
theorem dX10_between_7 : decode cX10_between 7 = .ok (.getfield 36, 3) := by decide +kernel
theorem dX10_between_10 : decode cX10_between 10 = .ok (.iload_n 1, 1) := by decide +kernel
theorem dX10_between_11 : decode cX10_between 11 = .ok (.iaload, 1) := by decide +kernel
theorem dX10_between_12 : decode cX10_between 12 = .ok (.imul, 1) := by decide +kernel
theorem dX10_between_13 : decode cX10_between 13 = .ok (.aload_n 0, 1) := by decide +kernel
theorem dX10_between_14 : decode cX10_between 14 = .ok (.getfield 36, 3) := by decide +kernel
theorem dX10_between_17 : decode cX10_between 17 = .ok (.iload_n 2, 1) := by decide +kernel
theorem dX10_between_18 : decode cX10_between 18 = .ok (.iaload, 1) := by decide +kernel
theorem dX10_between_19 : decode cX10_between 19 = .ok (.iadd, 1) := by decide +kernel
theorem dX10_between_20 : decode cX10_between 20 = .ok (.iaload, 1) := by decide +kernel
theorem dX10_between_21 : decode cX10_between 21 = .ok (.ireturn, 1) := by decide +kernel
set_option maxRecDepth 20000 in
theorem ggX10_lane_X10_isCrossing : GoodIn wsX10_lane wsX10_isCrossing := goodIn_r _ [10] (by decide +kernel) (by decide +kernel)
set_option maxRecDepth 20000 in
theorem gX10_lane_X10_isCrossing : GoodIn wsX10_lane (va_wsS RX10 114 yX10_isCrossing wsX10_isCrossing) := goodIn_app (goodIn_of _ (by decide +kernel)) ggX10_lane_X10_isCrossing
set_option maxRecDepth 20000 in
theorem ggX10_lane_X10_work : GoodIn wsX10_lane wsX10_work := goodIn_r _ [14, 15, 16, 1, 5, 2, 3, 4, 17, 18, 19, 20, 21, 22, 23, 24, 25, 26, 27, 28, 29, 30, 31, 32, 33, 34, 35, 36, 37, 38, 39, 40, 41, 42, 43, 44, 45, 46, 47, 48, 49, 50, 51, 52] (by decide +kernel) (by decide +kernel)
set_option maxRecDepth 20000 in
theorem gX10_lane_X10_work : GoodIn wsX10_lane (wsV RX10 99 RX10 yX10_work wsX10_work) := goodIn_app (goodIn_of _ (by decide +kernel)) ggX10_lane_X10_work
theorem dX10_lane_0 : decode cX10_lane 0 = .ok (.iload_n 1, 1) := by decide +kernel
theorem dX10_lane_1 : decode cX10_lane 1 = .ok (.invokestatic 114, 3) := by decide +kernel
theorem dX10_lane_4 : decode cX10_lane 4 = .ok (.ifCond .eq 27, 3) := by decide +kernel
theorem dX10_lane_7 : decode cX10_lane 7 = .ok (.iload_n 2, 1) := by decide +kernel
theorem dX10_lane_8 : decode cX10_lane 8 = .ok (.invokestatic 114, 3) := by decide +kernel
theorem dX10_lane_11 : decode cX10_lane 11 = .ok (.ifCond .eq 20, 3) := by decide +kernel
theorem dX10_lane_14 : decode cX10_lane 14 = .ok (.iload_n 1, 1) := by decide +kernel
theorem dX10_lane_15 : decode cX10_lane 15 = .ok (.iload_n 2, 1) := by decide +kernel
theorem dX10_lane_16 : decode cX10_lane 16 = .ok (.if_icmp .eq 15, 3) := by decide +kernel
theorem dX10_lane_19 : decode cX10_lane 19 = .ok (.iload_n 3, 1) := by decide +kernel
theorem dX10_lane_20 : decode cX10_lane 20 = .ok (.iconst 1, 1) := by decide +kernel
theorem dX10_lane_21 : decode cX10_lane 21 = .ok (.if_icmp .lt 10, 3) := by decide +kernel
theorem dX10_lane_24 : decode cX10_lane 24 = .ok (.iload_n 3, 1) := by decide +kernel
theorem dX10_lane_25 : decode cX10_lane 25 = .ok (.sipush 1000, 3) := by decide +kernel
theorem dX10_lane_28 : decode cX10_lane 28 = .ok (.if_icmp .le 5, 3) := by decide +kernel
theorem dX10_lane_31 : decode cX10_lane 31 = .ok (.iconst (-1), 1) := by decide +kernel
theorem dX10_lane_32 : decode cX10_lane 32 = .ok (.ireturn, 1) := by decide +kernel
theorem dX10_lane_33 : decode cX10_lane 33 = .ok (.aload_n 0, 1) := by decide +kernel
theorem dX10_lane_34 : decode cX10_lane 34 = .ok (.getfield 103, 3) := by decide +kernel
theorem dX10_lane_37 : decode cX10_lane 37 = .ok (.bipush 100, 2) := by decide +kernel
theorem dX10_lane_39 : decode cX10_lane 39 = .ok (.if_icmp .ne 6, 3) := by decide +kernel
theorem dX10_lane_42 : decode cX10_lane 42 = .ok (.bipush (-2), 2) := by decide +kernel
theorem dX10_lane_44 : decode cX10_lane 44 = .ok (.ireturn, 1) := by decide +kernel
theorem dX10_lane_45 : decode cX10_lane 45 = .ok (.aload_n 0, 1) := by decide +kernel
theorem dX10_lane_46 : decode cX10_lane 46 = .ok (.getfield 7, 3) := by decide +kernel
theorem dX10_lane_49 : decode cX10_lane 49 = .ok (.aload_n 0, 1) := by decide +kernel
theorem dX10_lane_50 : decode cX10_lane 50 = .ok (.getfield 103, 3) := by decide +kernel
theorem dX10_lane_53 : decode cX10_lane 53 = .ok (.iload_n 1, 1) := by decide +kernel
theorem dX10_lane_54 : decode cX10_lane 54 = .ok (.iastore, 1) := by decide +kernel
theorem dX10_lane_55 : decode cX10_lane 55 = .ok (.aload_n 0, 1) := by decide +kernel
theorem dX10_lane_56 : decode cX10_lane 56 = .ok (.getfield 13, 3) := by decide +kernel
theorem dX10_lane_59 : decode cX10_lane 59 = .ok (.aload_n 0, 1) := by decide +kernel
theorem dX10_lane_60 : decode cX10_lane 60 = .ok (.getfield 103, 3) := by decide +kernel
theorem dX10_lane_63 : decode cX10_lane 63 = .ok (.iload_n 2, 1) := by decide +kernel
theorem dX10_lane_64 : decode cX10_lane 64 = .ok (.iastore, 1) := by decide +kernel
theorem dX10_lane_65 : decode cX10_lane 65 = .ok (.aload_n 0, 1) := by decide +kernel
theorem dX10_lane_66 : decode cX10_lane 66 = .ok (.getfield 16, 3) := by decide +kernel
theorem dX10_lane_69 : decode cX10_lane 69 = .ok (.aload_n 0, 1) := by decide +kernel
theorem dX10_lane_70 : decode cX10_lane 70 = .ok (.getfield 103, 3) := by decide +kernel
theorem dX10_lane_73 : decode cX10_lane 73 = .ok (.iload_n 3, 1) := by decide +kernel
theorem dX10_lane_74 : decode cX10_lane 74 = .ok (.iastore, 1) := by decide +kernel
theorem dX10_lane_75 : decode cX10_lane 75 = .ok (.aload_n 0, 1) := by decide +kernel
theorem dX10_lane_76 : decode cX10_lane 76 = .ok (.getfield 19, 3) := by decide +kernel
theorem dX10_lane_79 : decode cX10_lane 79 = .ok (.aload_n 0, 1) := by decide +kernel
theorem dX10_lane_80 : decode cX10_lane 80 = .ok (.getfield 103, 3) := by decide +kernel
theorem dX10_lane_83 : decode cX10_lane 83 = .ok (.iconst 1, 1) := by decide +kernel
theorem dX10_lane_84 : decode cX10_lane 84 = .ok (.bastore, 1) := by decide +kernel
theorem dX10_lane_85 : decode cX10_lane 85 = .ok (.aload_n 0, 1) := by decide +kernel
theorem dX10_lane_86 : decode cX10_lane 86 = .ok (.dup, 1) := by decide +kernel
theorem dX10_lane_87 : decode cX10_lane 87 = .ok (.getfield 103, 3) := by decide +kernel
theorem dX10_lane_90 : decode cX10_lane 90 = .ok (.iconst 1, 1) := by decide +kernel
theorem dX10_lane_91 : decode cX10_lane 91 = .ok (.iadd, 1) := by decide +kernel
theorem dX10_lane_92 : decode cX10_lane 92 = .ok (.putfield 103, 3) := by decide +kernel
theorem dX10_lane_95 : decode cX10_lane 95 = .ok (.aload_n 0, 1) := by decide +kernel
theorem dX10_lane_96 : decode cX10_lane 96 = .ok (.iconst 0, 1) := by decide +kernel
theorem dX10_lane_97 : decode cX10_lane 97 = .ok (.putfield 117, 3) := by decide +kernel
theorem dX10_lane_100 : decode cX10_lane 100 = .ok (.aload_n 0, 1) := by decide +kernel
theorem dX10_lane_101 : decode cX10_lane 101 = .ok (.invokevirtual 99, 3) := by decide +kernel
theorem dX10_lane_104 : decode cX10_lane 104 = .ok (.aload_n 0, 1) := by decide +kernel
theorem dX10_lane_105 : decode cX10_lane 105 = .ok (.getfield 103, 3) := by decide +kernel
theorem dX10_lane_108 : decode cX10_lane 108 = .ok (.iconst 1, 1) := by decide +kernel
theorem dX10_lane_109 : decode cX10_lane 109 = .ok (.isub, 1) := by decide +kernel
theorem dX10_lane_110 : decode cX10_lane 110 = .ok (.ireturn, 1) := by decide +kernel
set_option maxRecDepth 20000 in
theorem ggX10_open_X10_isLane : GoodIn wsX10_open wsX10_isLane := goodIn_r _ [7, 8, 18, 19, 20, 21, 22, 23, 24, 25, 26, 27, 28, 29, 30, 31, 32, 33, 34, 35, 36, 37, 38, 39, 40, 41, 42, 43, 44, 45, 46, 47, 48, 49, 50, 51, 52, 53] (by decide +kernel) (by decide +kernel)
set_option maxRecDepth 20000 in
theorem gX10_open_X10_isLane : GoodIn wsX10_open (wsV RX10 120 RX10 yX10_isLane wsX10_isLane) := goodIn_app (goodIn_of _ (by decide +kernel)) ggX10_open_X10_isLane
set_option maxRecDepth 20000 in
theorem ggX10_open_X10_work : GoodIn wsX10_open wsX10_work := goodIn_r _ [12, 13, 14, 8, 1, 15, 16, 17, 18, 19, 20, 21, 22, 23, 24, 25, 26, 27, 28, 29, 30, 31, 32, 33, 34, 35, 36, 37, 38, 39, 40, 41, 42, 43, 44, 45, 46, 47, 48, 49, 50, 51, 52, 53] (by decide +kernel) (by decide +kernel)
set_option maxRecDepth 20000 in
theorem gX10_open_X10_work : GoodIn wsX10_open (wsV RX10 99 RX10 yX10_work wsX10_work) := goodIn_app (goodIn_of _ (by decide +kernel)) ggX10_open_X10_work
theorem dX10_open_0 : decode cX10_open 0 = .ok (.aload_n 0, 1) := by decide +kernel
theorem dX10_open_1 : decode cX10_open 1 = .ok (.iload_n 1, 1) := by decide +kernel
theorem dX10_open_2 : decode cX10_open 2 = .ok (.invokevirtual 120, 3) := by decide +kernel
theorem dX10_open_5 : decode cX10_open 5 = .ok (.ifCond .ne 5, 3) := by decide +kernel
theorem dX10_open_8 : decode cX10_open 8 = .ok (.iconst (-1), 1) := by decide +kernel
theorem dX10_open_9 : decode cX10_open 9 = .ok (.ireturn, 1) := by decide +kernel
theorem dX10_open_10 : decode cX10_open 10 = .ok (.aload_n 0, 1) := by decide +kernel
theorem dX10_open_11 : decode cX10_open 11 = .ok (.getfield 19, 3) := by decide +kernel
theorem dX10_open_14 : decode cX10_open 14 = .ok (.iload_n 1, 1) := by decide +kernel
theorem dX10_open_15 : decode cX10_open 15 = .ok (.baload, 1) := by decide +kernel
theorem dX10_open_16 : decode cX10_open 16 = .ok (.iload_n 2, 1) := by decide +kernel
theorem dX10_open_17 : decode cX10_open 17 = .ok (.if_icmp .ne 5, 3) := by decide +kernel
theorem dX10_open_20 : decode cX10_open 20 = .ok (.iconst 0, 1) := by decide +kernel
theorem dX10_open_21 : decode cX10_open 21 = .ok (.ireturn, 1) := by decide +kernel
theorem dX10_open_22 : decode cX10_open 22 = .ok (.aload_n 0, 1) := by decide +kernel
theorem dX10_open_23 : decode cX10_open 23 = .ok (.getfield 19, 3) := by decide +kernel
theorem dX10_open_26 : decode cX10_open 26 = .ok (.iload_n 1, 1) := by decide +kernel
theorem dX10_open_27 : decode cX10_open 27 = .ok (.iload_n 2, 1) := by decide +kernel
theorem dX10_open_28 : decode cX10_open 28 = .ok (.bastore, 1) := by decide +kernel
theorem dX10_open_29 : decode cX10_open 29 = .ok (.aload_n 0, 1) := by decide +kernel
theorem dX10_open_30 : decode cX10_open 30 = .ok (.iconst 0, 1) := by decide +kernel
theorem dX10_open_31 : decode cX10_open 31 = .ok (.putfield 117, 3) := by decide +kernel
theorem dX10_open_34 : decode cX10_open 34 = .ok (.aload_n 0, 1) := by decide +kernel
theorem dX10_open_35 : decode cX10_open 35 = .ok (.invokevirtual 99, 3) := by decide +kernel
theorem dX10_open_38 : decode cX10_open 38 = .ok (.iconst 1, 1) := by decide +kernel
theorem dX10_open_39 : decode cX10_open 39 = .ok (.ireturn, 1) := by decide +kernel
set_option maxRecDepth 20000 in
theorem ggX10_about_X10_isLane : GoodIn wsX10_about wsX10_isLane := goodIn_r _ [9, 10, 11, 12, 13, 14, 15, 16, 17, 18, 19, 20, 21, 22, 23, 24, 25, 26, 27, 28, 29, 30, 31, 32, 33, 34, 35, 36, 37, 38, 39, 40, 41, 42, 43, 44, 45, 46] (by decide +kernel) (by decide +kernel)
set_option maxRecDepth 20000 in
theorem gX10_about_X10_isLane : GoodIn wsX10_about (wsV RX10 120 RX10 yX10_isLane wsX10_isLane) := goodIn_app (goodIn_of _ (by decide +kernel)) ggX10_about_X10_isLane
theorem dX10_about_0 : decode cX10_about 0 = .ok (.aload_n 0, 1) := by decide +kernel
theorem dX10_about_1 : decode cX10_about 1 = .ok (.iload_n 1, 1) := by decide +kernel
theorem dX10_about_2 : decode cX10_about 2 = .ok (.invokevirtual 120, 3) := by decide +kernel
theorem dX10_about_5 : decode cX10_about 5 = .ok (.ifCond .ne 5, 3) := by decide +kernel
theorem dX10_about_8 : decode cX10_about 8 = .ok (.iconst (-1), 1) := by decide +kernel
theorem dX10_about_9 : decode cX10_about 9 = .ok (.ireturn, 1) := by decide +kernel
theorem dX10_about_10 : decode cX10_about 10 = .ok (.iload_n 2, 1) := by decide +kernel
theorem dX10_about_11 : decode cX10_about 11 = .ok (.ifCond .ne 12, 3) := by decide +kernel
theorem dX10_about_14 : decode cX10_about 14 = .ok (.aload_n 0, 1) := by decide +kernel
theorem dX10_about_15 : decode cX10_about 15 = .ok (.getfield 7, 3) := by decide +kernel
theorem dX10_about_18 : decode cX10_about 18 = .ok (.iload_n 1, 1) := by decide +kernel
theorem dX10_about_19 : decode cX10_about 19 = .ok (.iaload, 1) := by decide +kernel
theorem dX10_about_20 : decode cX10_about 20 = .ok (.goto 54, 3) := by decide +kernel
theorem dX10_about_23 : decode cX10_about 23 = .ok (.iload_n 2, 1) := by decide +kernel
theorem dX10_about_24 : decode cX10_about 24 = .ok (.iconst 1, 1) := by decide +kernel
theorem dX10_about_25 : decode cX10_about 25 = .ok (.if_icmp .ne 12, 3) := by decide +kernel
theorem dX10_about_28 : decode cX10_about 28 = .ok (.aload_n 0, 1) := by decide +kernel
theorem dX10_about_29 : decode cX10_about 29 = .ok (.getfield 13, 3) := by decide +kernel
theorem dX10_about_32 : decode cX10_about 32 = .ok (.iload_n 1, 1) := by decide +kernel
theorem dX10_about_33 : decode cX10_about 33 = .ok (.iaload, 1) := by decide +kernel
theorem dX10_about_34 : decode cX10_about 34 = .ok (.goto 40, 3) := by decide +kernel
theorem dX10_about_37 : decode cX10_about 37 = .ok (.iload_n 2, 1) := by decide +kernel
theorem dX10_about_38 : decode cX10_about 38 = .ok (.iconst 2, 1) := by decide +kernel
theorem dX10_about_39 : decode cX10_about 39 = .ok (.if_icmp .ne 12, 3) := by decide +kernel
theorem dX10_about_42 : decode cX10_about 42 = .ok (.aload_n 0, 1) := by decide +kernel
theorem dX10_about_43 : decode cX10_about 43 = .ok (.getfield 16, 3) := by decide +kernel
theorem dX10_about_46 : decode cX10_about 46 = .ok (.iload_n 1, 1) := by decide +kernel
theorem dX10_about_47 : decode cX10_about 47 = .ok (.iaload, 1) := by decide +kernel
theorem dX10_about_48 : decode cX10_about 48 = .ok (.goto 26, 3) := by decide +kernel
theorem dX10_about_51 : decode cX10_about 51 = .ok (.iload_n 2, 1) := by decide +kernel
theorem dX10_about_52 : decode cX10_about 52 = .ok (.iconst 3, 1) := by decide +kernel
theorem dX10_about_53 : decode cX10_about 53 = .ok (.if_icmp .ne 20, 3) := by decide +kernel
theorem dX10_about_56 : decode cX10_about 56 = .ok (.aload_n 0, 1) := by decide +kernel
theorem dX10_about_57 : decode cX10_about 57 = .ok (.getfield 19, 3) := by decide +kernel
theorem dX10_about_60 : decode cX10_about 60 = .ok (.iload_n 1, 1) := by decide +kernel
theorem dX10_about_61 : decode cX10_about 61 = .ok (.baload, 1) := by decide +kernel
theorem dX10_about_62 : decode cX10_about 62 = .ok (.ifCond .eq 7, 3) := by decide +kernel
theorem dX10_about_65 : decode cX10_about 65 = .ok (.iconst 1, 1) := by decide +kernel
theorem dX10_about_66 : decode cX10_about 66 = .ok (.goto 8, 3) := by decide +kernel
theorem dX10_about_69 : decode cX10_about 69 = .ok (.iconst 0, 1) := by decide +kernel
theorem dX10_about_70 : decode cX10_about 70 = .ok (.goto 4, 3) := by decide +kernel
theorem dX10_about_73 : decode cX10_about 73 = .ok (.iconst (-1), 1) := by decide +kernel
theorem dX10_about_74 : decode cX10_about 74 = .ok (.ireturn, 1) := by decide +kernel
theorem dX10_isRow_0 : decode cX10_isRow 0 = .ok (.iload_n 0, 1) := by decide +kernel
theorem dX10_isRow_1 : decode cX10_isRow 1 = .ok (.ifCond .lt 12, 3) := by decide +kernel
theorem dX10_isRow_4 : decode cX10_isRow 4 = .ok (.iload_n 0, 1) := by decide +kernel
theorem dX10_isRow_5 : decode cX10_isRow 5 = .ok (.iconst 4, 1) := by decide +kernel
theorem dX10_isRow_6 : decode cX10_isRow 6 = .ok (.if_icmp .ge 7, 3) := by decide +kernel
theorem dX10_isRow_9 : decode cX10_isRow 9 = .ok (.iconst 1, 1) := by decide +kernel
theorem dX10_isRow_10 : decode cX10_isRow 10 = .ok (.goto 4, 3) := by decide +kernel
theorem dX10_isRow_13 : decode cX10_isRow 13 = .ok (.iconst 0, 1) := by decide +kernel
theorem dX10_isRow_14 : decode cX10_isRow 14 = .ok (.ireturn, 1) := by decide +kernel
set_option maxRecDepth 20000 in
theorem ggX10_row_X10_isRow : GoodIn wsX10_row wsX10_isRow := goodIn_r _ [7] (by decide +kernel) (by decide +kernel)
set_option maxRecDepth 20000 in
theorem gX10_row_X10_isRow : GoodIn wsX10_row (va_wsS RX10 123 yX10_isRow wsX10_isRow) := goodIn_app (goodIn_of _ (by decide +kernel)) ggX10_row_X10_isRow
theorem dX10_row_0 : decode cX10_row 0 = .ok (.iload_n 1, 1) := by decide +kernel
theorem dX10_row_1 : decode cX10_row 1 = .ok (.invokestatic 123, 3) := by decide +kernel
theorem dX10_row_4 : decode cX10_row 4 = .ok (.ifCond .eq 12, 3) := by decide +kernel
theorem dX10_row_7 : decode cX10_row 7 = .ok (.iload_n 2, 1) := by decide +kernel
theorem dX10_row_8 : decode cX10_row 8 = .ok (.ifCond .lt 8, 3) := by decide +kernel
theorem dX10_row_11 : decode cX10_row 11 = .ok (.iload_n 2, 1) := by decide +kernel
theorem dX10_row_12 : decode cX10_row 12 = .ok (.iconst 2, 1) := by decide +kernel
theorem dX10_row_13 : decode cX10_row 13 = .ok (.if_icmp .le 5, 3) := by decide +kernel
theorem dX10_row_16 : decode cX10_row 16 = .ok (.iconst (-1), 1) := by decide +kernel
theorem dX10_row_17 : decode cX10_row 17 = .ok (.ireturn, 1) := by decide +kernel
theorem dX10_row_18 : decode cX10_row 18 = .ok (.iload_n 3, 1) := by decide +kernel
theorem dX10_row_19 : decode cX10_row 19 = .ok (.ifCond .ge 6, 3) := by decide +kernel
theorem dX10_row_22 : decode cX10_row 22 = .ok (.bipush (-6), 2) := by decide +kernel
theorem dX10_row_24 : decode cX10_row 24 = .ok (.ireturn, 1) := by decide +kernel
theorem dX10_row_25 : decode cX10_row 25 = .ok (.iload_n 3, 1) := by decide +kernel
theorem dX10_row_26 : decode cX10_row 26 = .ok (.bipush 50, 2) := by decide +kernel
theorem dX10_row_28 : decode cX10_row 28 = .ok (.if_icmp .le 5, 3) := by decide +kernel
theorem dX10_row_31 : decode cX10_row 31 = .ok (.iconst (-1), 1) := by decide +kernel
theorem dX10_row_32 : decode cX10_row 32 = .ok (.ireturn, 1) := by decide +kernel
theorem dX10_row_33 : decode cX10_row 33 = .ok (.aload_n 0, 1) := by decide +kernel
theorem dX10_row_34 : decode cX10_row 34 = .ok (.getfield 23, 3) := by decide +kernel
theorem dX10_row_37 : decode cX10_row 37 = .ok (.iload_n 1, 1) := by decide +kernel
theorem dX10_row_38 : decode cX10_row 38 = .ok (.iload_n 2, 1) := by decide +kernel
theorem dX10_row_39 : decode cX10_row 39 = .ok (.iastore, 1) := by decide +kernel
theorem dX10_row_40 : decode cX10_row 40 = .ok (.aload_n 0, 1) := by decide +kernel
theorem dX10_row_41 : decode cX10_row 41 = .ok (.getfield 26, 3) := by decide +kernel
theorem dX10_row_44 : decode cX10_row 44 = .ok (.iload_n 1, 1) := by decide +kernel
theorem dX10_row_45 : decode cX10_row 45 = .ok (.iload_n 3, 1) := by decide +kernel
theorem dX10_row_46 : decode cX10_row 46 = .ok (.iastore, 1) := by decide +kernel
theorem dX10_row_47 : decode cX10_row 47 = .ok (.iconst 0, 1) := by decide +kernel
theorem dX10_row_48 : decode cX10_row 48 = .ok (.istore 4, 2) := by decide +kernel
theorem dX10_row_50 : decode cX10_row 50 = .ok (.iload 4, 2) := by decide +kernel
theorem dX10_row_52 : decode cX10_row 52 = .ok (.iload_n 3, 1) := by decide +kernel
theorem dX10_row_53 : decode cX10_row 53 = .ok (.if_icmp .ge 22, 3) := by decide +kernel
theorem dX10_row_56 : decode cX10_row 56 = .ok (.aload_n 0, 1) := by decide +kernel
theorem dX10_row_57 : decode cX10_row 57 = .ok (.getfield 29, 3) := by decide +kernel
theorem dX10_row_60 : decode cX10_row 60 = .ok (.bipush 50, 2) := by decide +kernel
theorem dX10_row_62 : decode cX10_row 62 = .ok (.iload_n 1, 1) := by decide +kernel
theorem dX10_row_63 : decode cX10_row 63 = .ok (.imul, 1) := by decide +kernel
theorem dX10_row_64 : decode cX10_row 64 = .ok (.iload 4, 2) := by decide +kernel
theorem dX10_row_66 : decode cX10_row 66 = .ok (.iadd, 1) := by decide +kernel
theorem dX10_row_67 : decode cX10_row 67 = .ok (.lconst 1, 1) := by decide +kernel
theorem dX10_row_68 : decode cX10_row 68 = .ok (.lastore, 1) := by decide +kernel
theorem dX10_row_69 : decode cX10_row 69 = .ok (.iinc 4 1, 3) := by decide +kernel
theorem dX10_row_72 : decode cX10_row 72 = .ok (.goto (-22), 3) := by decide +kernel
theorem dX10_row_75 : decode cX10_row 75 = .ok (.iconst 1, 1) := by decide +kernel
theorem dX10_row_76 : decode cX10_row 76 = .ok (.ireturn, 1) := by decide +kernel
set_option maxRecDepth 20000 in
theorem ggX10_cell_X10_isRow : GoodIn wsX10_cell wsX10_isRow := goodIn_r _ [7] (by decide +kernel) (by decide +kernel)
set_option maxRecDepth 20000 in
theorem gX10_cell_X10_isRow : GoodIn wsX10_cell (va_wsS RX10 123 yX10_isRow wsX10_isRow) := goodIn_app (goodIn_of _ (by decide +kernel)) ggX10_cell_X10_isRow
theorem dX10_cell_0 : decode cX10_cell 0 = .ok (.iload_n 1, 1) := by decide +kernel
theorem dX10_cell_1 : decode cX10_cell 1 = .ok (.invokestatic 123, 3) := by decide +kernel
theorem dX10_cell_4 : decode cX10_cell 4 = .ok (.ifCond .ne 5, 3) := by decide +kernel
theorem dX10_cell_7 : decode cX10_cell 7 = .ok (.iconst (-1), 1) := by decide +kernel
theorem dX10_cell_8 : decode cX10_cell 8 = .ok (.ireturn, 1) := by decide +kernel
theorem dX10_cell_9 : decode cX10_cell 9 = .ok (.aload_n 0, 1) := by decide +kernel
theorem dX10_cell_10 : decode cX10_cell 10 = .ok (.getfield 26, 3) := by decide +kernel
theorem dX10_cell_13 : decode cX10_cell 13 = .ok (.iload_n 1, 1) := by decide +kernel
theorem dX10_cell_14 : decode cX10_cell 14 = .ok (.iaload, 1) := by decide +kernel
theorem dX10_cell_15 : decode cX10_cell 15 = .ok (.ifCond .ge 6, 3) := by decide +kernel
theorem dX10_cell_18 : decode cX10_cell 18 = .ok (.bipush (-3), 2) := by decide +kernel
theorem dX10_cell_20 : decode cX10_cell 20 = .ok (.ireturn, 1) := by decide +kernel
theorem dX10_cell_21 : decode cX10_cell 21 = .ok (.iload_n 2, 1) := by decide +kernel
theorem dX10_cell_22 : decode cX10_cell 22 = .ok (.ifCond .lt 13, 3) := by decide +kernel
theorem dX10_cell_25 : decode cX10_cell 25 = .ok (.iload_n 2, 1) := by decide +kernel
theorem dX10_cell_26 : decode cX10_cell 26 = .ok (.aload_n 0, 1) := by decide +kernel
theorem dX10_cell_27 : decode cX10_cell 27 = .ok (.getfield 26, 3) := by decide +kernel
theorem dX10_cell_30 : decode cX10_cell 30 = .ok (.iload_n 1, 1) := by decide +kernel
theorem dX10_cell_31 : decode cX10_cell 31 = .ok (.iaload, 1) := by decide +kernel
theorem dX10_cell_32 : decode cX10_cell 32 = .ok (.if_icmp .lt 5, 3) := by decide +kernel
theorem dX10_cell_35 : decode cX10_cell 35 = .ok (.iconst (-1), 1) := by decide +kernel
theorem dX10_cell_36 : decode cX10_cell 36 = .ok (.ireturn, 1) := by decide +kernel
theorem dX10_cell_37 : decode cX10_cell 37 = .ok (.aload_n 0, 1) := by decide +kernel
theorem dX10_cell_38 : decode cX10_cell 38 = .ok (.getfield 29, 3) := by decide +kernel
theorem dX10_cell_41 : decode cX10_cell 41 = .ok (.bipush 50, 2) := by decide +kernel
theorem dX10_cell_43 : decode cX10_cell 43 = .ok (.iload_n 1, 1) := by decide +kernel
theorem dX10_cell_44 : decode cX10_cell 44 = .ok (.imul, 1) := by decide +kernel
theorem dX10_cell_45 : decode cX10_cell 45 = .ok (.iload_n 2, 1) := by decide +kernel
theorem dX10_cell_46 : decode cX10_cell 46 = .ok (.iadd, 1) := by decide +kernel
theorem dX10_cell_47 : decode cX10_cell 47 = .ok (.aload_n 0, 1) := by decide +kernel
theorem dX10_cell_48 : decode cX10_cell 48 = .ok (.getfield 23, 3) := by decide +kernel
theorem dX10_cell_51 : decode cX10_cell 51 = .ok (.iload_n 1, 1) := by decide +kernel
theorem dX10_cell_52 : decode cX10_cell 52 = .ok (.iaload, 1) := by decide +kernel
theorem dX10_cell_53 : decode cX10_cell 53 = .ok (.ifCond .ne 10, 3) := by decide +kernel
theorem dX10_cell_56 : decode cX10_cell 56 = .ok (.lload_n 3, 1) := by decide +kernel
theorem dX10_cell_57 : decode cX10_cell 57 = .ok (.l2i, 1) := by decide +kernel
theorem dX10_cell_58 : decode cX10_cell 58 = .ok (.i2s, 1) := by decide +kernel
theorem dX10_cell_59 : decode cX10_cell 59 = .ok (.i2l, 1) := by decide +kernel
theorem dX10_cell_60 : decode cX10_cell 60 = .ok (.goto 20, 3) := by decide +kernel
theorem dX10_cell_63 : decode cX10_cell 63 = .ok (.aload_n 0, 1) := by decide +kernel
theorem dX10_cell_64 : decode cX10_cell 64 = .ok (.getfield 23, 3) := by decide +kernel
theorem dX10_cell_67 : decode cX10_cell 67 = .ok (.iload_n 1, 1) := by decide +kernel
theorem dX10_cell_68 : decode cX10_cell 68 = .ok (.iaload, 1) := by decide +kernel
theorem dX10_cell_69 : decode cX10_cell 69 = .ok (.iconst 1, 1) := by decide +kernel
theorem dX10_cell_70 : decode cX10_cell 70 = .ok (.if_icmp .ne 9, 3) := by decide +kernel
theorem dX10_cell_73 : decode cX10_cell 73 = .ok (.lload_n 3, 1) := by decide +kernel
theorem dX10_cell_74 : decode cX10_cell 74 = .ok (.l2i, 1) := by decide +kernel
theorem dX10_cell_75 : decode cX10_cell 75 = .ok (.i2l, 1) := by decide +kernel
theorem dX10_cell_76 : decode cX10_cell 76 = .ok (.goto 4, 3) := by decide +kernel
theorem dX10_cell_79 : decode cX10_cell 79 = .ok (.lload_n 3, 1) := by decide +kernel
theorem dX10_cell_80 : decode cX10_cell 80 = .ok (.lastore, 1) := by decide +kernel
theorem dX10_cell_81 : decode cX10_cell 81 = .ok (.iconst 1, 1) := by decide +kernel
theorem dX10_cell_82 : decode cX10_cell 82 = .ok (.ireturn, 1) := by decide +kernel
set_option maxRecDepth 20000 in
theorem ggX10_told_X10_isRow : GoodIn wsX10_told wsX10_isRow := goodIn_r _ [7] (by decide +kernel) (by decide +kernel)
set_option maxRecDepth 20000 in
theorem gX10_told_X10_isRow : GoodIn wsX10_told (va_wsS RX10 123 yX10_isRow wsX10_isRow) := goodIn_app (goodIn_of _ (by decide +kernel)) ggX10_told_X10_isRow
theorem dX10_told_0 : decode cX10_told 0 = .ok (.iload_n 1, 1) := by decide +kernel
theorem dX10_told_1 : decode cX10_told 1 = .ok (.invokestatic 123, 3) := by decide +kernel
theorem dX10_told_4 : decode cX10_told 4 = .ok (.ifCond .eq 17, 3) := by decide +kernel
theorem dX10_told_7 : decode cX10_told 7 = .ok (.iload_n 2, 1) := by decide +kernel
theorem dX10_told_8 : decode cX10_told 8 = .ok (.ifCond .lt 13, 3) := by decide +kernel
theorem dX10_told_11 : decode cX10_told 11 = .ok (.iload_n 2, 1) := by decide +kernel
theorem dX10_told_12 : decode cX10_told 12 = .ok (.aload_n 0, 1) := by decide +kernel
theorem dX10_told_13 : decode cX10_told 13 = .ok (.getfield 26, 3) := by decide +kernel
theorem dX10_told_16 : decode cX10_told 16 = .ok (.iload_n 1, 1) := by decide +kernel
theorem dX10_told_17 : decode cX10_told 17 = .ok (.iaload, 1) := by decide +kernel
theorem dX10_told_18 : decode cX10_told 18 = .ok (.if_icmp .lt 9, 3) := by decide +kernel
theorem dX10_told_21 : decode cX10_told 21 = .ok (.ldc2_w 126, 3) := by decide +kernel
theorem dX10_told_24 : decode cX10_told 24 = .ok (.goto 14, 3) := by decide +kernel
theorem dX10_told_27 : decode cX10_told 27 = .ok (.aload_n 0, 1) := by decide +kernel
theorem dX10_told_28 : decode cX10_told 28 = .ok (.getfield 29, 3) := by decide +kernel
theorem dX10_told_31 : decode cX10_told 31 = .ok (.bipush 50, 2) := by decide +kernel
theorem dX10_told_33 : decode cX10_told 33 = .ok (.iload_n 1, 1) := by decide +kernel
theorem dX10_told_34 : decode cX10_told 34 = .ok (.imul, 1) := by decide +kernel
theorem dX10_told_35 : decode cX10_told 35 = .ok (.iload_n 2, 1) := by decide +kernel
theorem dX10_told_36 : decode cX10_told 36 = .ok (.iadd, 1) := by decide +kernel
theorem dX10_told_37 : decode cX10_told 37 = .ok (.laload, 1) := by decide +kernel
theorem dX10_told_38 : decode cX10_told 38 = .ok (.lreturn, 1) := by decide +kernel
set_option maxRecDepth 20000 in
theorem ggX10_lose_X10_isRow : GoodIn wsX10_lose wsX10_isRow := goodIn_r _ [5] (by decide +kernel) (by decide +kernel)
set_option maxRecDepth 20000 in
theorem gX10_lose_X10_isRow : GoodIn wsX10_lose (va_wsS RX10 123 yX10_isRow wsX10_isRow) := goodIn_app (goodIn_of _ (by decide +kernel)) ggX10_lose_X10_isRow
theorem dX10_lose_0 : decode cX10_lose 0 = .ok (.iload_n 1, 1) := by decide +kernel
theorem dX10_lose_1 : decode cX10_lose 1 = .ok (.invokestatic 123, 3) := by decide +kernel
theorem dX10_lose_4 : decode cX10_lose 4 = .ok (.ifCond .ne 5, 3) := by decide +kernel
theorem dX10_lose_7 : decode cX10_lose 7 = .ok (.iconst (-1), 1) := by decide +kernel
theorem dX10_lose_8 : decode cX10_lose 8 = .ok (.ireturn, 1) := by decide +kernel
theorem dX10_lose_9 : decode cX10_lose 9 = .ok (.aload_n 0, 1) := by decide +kernel
theorem dX10_lose_10 : decode cX10_lose 10 = .ok (.getfield 26, 3) := by decide +kernel
theorem dX10_lose_13 : decode cX10_lose 13 = .ok (.iload_n 1, 1) := by decide +kernel
theorem dX10_lose_14 : decode cX10_lose 14 = .ok (.iaload, 1) := by decide +kernel
theorem dX10_lose_15 : decode cX10_lose 15 = .ok (.ifCond .ge 6, 3) := by decide +kernel
theorem dX10_lose_18 : decode cX10_lose 18 = .ok (.bipush (-3), 2) := by decide +kernel
theorem dX10_lose_20 : decode cX10_lose 20 = .ok (.ireturn, 1) := by decide +kernel
theorem dX10_lose_21 : decode cX10_lose 21 = .ok (.aload_n 0, 1) := by decide +kernel
theorem dX10_lose_22 : decode cX10_lose 22 = .ok (.getfield 26, 3) := by decide +kernel
theorem dX10_lose_25 : decode cX10_lose 25 = .ok (.iload_n 1, 1) := by decide +kernel
theorem dX10_lose_26 : decode cX10_lose 26 = .ok (.iconst (-1), 1) := by decide +kernel
theorem dX10_lose_27 : decode cX10_lose 27 = .ok (.iastore, 1) := by decide +kernel
theorem dX10_lose_28 : decode cX10_lose 28 = .ok (.iconst 1, 1) := by decide +kernel
theorem dX10_lose_29 : decode cX10_lose 29 = .ok (.ireturn, 1) := by decide +kernel
set_option maxRecDepth 20000 in
theorem ggX10_lay_X10_isRow : GoodIn wsX10_lay wsX10_isRow := goodIn_r _ [12] (by decide +kernel) (by decide +kernel)
set_option maxRecDepth 20000 in
theorem gX10_lay_X10_isRow : GoodIn wsX10_lay (va_wsS RX10 123 yX10_isRow wsX10_isRow) := goodIn_app (goodIn_of _ (by decide +kernel)) ggX10_lay_X10_isRow
set_option maxRecDepth 20000 in
theorem ggX10_lay_X10_work : GoodIn wsX10_lay wsX10_work := goodIn_r _ [16, 17, 18, 3, 7, 19, 20, 6, 21, 22, 23, 24, 25, 26, 27, 28, 29, 30, 31, 32, 33, 34, 35, 36, 37, 38, 39, 40, 41, 42, 43, 44, 45, 46, 47, 48, 49, 50, 51, 52, 53, 54, 55, 56] (by decide +kernel) (by decide +kernel)
set_option maxRecDepth 20000 in
theorem gX10_lay_X10_work : GoodIn wsX10_lay (wsV RX10 99 RX10 yX10_work wsX10_work) := goodIn_app (goodIn_of _ (by decide +kernel)) ggX10_lay_X10_work
theorem dX10_lay_0 : decode cX10_lay 0 = .ok (.iload_n 1, 1) := by decide +kernel
theorem dX10_lay_1 : decode cX10_lay 1 = .ok (.invokestatic 123, 3) := by decide +kernel
theorem dX10_lay_4 : decode cX10_lay 4 = .ok (.ifCond .ne 5, 3) := by decide +kernel
theorem dX10_lay_7 : decode cX10_lay 7 = .ok (.iconst (-1), 1) := by decide +kernel
theorem dX10_lay_8 : decode cX10_lay 8 = .ok (.ireturn, 1) := by decide +kernel
theorem dX10_lay_9 : decode cX10_lay 9 = .ok (.aload_n 0, 1) := by decide +kernel
theorem dX10_lay_10 : decode cX10_lay 10 = .ok (.getfield 26, 3) := by decide +kernel
theorem dX10_lay_13 : decode cX10_lay 13 = .ok (.iload_n 1, 1) := by decide +kernel
theorem dX10_lay_14 : decode cX10_lay 14 = .ok (.iaload, 1) := by decide +kernel
theorem dX10_lay_15 : decode cX10_lay 15 = .ok (.ifCond .ge 6, 3) := by decide +kernel
theorem dX10_lay_18 : decode cX10_lay 18 = .ok (.bipush (-3), 2) := by decide +kernel
theorem dX10_lay_20 : decode cX10_lay 20 = .ok (.ireturn, 1) := by decide +kernel
theorem dX10_lay_21 : decode cX10_lay 21 = .ok (.aload_n 0, 1) := by decide +kernel
theorem dX10_lay_22 : decode cX10_lay 22 = .ok (.getfield 23, 3) := by decide +kernel
theorem dX10_lay_25 : decode cX10_lay 25 = .ok (.iload_n 1, 1) := by decide +kernel
theorem dX10_lay_26 : decode cX10_lay 26 = .ok (.iaload, 1) := by decide +kernel
theorem dX10_lay_27 : decode cX10_lay 27 = .ok (.iconst 1, 1) := by decide +kernel
theorem dX10_lay_28 : decode cX10_lay 28 = .ok (.if_icmp .eq 6, 3) := by decide +kernel
theorem dX10_lay_31 : decode cX10_lay 31 = .ok (.bipush (-5), 2) := by decide +kernel
theorem dX10_lay_33 : decode cX10_lay 33 = .ok (.ireturn, 1) := by decide +kernel
theorem dX10_lay_34 : decode cX10_lay 34 = .ok (.iload_n 3, 1) := by decide +kernel
theorem dX10_lay_35 : decode cX10_lay 35 = .ok (.ifCond .lt 53, 3) := by decide +kernel
theorem dX10_lay_38 : decode cX10_lay 38 = .ok (.iload_n 2, 1) := by decide +kernel
theorem dX10_lay_39 : decode cX10_lay 39 = .ok (.ifCond .lt 49, 3) := by decide +kernel
theorem dX10_lay_42 : decode cX10_lay 42 = .ok (.iload_n 3, 1) := by decide +kernel
theorem dX10_lay_43 : decode cX10_lay 43 = .ok (.aload_n 0, 1) := by decide +kernel
theorem dX10_lay_44 : decode cX10_lay 44 = .ok (.getfield 26, 3) := by decide +kernel
theorem dX10_lay_47 : decode cX10_lay 47 = .ok (.iload_n 1, 1) := by decide +kernel
theorem dX10_lay_48 : decode cX10_lay 48 = .ok (.iaload, 1) := by decide +kernel
theorem dX10_lay_49 : decode cX10_lay 49 = .ok (.if_icmp .gt 39, 3) := by decide +kernel
theorem dX10_lay_52 : decode cX10_lay 52 = .ok (.iload_n 2, 1) := by decide +kernel
theorem dX10_lay_53 : decode cX10_lay 53 = .ok (.aload_n 0, 1) := by decide +kernel
theorem dX10_lay_54 : decode cX10_lay 54 = .ok (.getfield 26, 3) := by decide +kernel
theorem dX10_lay_57 : decode cX10_lay 57 = .ok (.iload_n 1, 1) := by decide +kernel
theorem dX10_lay_58 : decode cX10_lay 58 = .ok (.iaload, 1) := by decide +kernel
theorem dX10_lay_59 : decode cX10_lay 59 = .ok (.iload_n 3, 1) := by decide +kernel
theorem dX10_lay_60 : decode cX10_lay 60 = .ok (.isub, 1) := by decide +kernel
theorem dX10_lay_61 : decode cX10_lay 61 = .ok (.if_icmp .gt 27, 3) := by decide +kernel
theorem dX10_lay_64 : decode cX10_lay 64 = .ok (.iload 4, 2) := by decide +kernel
theorem dX10_lay_66 : decode cX10_lay 66 = .ok (.ifCond .lt 22, 3) := by decide +kernel
theorem dX10_lay_69 : decode cX10_lay 69 = .ok (.iload_n 3, 1) := by decide +kernel
theorem dX10_lay_70 : decode cX10_lay 70 = .ok (.aload_n 0, 1) := by decide +kernel
theorem dX10_lay_71 : decode cX10_lay 71 = .ok (.getfield 103, 3) := by decide +kernel
theorem dX10_lay_74 : decode cX10_lay 74 = .ok (.if_icmp .gt 14, 3) := by decide +kernel
theorem dX10_lay_77 : decode cX10_lay 77 = .ok (.iload 4, 2) := by decide +kernel
theorem dX10_lay_79 : decode cX10_lay 79 = .ok (.aload_n 0, 1) := by decide +kernel
theorem dX10_lay_80 : decode cX10_lay 80 = .ok (.getfield 103, 3) := by decide +kernel
theorem dX10_lay_83 : decode cX10_lay 83 = .ok (.iload_n 3, 1) := by decide +kernel
theorem dX10_lay_84 : decode cX10_lay 84 = .ok (.isub, 1) := by decide +kernel
theorem dX10_lay_85 : decode cX10_lay 85 = .ok (.if_icmp .le 5, 3) := by decide +kernel
theorem dX10_lay_88 : decode cX10_lay 88 = .ok (.iconst (-1), 1) := by decide +kernel
theorem dX10_lay_89 : decode cX10_lay 89 = .ok (.ireturn, 1) := by decide +kernel
theorem dX10_lay_90 : decode cX10_lay 90 = .ok (.iconst 0, 1) := by decide +kernel
theorem dX10_lay_91 : decode cX10_lay 91 = .ok (.istore 5, 2) := by decide +kernel
theorem dX10_lay_93 : decode cX10_lay 93 = .ok (.iload 5, 2) := by decide +kernel
theorem dX10_lay_95 : decode cX10_lay 95 = .ok (.iload_n 3, 1) := by decide +kernel
theorem dX10_lay_96 : decode cX10_lay 96 = .ok (.if_icmp .ge 68, 3) := by decide +kernel
theorem dX10_lay_99 : decode cX10_lay 99 = .ok (.aload_n 0, 1) := by decide +kernel
theorem dX10_lay_100 : decode cX10_lay 100 = .ok (.getfield 29, 3) := by decide +kernel
theorem dX10_lay_103 : decode cX10_lay 103 = .ok (.bipush 50, 2) := by decide +kernel
theorem dX10_lay_105 : decode cX10_lay 105 = .ok (.iload_n 1, 1) := by decide +kernel
theorem dX10_lay_106 : decode cX10_lay 106 = .ok (.imul, 1) := by decide +kernel
theorem dX10_lay_107 : decode cX10_lay 107 = .ok (.iload_n 2, 1) := by decide +kernel
theorem dX10_lay_108 : decode cX10_lay 108 = .ok (.iadd, 1) := by decide +kernel
theorem dX10_lay_109 : decode cX10_lay 109 = .ok (.iload 5, 2) := by decide +kernel
theorem dX10_lay_111 : decode cX10_lay 111 = .ok (.iadd, 1) := by decide +kernel
theorem dX10_lay_112 : decode cX10_lay 112 = .ok (.laload, 1) := by decide +kernel
theorem dX10_lay_113 : decode cX10_lay 113 = .ok (.lstore 6, 2) := by decide +kernel
theorem dX10_lay_115 : decode cX10_lay 115 = .ok (.lload 6, 2) := by decide +kernel
theorem dX10_lay_117 : decode cX10_lay 117 = .ok (.lconst 1, 1) := by decide +kernel
theorem dX10_lay_118 : decode cX10_lay 118 = .ok (.lcmp, 1) := by decide +kernel
theorem dX10_lay_119 : decode cX10_lay 119 = .ok (.ifCond .lt 28, 3) := by decide +kernel
theorem dX10_lay_122 : decode cX10_lay 122 = .ok (.lload 6, 2) := by decide +kernel
theorem dX10_lay_124 : decode cX10_lay 124 = .ok (.ldc2_w 128, 3) := by decide +kernel
theorem dX10_lay_127 : decode cX10_lay 127 = .ok (.lcmp, 1) := by decide +kernel
theorem dX10_lay_128 : decode cX10_lay 128 = .ok (.ifCond .gt 19, 3) := by decide +kernel
theorem dX10_lay_131 : decode cX10_lay 131 = .ok (.aload_n 0, 1) := by decide +kernel
theorem dX10_lay_132 : decode cX10_lay 132 = .ok (.getfield 16, 3) := by decide +kernel
theorem dX10_lay_135 : decode cX10_lay 135 = .ok (.iload 4, 2) := by decide +kernel
theorem dX10_lay_137 : decode cX10_lay 137 = .ok (.iload 5, 2) := by decide +kernel
theorem dX10_lay_139 : decode cX10_lay 139 = .ok (.iadd, 1) := by decide +kernel
theorem dX10_lay_140 : decode cX10_lay 140 = .ok (.lload 6, 2) := by decide +kernel
theorem dX10_lay_142 : decode cX10_lay 142 = .ok (.l2i, 1) := by decide +kernel
theorem dX10_lay_143 : decode cX10_lay 143 = .ok (.iastore, 1) := by decide +kernel
theorem dX10_lay_144 : decode cX10_lay 144 = .ok (.goto 14, 3) := by decide +kernel
theorem dX10_lay_147 : decode cX10_lay 147 = .ok (.aload_n 0, 1) := by decide +kernel
theorem dX10_lay_148 : decode cX10_lay 148 = .ok (.getfield 19, 3) := by decide +kernel
theorem dX10_lay_151 : decode cX10_lay 151 = .ok (.iload 4, 2) := by decide +kernel
theorem dX10_lay_153 : decode cX10_lay 153 = .ok (.iload 5, 2) := by decide +kernel
theorem dX10_lay_155 : decode cX10_lay 155 = .ok (.iadd, 1) := by decide +kernel
theorem dX10_lay_156 : decode cX10_lay 156 = .ok (.iconst 0, 1) := by decide +kernel
theorem dX10_lay_157 : decode cX10_lay 157 = .ok (.bastore, 1) := by decide +kernel
theorem dX10_lay_158 : decode cX10_lay 158 = .ok (.iinc 5 1, 3) := by decide +kernel
theorem dX10_lay_161 : decode cX10_lay 161 = .ok (.goto (-68), 3) := by decide +kernel
theorem dX10_lay_164 : decode cX10_lay 164 = .ok (.aload_n 0, 1) := by decide +kernel
theorem dX10_lay_165 : decode cX10_lay 165 = .ok (.iconst 0, 1) := by decide +kernel
theorem dX10_lay_166 : decode cX10_lay 166 = .ok (.putfield 117, 3) := by decide +kernel
theorem dX10_lay_169 : decode cX10_lay 169 = .ok (.aload_n 0, 1) := by decide +kernel
theorem dX10_lay_170 : decode cX10_lay 170 = .ok (.invokevirtual 99, 3) := by decide +kernel
theorem dX10_lay_173 : decode cX10_lay 173 = .ok (.iconst 1, 1) := by decide +kernel
theorem dX10_lay_174 : decode cX10_lay 174 = .ok (.ireturn, 1) := by decide +kernel
set_option maxRecDepth 20000 in
theorem ggX10_way_X10_isCrossing : GoodIn wsX10_way wsX10_isCrossing := goodIn_r _ [6] (by decide +kernel) (by decide +kernel)
set_option maxRecDepth 20000 in
theorem gX10_way_X10_isCrossing : GoodIn wsX10_way (va_wsS RX10 114 yX10_isCrossing wsX10_isCrossing) := goodIn_app (goodIn_of _ (by decide +kernel)) ggX10_way_X10_isCrossing
theorem dX10_way_0 : decode cX10_way 0 = .ok (.iload_n 1, 1) := by decide +kernel
theorem dX10_way_1 : decode cX10_way 1 = .ok (.invokestatic 114, 3) := by decide +kernel
theorem dX10_way_4 : decode cX10_way 4 = .ok (.ifCond .eq 10, 3) := by decide +kernel
theorem dX10_way_7 : decode cX10_way 7 = .ok (.iload_n 2, 1) := by decide +kernel
theorem dX10_way_8 : decode cX10_way 8 = .ok (.invokestatic 114, 3) := by decide +kernel
theorem dX10_way_11 : decode cX10_way 11 = .ok (.ifCond .ne 5, 3) := by decide +kernel
theorem dX10_way_14 : decode cX10_way 14 = .ok (.iconst (-1), 1) := by decide +kernel
theorem dX10_way_15 : decode cX10_way 15 = .ok (.ireturn, 1) := by decide +kernel
theorem dX10_way_16 : decode cX10_way 16 = .ok (.aload_n 0, 1) := by decide +kernel
theorem dX10_way_17 : decode cX10_way 17 = .ok (.getfield 33, 3) := by decide +kernel
theorem dX10_way_20 : decode cX10_way 20 = .ok (.bipush 40, 2) := by decide +kernel
theorem dX10_way_22 : decode cX10_way 22 = .ok (.iload_n 1, 1) := by decide +kernel
theorem dX10_way_23 : decode cX10_way 23 = .ok (.imul, 1) := by decide +kernel
theorem dX10_way_24 : decode cX10_way 24 = .ok (.iload_n 2, 1) := by decide +kernel
theorem dX10_way_25 : decode cX10_way 25 = .ok (.iadd, 1) := by decide +kernel
theorem dX10_way_26 : decode cX10_way 26 = .ok (.iaload, 1) := by decide +kernel
theorem dX10_way_27 : decode cX10_way 27 = .ok (.istore_n 3, 1) := by decide +kernel
theorem dX10_way_28 : decode cX10_way 28 = .ok (.iload_n 3, 1) := by decide +kernel
theorem dX10_way_29 : decode cX10_way 29 = .ok (.ldc 102, 2) := by decide +kernel
theorem dX10_way_31 : decode cX10_way 31 = .ok (.if_icmp .ne 8, 3) := by decide +kernel
theorem dX10_way_34 : decode cX10_way 34 = .ok (.bipush (-10), 2) := by decide +kernel
theorem dX10_way_36 : decode cX10_way 36 = .ok (.goto 4, 3) := by decide +kernel
theorem dX10_way_39 : decode cX10_way 39 = .ok (.iload_n 3, 1) := by decide +kernel
theorem dX10_way_40 : decode cX10_way 40 = .ok (.ireturn, 1) := by decide +kernel
theorem dX10_next_0 : decode cX10_next 0 = .ok (.iconst 0, 1) := by decide +kernel
theorem dX10_next_1 : decode cX10_next 1 = .ok (.istore_n 3, 1) := by decide +kernel
theorem dX10_next_2 : decode cX10_next 2 = .ok (.iload_n 3, 1) := by decide +kernel
theorem dX10_next_3 : decode cX10_next 3 = .ok (.bipush 40, 2) := by decide +kernel
theorem dX10_next_5 : decode cX10_next 5 = .ok (.if_icmp .ge 128, 3) := by decide +kernel
theorem dX10_next_8 : decode cX10_next 8 = .ok (.iconst 0, 1) := by decide +kernel
theorem dX10_next_9 : decode cX10_next 9 = .ok (.istore 4, 2) := by decide +kernel
theorem dX10_next_11 : decode cX10_next 11 = .ok (.iload 4, 2) := by decide +kernel
theorem dX10_next_13 : decode cX10_next 13 = .ok (.aload_n 0, 1) := by decide +kernel
theorem dX10_next_14 : decode cX10_next 14 = .ok (.getfield 103, 3) := by decide +kernel
theorem dX10_next_17 : decode cX10_next 17 = .ok (.if_icmp .ge 110, 3) := by decide +kernel
theorem dX10_next_20 : decode cX10_next 20 = .ok (.aload_n 0, 1) := by decide +kernel
theorem dX10_next_21 : decode cX10_next 21 = .ok (.getfield 7, 3) := by decide +kernel
theorem dX10_next_24 : decode cX10_next 24 = .ok (.iload 4, 2) := by decide +kernel
theorem dX10_next_26 : decode cX10_next 26 = .ok (.iaload, 1) := by decide +kernel
theorem dX10_next_27 : decode cX10_next 27 = .ok (.iload_n 1, 1) := by decide +kernel
theorem dX10_next_28 : decode cX10_next 28 = .ok (.if_icmp .ne 14, 3) := by decide +kernel
theorem dX10_next_31 : decode cX10_next 31 = .ok (.aload_n 0, 1) := by decide +kernel
theorem dX10_next_32 : decode cX10_next 32 = .ok (.getfield 13, 3) := by decide +kernel
theorem dX10_next_35 : decode cX10_next 35 = .ok (.iload 4, 2) := by decide +kernel
theorem dX10_next_37 : decode cX10_next 37 = .ok (.iaload, 1) := by decide +kernel
theorem dX10_next_38 : decode cX10_next 38 = .ok (.iload_n 3, 1) := by decide +kernel
theorem dX10_next_39 : decode cX10_next 39 = .ok (.if_icmp .eq 25, 3) := by decide +kernel
theorem dX10_next_42 : decode cX10_next 42 = .ok (.aload_n 0, 1) := by decide +kernel
theorem dX10_next_43 : decode cX10_next 43 = .ok (.getfield 7, 3) := by decide +kernel
theorem dX10_next_46 : decode cX10_next 46 = .ok (.iload 4, 2) := by decide +kernel
theorem dX10_next_48 : decode cX10_next 48 = .ok (.iaload, 1) := by decide +kernel
theorem dX10_next_49 : decode cX10_next 49 = .ok (.iload_n 3, 1) := by decide +kernel
theorem dX10_next_50 : decode cX10_next 50 = .ok (.if_icmp .ne 18, 3) := by decide +kernel
theorem dX10_next_53 : decode cX10_next 53 = .ok (.aload_n 0, 1) := by decide +kernel
theorem dX10_next_54 : decode cX10_next 54 = .ok (.getfield 13, 3) := by decide +kernel
theorem dX10_next_57 : decode cX10_next 57 = .ok (.iload 4, 2) := by decide +kernel
theorem dX10_next_59 : decode cX10_next 59 = .ok (.iaload, 1) := by decide +kernel
theorem dX10_next_60 : decode cX10_next 60 = .ok (.iload_n 1, 1) := by decide +kernel
theorem dX10_next_61 : decode cX10_next 61 = .ok (.if_icmp .ne 7, 3) := by decide +kernel
theorem dX10_next_64 : decode cX10_next 64 = .ok (.iconst 1, 1) := by decide +kernel
theorem dX10_next_65 : decode cX10_next 65 = .ok (.goto 4, 3) := by decide +kernel
theorem dX10_next_68 : decode cX10_next 68 = .ok (.iconst 0, 1) := by decide +kernel
theorem dX10_next_69 : decode cX10_next 69 = .ok (.istore 5, 2) := by decide +kernel
theorem dX10_next_71 : decode cX10_next 71 = .ok (.aload_n 0, 1) := by decide +kernel
theorem dX10_next_72 : decode cX10_next 72 = .ok (.getfield 19, 3) := by decide +kernel
theorem dX10_next_75 : decode cX10_next 75 = .ok (.iload 4, 2) := by decide +kernel
theorem dX10_next_77 : decode cX10_next 77 = .ok (.baload, 1) := by decide +kernel
theorem dX10_next_78 : decode cX10_next 78 = .ok (.ifCond .eq 43, 3) := by decide +kernel
theorem dX10_next_81 : decode cX10_next 81 = .ok (.iload 5, 2) := by decide +kernel
theorem dX10_next_83 : decode cX10_next 83 = .ok (.ifCond .eq 38, 3) := by decide +kernel
theorem dX10_next_86 : decode cX10_next 86 = .ok (.aload_n 0, 1) := by decide +kernel
theorem dX10_next_87 : decode cX10_next 87 = .ok (.getfield 16, 3) := by decide +kernel
theorem dX10_next_90 : decode cX10_next 90 = .ok (.iload 4, 2) := by decide +kernel
theorem dX10_next_92 : decode cX10_next 92 = .ok (.iaload, 1) := by decide +kernel
theorem dX10_next_93 : decode cX10_next 93 = .ok (.aload_n 0, 1) := by decide +kernel
theorem dX10_next_94 : decode cX10_next 94 = .ok (.getfield 33, 3) := by decide +kernel
theorem dX10_next_97 : decode cX10_next 97 = .ok (.bipush 40, 2) := by decide +kernel
theorem dX10_next_99 : decode cX10_next 99 = .ok (.iload_n 3, 1) := by decide +kernel
theorem dX10_next_100 : decode cX10_next 100 = .ok (.imul, 1) := by decide +kernel
theorem dX10_next_101 : decode cX10_next 101 = .ok (.iload_n 2, 1) := by decide +kernel
theorem dX10_next_102 : decode cX10_next 102 = .ok (.iadd, 1) := by decide +kernel
theorem dX10_next_103 : decode cX10_next 103 = .ok (.iaload, 1) := by decide +kernel
theorem dX10_next_104 : decode cX10_next 104 = .ok (.iadd, 1) := by decide +kernel
theorem dX10_next_105 : decode cX10_next 105 = .ok (.aload_n 0, 1) := by decide +kernel
theorem dX10_next_106 : decode cX10_next 106 = .ok (.getfield 33, 3) := by decide +kernel
theorem dX10_next_109 : decode cX10_next 109 = .ok (.bipush 40, 2) := by decide +kernel
theorem dX10_next_111 : decode cX10_next 111 = .ok (.iload_n 1, 1) := by decide +kernel
theorem dX10_next_112 : decode cX10_next 112 = .ok (.imul, 1) := by decide +kernel
theorem dX10_next_113 : decode cX10_next 113 = .ok (.iload_n 2, 1) := by decide +kernel
theorem dX10_next_114 : decode cX10_next 114 = .ok (.iadd, 1) := by decide +kernel
theorem dX10_next_115 : decode cX10_next 115 = .ok (.iaload, 1) := by decide +kernel
theorem dX10_next_116 : decode cX10_next 116 = .ok (.if_icmp .ne 5, 3) := by decide +kernel
theorem dX10_next_119 : decode cX10_next 119 = .ok (.iload_n 3, 1) := by decide +kernel
theorem dX10_next_120 : decode cX10_next 120 = .ok (.ireturn, 1) := by decide +kernel
theorem dX10_next_121 : decode cX10_next 121 = .ok (.iinc 4 1, 3) := by decide +kernel
theorem dX10_next_124 : decode cX10_next 124 = .ok (.goto (-113), 3) := by decide +kernel
theorem dX10_next_127 : decode cX10_next 127 = .ok (.iinc 3 1, 3) := by decide +kernel
theorem dX10_next_130 : decode cX10_next 130 = .ok (.goto (-128), 3) := by decide +kernel
theorem dX10_next_133 : decode cX10_next 133 = .ok (.iconst (-1), 1) := by decide +kernel
theorem dX10_next_134 : decode cX10_next 134 = .ok (.ireturn, 1) := by decide +kernel
set_option maxRecDepth 20000 in
theorem ggX10_walk_X10_isCrossing : GoodIn wsX10_walk wsX10_isCrossing := goodIn_r _ [6] (by decide +kernel) (by decide +kernel)
set_option maxRecDepth 20000 in
theorem gX10_walk_X10_isCrossing : GoodIn wsX10_walk (va_wsS RX10 114 yX10_isCrossing wsX10_isCrossing) := goodIn_app (goodIn_of _ (by decide +kernel)) ggX10_walk_X10_isCrossing
set_option maxRecDepth 20000 in
theorem ggX10_walk_X10_next : GoodIn wsX10_walk wsX10_next := goodIn_r _ [10, 11, 12, 13, 14, 15, 1, 16, 17, 18, 19, 20, 21, 22, 23, 24, 25, 26, 27, 28, 29, 30, 31, 32, 33, 34, 35, 36, 37, 38, 39, 40, 41, 42, 43, 44, 45, 46, 47, 48, 49, 50, 51] (by decide +kernel) (by decide +kernel)
set_option maxRecDepth 20000 in
theorem gX10_walk_X10_next : GoodIn wsX10_walk (wsV RX10 130 RX10 yX10_next wsX10_next) := goodIn_app (goodIn_of _ (by decide +kernel)) ggX10_walk_X10_next
theorem dX10_walk_0 : decode cX10_walk 0 = .ok (.iload_n 1, 1) := by decide +kernel
theorem dX10_walk_1 : decode cX10_walk 1 = .ok (.invokestatic 114, 3) := by decide +kernel
theorem dX10_walk_4 : decode cX10_walk 4 = .ok (.ifCond .eq 30, 3) := by decide +kernel
theorem dX10_walk_7 : decode cX10_walk 7 = .ok (.iload_n 2, 1) := by decide +kernel
theorem dX10_walk_8 : decode cX10_walk 8 = .ok (.invokestatic 114, 3) := by decide +kernel
theorem dX10_walk_11 : decode cX10_walk 11 = .ok (.ifCond .eq 23, 3) := by decide +kernel
theorem dX10_walk_14 : decode cX10_walk 14 = .ok (.aload_n 0, 1) := by decide +kernel
theorem dX10_walk_15 : decode cX10_walk 15 = .ok (.getfield 33, 3) := by decide +kernel
theorem dX10_walk_18 : decode cX10_walk 18 = .ok (.bipush 40, 2) := by decide +kernel
theorem dX10_walk_20 : decode cX10_walk 20 = .ok (.iload_n 1, 1) := by decide +kernel
theorem dX10_walk_21 : decode cX10_walk 21 = .ok (.imul, 1) := by decide +kernel
theorem dX10_walk_22 : decode cX10_walk 22 = .ok (.iload_n 2, 1) := by decide +kernel
theorem dX10_walk_23 : decode cX10_walk 23 = .ok (.iadd, 1) := by decide +kernel
theorem dX10_walk_24 : decode cX10_walk 24 = .ok (.iaload, 1) := by decide +kernel
theorem dX10_walk_25 : decode cX10_walk 25 = .ok (.ldc 102, 2) := by decide +kernel
theorem dX10_walk_27 : decode cX10_walk 27 = .ok (.if_icmp .eq 7, 3) := by decide +kernel
theorem dX10_walk_30 : decode cX10_walk 30 = .ok (.iload_n 3, 1) := by decide +kernel
theorem dX10_walk_31 : decode cX10_walk 31 = .ok (.ifCond .ge 5, 3) := by decide +kernel
theorem dX10_walk_34 : decode cX10_walk 34 = .ok (.iconst (-1), 1) := by decide +kernel
theorem dX10_walk_35 : decode cX10_walk 35 = .ok (.ireturn, 1) := by decide +kernel
theorem dX10_walk_36 : decode cX10_walk 36 = .ok (.iload_n 1, 1) := by decide +kernel
theorem dX10_walk_37 : decode cX10_walk 37 = .ok (.istore 4, 2) := by decide +kernel
theorem dX10_walk_39 : decode cX10_walk 39 = .ok (.iconst 0, 1) := by decide +kernel
theorem dX10_walk_40 : decode cX10_walk 40 = .ok (.istore 5, 2) := by decide +kernel
theorem dX10_walk_42 : decode cX10_walk 42 = .ok (.iload 5, 2) := by decide +kernel
theorem dX10_walk_44 : decode cX10_walk 44 = .ok (.iload_n 3, 1) := by decide +kernel
theorem dX10_walk_45 : decode cX10_walk 45 = .ok (.if_icmp .ge 26, 3) := by decide +kernel
theorem dX10_walk_48 : decode cX10_walk 48 = .ok (.iload 4, 2) := by decide +kernel
theorem dX10_walk_50 : decode cX10_walk 50 = .ok (.iload_n 2, 1) := by decide +kernel
theorem dX10_walk_51 : decode cX10_walk 51 = .ok (.if_icmp .ne 5, 3) := by decide +kernel
theorem dX10_walk_54 : decode cX10_walk 54 = .ok (.iconst (-1), 1) := by decide +kernel
theorem dX10_walk_55 : decode cX10_walk 55 = .ok (.ireturn, 1) := by decide +kernel
theorem dX10_walk_56 : decode cX10_walk 56 = .ok (.aload_n 0, 1) := by decide +kernel
theorem dX10_walk_57 : decode cX10_walk 57 = .ok (.iload 4, 2) := by decide +kernel
theorem dX10_walk_59 : decode cX10_walk 59 = .ok (.iload_n 2, 1) := by decide +kernel
theorem dX10_walk_60 : decode cX10_walk 60 = .ok (.invokevirtual 130, 3) := by decide +kernel
theorem dX10_walk_63 : decode cX10_walk 63 = .ok (.istore 4, 2) := by decide +kernel
theorem dX10_walk_65 : decode cX10_walk 65 = .ok (.iinc 5 1, 3) := by decide +kernel
theorem dX10_walk_68 : decode cX10_walk 68 = .ok (.goto (-26), 3) := by decide +kernel
theorem dX10_walk_71 : decode cX10_walk 71 = .ok (.iload 4, 2) := by decide +kernel
theorem dX10_walk_73 : decode cX10_walk 73 = .ok (.ireturn, 1) := by decide +kernel
set_option maxRecDepth 20000 in
theorem ggX10_lamp_X10_isCrossing : GoodIn wsX10_lamp wsX10_isCrossing := goodIn_r _ [11] (by decide +kernel) (by decide +kernel)
set_option maxRecDepth 20000 in
theorem gX10_lamp_X10_isCrossing : GoodIn wsX10_lamp (va_wsS RX10 114 yX10_isCrossing wsX10_isCrossing) := goodIn_app (goodIn_of _ (by decide +kernel)) ggX10_lamp_X10_isCrossing
set_option maxRecDepth 20000 in
theorem ggX10_lamp_X10_isLamp : GoodIn wsX10_lamp wsX10_isLamp := goodIn_r _ [15, 1, 16, 17, 18, 19, 20, 21, 22, 23, 24, 25, 26, 27, 28, 29, 30, 31, 32, 33, 34, 35, 36, 37, 38, 39, 40, 41, 42, 43, 44, 45, 46, 47, 48, 49, 50, 51] (by decide +kernel) (by decide +kernel)
set_option maxRecDepth 20000 in
theorem gX10_lamp_X10_isLamp : GoodIn wsX10_lamp (wsV RX10 110 RX10 yX10_isLamp wsX10_isLamp) := goodIn_app (goodIn_of _ (by decide +kernel)) ggX10_lamp_X10_isLamp
theorem dX10_lamp_0 : decode cX10_lamp 0 = .ok (.iload_n 1, 1) := by decide +kernel
theorem dX10_lamp_1 : decode cX10_lamp 1 = .ok (.invokestatic 114, 3) := by decide +kernel
theorem dX10_lamp_4 : decode cX10_lamp 4 = .ok (.ifCond .eq 12, 3) := by decide +kernel
theorem dX10_lamp_7 : decode cX10_lamp 7 = .ok (.iload_n 2, 1) := by decide +kernel
theorem dX10_lamp_8 : decode cX10_lamp 8 = .ok (.ifCond .lt 8, 3) := by decide +kernel
theorem dX10_lamp_11 : decode cX10_lamp 11 = .ok (.iload_n 2, 1) := by decide +kernel
theorem dX10_lamp_12 : decode cX10_lamp 12 = .ok (.iconst 4, 1) := by decide +kernel
theorem dX10_lamp_13 : decode cX10_lamp 13 = .ok (.if_icmp .le 5, 3) := by decide +kernel
theorem dX10_lamp_16 : decode cX10_lamp 16 = .ok (.iconst (-1), 1) := by decide +kernel
theorem dX10_lamp_17 : decode cX10_lamp 17 = .ok (.ireturn, 1) := by decide +kernel
theorem dX10_lamp_18 : decode cX10_lamp 18 = .ok (.iconst 0, 1) := by decide +kernel
theorem dX10_lamp_19 : decode cX10_lamp 19 = .ok (.istore 4, 2) := by decide +kernel
theorem dX10_lamp_21 : decode cX10_lamp 21 = .ok (.iload 4, 2) := by decide +kernel
theorem dX10_lamp_23 : decode cX10_lamp 23 = .ok (.aload_n 0, 1) := by decide +kernel
theorem dX10_lamp_24 : decode cX10_lamp 24 = .ok (.getfield 107, 3) := by decide +kernel
theorem dX10_lamp_27 : decode cX10_lamp 27 = .ok (.if_icmp .ge 23, 3) := by decide +kernel
theorem dX10_lamp_30 : decode cX10_lamp 30 = .ok (.aload_n 0, 1) := by decide +kernel
theorem dX10_lamp_31 : decode cX10_lamp 31 = .ok (.getfield 36, 3) := by decide +kernel
theorem dX10_lamp_34 : decode cX10_lamp 34 = .ok (.iload 4, 2) := by decide +kernel
theorem dX10_lamp_36 : decode cX10_lamp 36 = .ok (.iaload, 1) := by decide +kernel
theorem dX10_lamp_37 : decode cX10_lamp 37 = .ok (.iload_n 1, 1) := by decide +kernel
theorem dX10_lamp_38 : decode cX10_lamp 38 = .ok (.if_icmp .ne 6, 3) := by decide +kernel
theorem dX10_lamp_41 : decode cX10_lamp 41 = .ok (.bipush (-4), 2) := by decide +kernel
theorem dX10_lamp_43 : decode cX10_lamp 43 = .ok (.ireturn, 1) := by decide +kernel
theorem dX10_lamp_44 : decode cX10_lamp 44 = .ok (.iinc 4 1, 3) := by decide +kernel
theorem dX10_lamp_47 : decode cX10_lamp 47 = .ok (.goto (-26), 3) := by decide +kernel
theorem dX10_lamp_50 : decode cX10_lamp 50 = .ok (.iload_n 2, 1) := by decide +kernel
theorem dX10_lamp_51 : decode cX10_lamp 51 = .ok (.iconst 1, 1) := by decide +kernel
theorem dX10_lamp_52 : decode cX10_lamp 52 = .ok (.if_icmp .ne 13, 3) := by decide +kernel
theorem dX10_lamp_55 : decode cX10_lamp 55 = .ok (.aload_n 0, 1) := by decide +kernel
theorem dX10_lamp_56 : decode cX10_lamp 56 = .ok (.iload_n 3, 1) := by decide +kernel
theorem dX10_lamp_57 : decode cX10_lamp 57 = .ok (.invokevirtual 110, 3) := by decide +kernel
theorem dX10_lamp_60 : decode cX10_lamp 60 = .ok (.ifCond .ne 5, 3) := by decide +kernel
theorem dX10_lamp_63 : decode cX10_lamp 63 = .ok (.iconst (-1), 1) := by decide +kernel
theorem dX10_lamp_64 : decode cX10_lamp 64 = .ok (.ireturn, 1) := by decide +kernel
theorem dX10_lamp_65 : decode cX10_lamp 65 = .ok (.aload_n 0, 1) := by decide +kernel
theorem dX10_lamp_66 : decode cX10_lamp 66 = .ok (.getfield 107, 3) := by decide +kernel
theorem dX10_lamp_69 : decode cX10_lamp 69 = .ok (.bipush 12, 2) := by decide +kernel
theorem dX10_lamp_71 : decode cX10_lamp 71 = .ok (.if_icmp .ne 6, 3) := by decide +kernel
theorem dX10_lamp_74 : decode cX10_lamp 74 = .ok (.bipush (-2), 2) := by decide +kernel
theorem dX10_lamp_76 : decode cX10_lamp 76 = .ok (.ireturn, 1) := by decide +kernel
theorem dX10_lamp_77 : decode cX10_lamp 77 = .ok (.aload_n 0, 1) := by decide +kernel
theorem dX10_lamp_78 : decode cX10_lamp 78 = .ok (.getfield 36, 3) := by decide +kernel
theorem dX10_lamp_81 : decode cX10_lamp 81 = .ok (.aload_n 0, 1) := by decide +kernel
theorem dX10_lamp_82 : decode cX10_lamp 82 = .ok (.getfield 107, 3) := by decide +kernel
theorem dX10_lamp_85 : decode cX10_lamp 85 = .ok (.iload_n 1, 1) := by decide +kernel
theorem dX10_lamp_86 : decode cX10_lamp 86 = .ok (.iastore, 1) := by decide +kernel
theorem dX10_lamp_87 : decode cX10_lamp 87 = .ok (.aload_n 0, 1) := by decide +kernel
theorem dX10_lamp_88 : decode cX10_lamp 88 = .ok (.getfield 39, 3) := by decide +kernel
theorem dX10_lamp_91 : decode cX10_lamp 91 = .ok (.aload_n 0, 1) := by decide +kernel
theorem dX10_lamp_92 : decode cX10_lamp 92 = .ok (.getfield 107, 3) := by decide +kernel
theorem dX10_lamp_95 : decode cX10_lamp 95 = .ok (.iload_n 2, 1) := by decide +kernel
theorem dX10_lamp_96 : decode cX10_lamp 96 = .ok (.iastore, 1) := by decide +kernel
theorem dX10_lamp_97 : decode cX10_lamp 97 = .ok (.aload_n 0, 1) := by decide +kernel
theorem dX10_lamp_98 : decode cX10_lamp 98 = .ok (.getfield 42, 3) := by decide +kernel
theorem dX10_lamp_101 : decode cX10_lamp 101 = .ok (.aload_n 0, 1) := by decide +kernel
theorem dX10_lamp_102 : decode cX10_lamp 102 = .ok (.getfield 107, 3) := by decide +kernel
theorem dX10_lamp_105 : decode cX10_lamp 105 = .ok (.iload_n 3, 1) := by decide +kernel
theorem dX10_lamp_106 : decode cX10_lamp 106 = .ok (.iastore, 1) := by decide +kernel
theorem dX10_lamp_107 : decode cX10_lamp 107 = .ok (.aload_n 0, 1) := by decide +kernel
theorem dX10_lamp_108 : decode cX10_lamp 108 = .ok (.getfield 45, 3) := by decide +kernel
theorem dX10_lamp_111 : decode cX10_lamp 111 = .ok (.aload_n 0, 1) := by decide +kernel
theorem dX10_lamp_112 : decode cX10_lamp 112 = .ok (.getfield 107, 3) := by decide +kernel
theorem dX10_lamp_115 : decode cX10_lamp 115 = .ok (.iconst 0, 1) := by decide +kernel
theorem dX10_lamp_116 : decode cX10_lamp 116 = .ok (.bastore, 1) := by decide +kernel
theorem dX10_lamp_117 : decode cX10_lamp 117 = .ok (.aload_n 0, 1) := by decide +kernel
theorem dX10_lamp_118 : decode cX10_lamp 118 = .ok (.getfield 48, 3) := by decide +kernel
theorem dX10_lamp_121 : decode cX10_lamp 121 = .ok (.aload_n 0, 1) := by decide +kernel
theorem dX10_lamp_122 : decode cX10_lamp 122 = .ok (.getfield 107, 3) := by decide +kernel
theorem dX10_lamp_125 : decode cX10_lamp 125 = .ok (.iconst 0, 1) := by decide +kernel
theorem dX10_lamp_126 : decode cX10_lamp 126 = .ok (.iastore, 1) := by decide +kernel
theorem dX10_lamp_127 : decode cX10_lamp 127 = .ok (.aload_n 0, 1) := by decide +kernel
theorem dX10_lamp_128 : decode cX10_lamp 128 = .ok (.dup, 1) := by decide +kernel
theorem dX10_lamp_129 : decode cX10_lamp 129 = .ok (.getfield 107, 3) := by decide +kernel
theorem dX10_lamp_132 : decode cX10_lamp 132 = .ok (.iconst 1, 1) := by decide +kernel
theorem dX10_lamp_133 : decode cX10_lamp 133 = .ok (.iadd, 1) := by decide +kernel
theorem dX10_lamp_134 : decode cX10_lamp 134 = .ok (.putfield 107, 3) := by decide +kernel
theorem dX10_lamp_137 : decode cX10_lamp 137 = .ok (.aload_n 0, 1) := by decide +kernel
theorem dX10_lamp_138 : decode cX10_lamp 138 = .ok (.iconst 0, 1) := by decide +kernel
theorem dX10_lamp_139 : decode cX10_lamp 139 = .ok (.putfield 117, 3) := by decide +kernel
theorem dX10_lamp_142 : decode cX10_lamp 142 = .ok (.aload_n 0, 1) := by decide +kernel
theorem dX10_lamp_143 : decode cX10_lamp 143 = .ok (.getfield 107, 3) := by decide +kernel
theorem dX10_lamp_146 : decode cX10_lamp 146 = .ok (.iconst 1, 1) := by decide +kernel
theorem dX10_lamp_147 : decode cX10_lamp 147 = .ok (.isub, 1) := by decide +kernel
theorem dX10_lamp_148 : decode cX10_lamp 148 = .ok (.ireturn, 1) := by decide +kernel
set_option maxRecDepth 20000 in
theorem ggX10_dark_X10_isLamp : GoodIn wsX10_dark wsX10_isLamp := goodIn_r _ [8, 9, 10, 11, 12, 13, 14, 15, 16, 17, 18, 19, 20, 21, 22, 23, 24, 25, 26, 27, 28, 29, 30, 31, 32, 33, 34, 35, 36, 37, 38, 39, 40, 41, 42, 43, 44, 45] (by decide +kernel) (by decide +kernel)
set_option maxRecDepth 20000 in
theorem gX10_dark_X10_isLamp : GoodIn wsX10_dark (wsV RX10 110 RX10 yX10_isLamp wsX10_isLamp) := goodIn_app (goodIn_of _ (by decide +kernel)) ggX10_dark_X10_isLamp
theorem dX10_dark_0 : decode cX10_dark 0 = .ok (.aload_n 0, 1) := by decide +kernel
theorem dX10_dark_1 : decode cX10_dark 1 = .ok (.iload_n 1, 1) := by decide +kernel
theorem dX10_dark_2 : decode cX10_dark 2 = .ok (.invokevirtual 110, 3) := by decide +kernel
theorem dX10_dark_5 : decode cX10_dark 5 = .ok (.ifCond .ne 5, 3) := by decide +kernel
theorem dX10_dark_8 : decode cX10_dark 8 = .ok (.iconst (-1), 1) := by decide +kernel
theorem dX10_dark_9 : decode cX10_dark 9 = .ok (.ireturn, 1) := by decide +kernel
theorem dX10_dark_10 : decode cX10_dark 10 = .ok (.aload_n 0, 1) := by decide +kernel
theorem dX10_dark_11 : decode cX10_dark 11 = .ok (.getfield 39, 3) := by decide +kernel
theorem dX10_dark_14 : decode cX10_dark 14 = .ok (.iload_n 1, 1) := by decide +kernel
theorem dX10_dark_15 : decode cX10_dark 15 = .ok (.iaload, 1) := by decide +kernel
theorem dX10_dark_16 : decode cX10_dark 16 = .ok (.iconst 3, 1) := by decide +kernel
theorem dX10_dark_17 : decode cX10_dark 17 = .ok (.if_icmp .ge 6, 3) := by decide +kernel
theorem dX10_dark_20 : decode cX10_dark 20 = .ok (.bipush (-5), 2) := by decide +kernel
theorem dX10_dark_22 : decode cX10_dark 22 = .ok (.ireturn, 1) := by decide +kernel
theorem dX10_dark_23 : decode cX10_dark 23 = .ok (.aload_n 0, 1) := by decide +kernel
theorem dX10_dark_24 : decode cX10_dark 24 = .ok (.getfield 45, 3) := by decide +kernel
theorem dX10_dark_27 : decode cX10_dark 27 = .ok (.iload_n 1, 1) := by decide +kernel
theorem dX10_dark_28 : decode cX10_dark 28 = .ok (.baload, 1) := by decide +kernel
theorem dX10_dark_29 : decode cX10_dark 29 = .ok (.iload_n 2, 1) := by decide +kernel
theorem dX10_dark_30 : decode cX10_dark 30 = .ok (.if_icmp .ne 5, 3) := by decide +kernel
theorem dX10_dark_33 : decode cX10_dark 33 = .ok (.iconst 0, 1) := by decide +kernel
theorem dX10_dark_34 : decode cX10_dark 34 = .ok (.ireturn, 1) := by decide +kernel
theorem dX10_dark_35 : decode cX10_dark 35 = .ok (.aload_n 0, 1) := by decide +kernel
theorem dX10_dark_36 : decode cX10_dark 36 = .ok (.getfield 45, 3) := by decide +kernel
theorem dX10_dark_39 : decode cX10_dark 39 = .ok (.iload_n 1, 1) := by decide +kernel
theorem dX10_dark_40 : decode cX10_dark 40 = .ok (.iload_n 2, 1) := by decide +kernel
theorem dX10_dark_41 : decode cX10_dark 41 = .ok (.bastore, 1) := by decide +kernel
theorem dX10_dark_42 : decode cX10_dark 42 = .ok (.aload_n 0, 1) := by decide +kernel
theorem dX10_dark_43 : decode cX10_dark 43 = .ok (.iconst 0, 1) := by decide +kernel
theorem dX10_dark_44 : decode cX10_dark 44 = .ok (.putfield 117, 3) := by decide +kernel
theorem dX10_dark_47 : decode cX10_dark 47 = .ok (.iconst 1, 1) := by decide +kernel
theorem dX10_dark_48 : decode cX10_dark 48 = .ok (.ireturn, 1) := by decide +kernel
set_option maxRecDepth 20000 in
theorem ggX10_twinOf_X10_between : GoodIn wsX10_twinOf wsX10_between := goodIn_r _ [9, 10, 11, 12, 13, 14, 15, 16, 17, 18, 19, 20, 21, 22, 23, 24, 25, 26, 27, 28, 29, 30, 31, 32, 33, 34, 35, 36, 37, 38, 39, 40, 41, 42, 43, 44, 45, 46, 47] (by decide +kernel) (by decide +kernel)
set_option maxRecDepth 20000 in
theorem gX10_twinOf_X10_between : GoodIn wsX10_twinOf (wsV RX10 134 RX10 yX10_between wsX10_between) := goodIn_app (goodIn_of _ (by decide +kernel)) ggX10_twinOf_X10_between
theorem dX10_twinOf_0 : decode cX10_twinOf 0 = .ok (.aload_n 0, 1) := by decide +kernel
theorem dX10_twinOf_1 : decode cX10_twinOf 1 = .ok (.getfield 39, 3) := by decide +kernel
theorem dX10_twinOf_4 : decode cX10_twinOf 4 = .ok (.iload_n 1, 1) := by decide +kernel
theorem dX10_twinOf_5 : decode cX10_twinOf 5 = .ok (.iaload, 1) := by decide +kernel
theorem dX10_twinOf_6 : decode cX10_twinOf 6 = .ok (.iconst 1, 1) := by decide +kernel
theorem dX10_twinOf_7 : decode cX10_twinOf 7 = .ok (.if_icmp .ne 10, 3) := by decide +kernel
theorem dX10_twinOf_10 : decode cX10_twinOf 10 = .ok (.aload_n 0, 1) := by decide +kernel
theorem dX10_twinOf_11 : decode cX10_twinOf 11 = .ok (.getfield 42, 3) := by decide +kernel
theorem dX10_twinOf_14 : decode cX10_twinOf 14 = .ok (.iload_n 1, 1) := by decide +kernel
theorem dX10_twinOf_15 : decode cX10_twinOf 15 = .ok (.iaload, 1) := by decide +kernel
theorem dX10_twinOf_16 : decode cX10_twinOf 16 = .ok (.ireturn, 1) := by decide +kernel
theorem dX10_twinOf_17 : decode cX10_twinOf 17 = .ok (.iconst (-1), 1) := by decide +kernel
theorem dX10_twinOf_18 : decode cX10_twinOf 18 = .ok (.istore_n 2, 1) := by decide +kernel
theorem dX10_twinOf_19 : decode cX10_twinOf 19 = .ok (.iconst 0, 1) := by decide +kernel
theorem dX10_twinOf_20 : decode cX10_twinOf 20 = .ok (.istore_n 3, 1) := by decide +kernel
theorem dX10_twinOf_21 : decode cX10_twinOf 21 = .ok (.iload_n 3, 1) := by decide +kernel
theorem dX10_twinOf_22 : decode cX10_twinOf 22 = .ok (.aload_n 0, 1) := by decide +kernel
theorem dX10_twinOf_23 : decode cX10_twinOf 23 = .ok (.getfield 107, 3) := by decide +kernel
theorem dX10_twinOf_26 : decode cX10_twinOf 26 = .ok (.if_icmp .ge 56, 3) := by decide +kernel
theorem dX10_twinOf_29 : decode cX10_twinOf 29 = .ok (.aload_n 0, 1) := by decide +kernel
theorem dX10_twinOf_30 : decode cX10_twinOf 30 = .ok (.getfield 39, 3) := by decide +kernel
theorem dX10_twinOf_33 : decode cX10_twinOf 33 = .ok (.iload_n 1, 1) := by decide +kernel
theorem dX10_twinOf_34 : decode cX10_twinOf 34 = .ok (.iaload, 1) := by decide +kernel
theorem dX10_twinOf_35 : decode cX10_twinOf 35 = .ok (.iconst 2, 1) := by decide +kernel
theorem dX10_twinOf_36 : decode cX10_twinOf 36 = .ok (.if_icmp .ne 46, 3) := by decide +kernel
theorem dX10_twinOf_39 : decode cX10_twinOf 39 = .ok (.iload_n 3, 1) := by decide +kernel
theorem dX10_twinOf_40 : decode cX10_twinOf 40 = .ok (.iload_n 1, 1) := by decide +kernel
theorem dX10_twinOf_41 : decode cX10_twinOf 41 = .ok (.if_icmp .eq 35, 3) := by decide +kernel
theorem dX10_twinOf_44 : decode cX10_twinOf 44 = .ok (.aload_n 0, 1) := by decide +kernel
theorem dX10_twinOf_45 : decode cX10_twinOf 45 = .ok (.iload_n 1, 1) := by decide +kernel
theorem dX10_twinOf_46 : decode cX10_twinOf 46 = .ok (.iload_n 3, 1) := by decide +kernel
theorem dX10_twinOf_47 : decode cX10_twinOf 47 = .ok (.invokevirtual 134, 3) := by decide +kernel
theorem dX10_twinOf_50 : decode cX10_twinOf 50 = .ok (.ldc 102, 2) := by decide +kernel
theorem dX10_twinOf_52 : decode cX10_twinOf 52 = .ok (.if_icmp .eq 24, 3) := by decide +kernel
theorem dX10_twinOf_55 : decode cX10_twinOf 55 = .ok (.iload_n 2, 1) := by decide +kernel
theorem dX10_twinOf_56 : decode cX10_twinOf 56 = .ok (.ifCond .lt 18, 3) := by decide +kernel
theorem dX10_twinOf_59 : decode cX10_twinOf 59 = .ok (.aload_n 0, 1) := by decide +kernel
theorem dX10_twinOf_60 : decode cX10_twinOf 60 = .ok (.iload_n 1, 1) := by decide +kernel
theorem dX10_twinOf_61 : decode cX10_twinOf 61 = .ok (.iload_n 3, 1) := by decide +kernel
theorem dX10_twinOf_62 : decode cX10_twinOf 62 = .ok (.invokevirtual 134, 3) := by decide +kernel
theorem dX10_twinOf_65 : decode cX10_twinOf 65 = .ok (.aload_n 0, 1) := by decide +kernel
theorem dX10_twinOf_66 : decode cX10_twinOf 66 = .ok (.iload_n 1, 1) := by decide +kernel
theorem dX10_twinOf_67 : decode cX10_twinOf 67 = .ok (.iload_n 2, 1) := by decide +kernel
theorem dX10_twinOf_68 : decode cX10_twinOf 68 = .ok (.invokevirtual 134, 3) := by decide +kernel
theorem dX10_twinOf_71 : decode cX10_twinOf 71 = .ok (.if_icmp .ge 5, 3) := by decide +kernel
theorem dX10_twinOf_74 : decode cX10_twinOf 74 = .ok (.iload_n 3, 1) := by decide +kernel
theorem dX10_twinOf_75 : decode cX10_twinOf 75 = .ok (.istore_n 2, 1) := by decide +kernel
theorem dX10_twinOf_76 : decode cX10_twinOf 76 = .ok (.iinc 3 1, 3) := by decide +kernel
theorem dX10_twinOf_79 : decode cX10_twinOf 79 = .ok (.goto (-58), 3) := by decide +kernel
theorem dX10_twinOf_82 : decode cX10_twinOf 82 = .ok (.iload_n 2, 1) := by decide +kernel
theorem dX10_twinOf_83 : decode cX10_twinOf 83 = .ok (.ireturn, 1) := by decide +kernel
set_option maxRecDepth 20000 in
theorem ggX10_twin_X10_isLamp : GoodIn wsX10_twin wsX10_isLamp := goodIn_r _ [6, 7, 20, 21, 22, 23, 24, 25, 26, 27, 28, 29, 30, 31, 32, 33, 34, 35, 36, 37, 38, 39, 40, 41, 42, 43, 44, 45, 46, 47, 48, 49, 50, 51, 52, 53, 54, 55] (by decide +kernel) (by decide +kernel)
set_option maxRecDepth 20000 in
theorem gX10_twin_X10_isLamp : GoodIn wsX10_twin (wsV RX10 110 RX10 yX10_isLamp wsX10_isLamp) := goodIn_app (goodIn_of _ (by decide +kernel)) ggX10_twin_X10_isLamp
set_option maxRecDepth 20000 in
theorem ggX10_twin_X10_twinOf : GoodIn wsX10_twin wsX10_twinOf := goodIn_r _ [11, 1, 12, 7, 13, 14, 15, 16, 5, 17, 18, 19, 20, 21, 22, 23, 24, 25, 26, 27, 28, 29, 30, 31, 32, 33, 34, 35, 36, 37, 38, 39, 40, 41, 42, 43, 44, 45, 46, 47, 48, 49, 50, 51, 52, 53, 54, 55] (by decide +kernel) (by decide +kernel)
set_option maxRecDepth 20000 in
theorem gX10_twin_X10_twinOf : GoodIn wsX10_twin (wsV RX10 137 RX10 yX10_twinOf wsX10_twinOf) := goodIn_app (goodIn_of _ (by decide +kernel)) ggX10_twin_X10_twinOf
theorem dX10_twin_0 : decode cX10_twin 0 = .ok (.aload_n 0, 1) := by decide +kernel
theorem dX10_twin_1 : decode cX10_twin 1 = .ok (.iload_n 1, 1) := by decide +kernel
theorem dX10_twin_2 : decode cX10_twin 2 = .ok (.invokevirtual 110, 3) := by decide +kernel
theorem dX10_twin_5 : decode cX10_twin 5 = .ok (.ifCond .ne 6, 3) := by decide +kernel
theorem dX10_twin_8 : decode cX10_twin 8 = .ok (.bipush (-2), 2) := by decide +kernel
theorem dX10_twin_10 : decode cX10_twin 10 = .ok (.ireturn, 1) := by decide +kernel
theorem dX10_twin_11 : decode cX10_twin 11 = .ok (.aload_n 0, 1) := by decide +kernel
theorem dX10_twin_12 : decode cX10_twin 12 = .ok (.getfield 39, 3) := by decide +kernel
theorem dX10_twin_15 : decode cX10_twin 15 = .ok (.iload_n 1, 1) := by decide +kernel
theorem dX10_twin_16 : decode cX10_twin 16 = .ok (.iaload, 1) := by decide +kernel
theorem dX10_twin_17 : decode cX10_twin 17 = .ok (.iconst 1, 1) := by decide +kernel
theorem dX10_twin_18 : decode cX10_twin 18 = .ok (.if_icmp .eq 18, 3) := by decide +kernel
theorem dX10_twin_21 : decode cX10_twin 21 = .ok (.aload_n 0, 1) := by decide +kernel
theorem dX10_twin_22 : decode cX10_twin 22 = .ok (.getfield 39, 3) := by decide +kernel
theorem dX10_twin_25 : decode cX10_twin 25 = .ok (.iload_n 1, 1) := by decide +kernel
theorem dX10_twin_26 : decode cX10_twin 26 = .ok (.iaload, 1) := by decide +kernel
theorem dX10_twin_27 : decode cX10_twin 27 = .ok (.iconst 2, 1) := by decide +kernel
theorem dX10_twin_28 : decode cX10_twin 28 = .ok (.if_icmp .eq 8, 3) := by decide +kernel
theorem dX10_twin_31 : decode cX10_twin 31 = .ok (.bipush (-5), 2) := by decide +kernel
theorem dX10_twin_33 : decode cX10_twin 33 = .ok (.goto 8, 3) := by decide +kernel
theorem dX10_twin_36 : decode cX10_twin 36 = .ok (.aload_n 0, 1) := by decide +kernel
theorem dX10_twin_37 : decode cX10_twin 37 = .ok (.iload_n 1, 1) := by decide +kernel
theorem dX10_twin_38 : decode cX10_twin 38 = .ok (.invokevirtual 137, 3) := by decide +kernel
theorem dX10_twin_41 : decode cX10_twin 41 = .ok (.ireturn, 1) := by decide +kernel
set_option maxRecDepth 20000 in
theorem ggX10_of_X10_isLamp : GoodIn wsX10_of wsX10_isLamp := goodIn_r _ [10, 11, 12, 13, 14, 15, 16, 17, 18, 19, 20, 21, 22, 23, 24, 25, 26, 27, 28, 29, 30, 31, 32, 33, 34, 35, 36, 37, 38, 39, 40, 41, 42, 43, 44, 45, 46, 47] (by decide +kernel) (by decide +kernel)
set_option maxRecDepth 20000 in
theorem gX10_of_X10_isLamp : GoodIn wsX10_of (wsV RX10 110 RX10 yX10_isLamp wsX10_isLamp) := goodIn_app (goodIn_of _ (by decide +kernel)) ggX10_of_X10_isLamp
theorem dX10_of_0 : decode cX10_of 0 = .ok (.aload_n 0, 1) := by decide +kernel
theorem dX10_of_1 : decode cX10_of 1 = .ok (.iload_n 1, 1) := by decide +kernel
theorem dX10_of_2 : decode cX10_of 2 = .ok (.invokevirtual 110, 3) := by decide +kernel
theorem dX10_of_5 : decode cX10_of 5 = .ok (.ifCond .eq 12, 3) := by decide +kernel
theorem dX10_of_8 : decode cX10_of 8 = .ok (.iload_n 2, 1) := by decide +kernel
theorem dX10_of_9 : decode cX10_of 9 = .ok (.ifCond .lt 8, 3) := by decide +kernel
theorem dX10_of_12 : decode cX10_of 12 = .ok (.iload_n 2, 1) := by decide +kernel
theorem dX10_of_13 : decode cX10_of 13 = .ok (.iconst 4, 1) := by decide +kernel
theorem dX10_of_14 : decode cX10_of 14 = .ok (.if_icmp .le 6, 3) := by decide +kernel
theorem dX10_of_17 : decode cX10_of 17 = .ok (.ldc 141, 2) := by decide +kernel
theorem dX10_of_19 : decode cX10_of 19 = .ok (.ireturn, 1) := by decide +kernel
theorem dX10_of_20 : decode cX10_of 20 = .ok (.iload_n 2, 1) := by decide +kernel
theorem dX10_of_21 : decode cX10_of 21 = .ok (.ifCond .ne 12, 3) := by decide +kernel
theorem dX10_of_24 : decode cX10_of 24 = .ok (.aload_n 0, 1) := by decide +kernel
theorem dX10_of_25 : decode cX10_of 25 = .ok (.getfield 36, 3) := by decide +kernel
theorem dX10_of_28 : decode cX10_of 28 = .ok (.iload_n 1, 1) := by decide +kernel
theorem dX10_of_29 : decode cX10_of 29 = .ok (.iaload, 1) := by decide +kernel
theorem dX10_of_30 : decode cX10_of 30 = .ok (.goto 68, 3) := by decide +kernel
theorem dX10_of_33 : decode cX10_of 33 = .ok (.iload_n 2, 1) := by decide +kernel
theorem dX10_of_34 : decode cX10_of 34 = .ok (.iconst 1, 1) := by decide +kernel
theorem dX10_of_35 : decode cX10_of 35 = .ok (.if_icmp .ne 12, 3) := by decide +kernel
theorem dX10_of_38 : decode cX10_of 38 = .ok (.aload_n 0, 1) := by decide +kernel
theorem dX10_of_39 : decode cX10_of 39 = .ok (.getfield 39, 3) := by decide +kernel
theorem dX10_of_42 : decode cX10_of 42 = .ok (.iload_n 1, 1) := by decide +kernel
theorem dX10_of_43 : decode cX10_of 43 = .ok (.iaload, 1) := by decide +kernel
theorem dX10_of_44 : decode cX10_of 44 = .ok (.goto 54, 3) := by decide +kernel
theorem dX10_of_47 : decode cX10_of 47 = .ok (.iload_n 2, 1) := by decide +kernel
theorem dX10_of_48 : decode cX10_of 48 = .ok (.iconst 2, 1) := by decide +kernel
theorem dX10_of_49 : decode cX10_of 49 = .ok (.if_icmp .ne 21, 3) := by decide +kernel
theorem dX10_of_52 : decode cX10_of 52 = .ok (.aload_n 0, 1) := by decide +kernel
theorem dX10_of_53 : decode cX10_of 53 = .ok (.getfield 39, 3) := by decide +kernel
theorem dX10_of_56 : decode cX10_of 56 = .ok (.iload_n 1, 1) := by decide +kernel
theorem dX10_of_57 : decode cX10_of 57 = .ok (.iaload, 1) := by decide +kernel
theorem dX10_of_58 : decode cX10_of 58 = .ok (.iconst 4, 1) := by decide +kernel
theorem dX10_of_59 : decode cX10_of 59 = .ok (.if_icmp .ne 7, 3) := by decide +kernel
theorem dX10_of_62 : decode cX10_of 62 = .ok (.iconst 2, 1) := by decide +kernel
theorem dX10_of_63 : decode cX10_of 63 = .ok (.goto 35, 3) := by decide +kernel
theorem dX10_of_66 : decode cX10_of 66 = .ok (.iconst 1, 1) := by decide +kernel
theorem dX10_of_67 : decode cX10_of 67 = .ok (.goto 31, 3) := by decide +kernel
theorem dX10_of_70 : decode cX10_of 70 = .ok (.iload_n 2, 1) := by decide +kernel
theorem dX10_of_71 : decode cX10_of 71 = .ok (.iconst 3, 1) := by decide +kernel
theorem dX10_of_72 : decode cX10_of 72 = .ok (.if_icmp .ne 20, 3) := by decide +kernel
theorem dX10_of_75 : decode cX10_of 75 = .ok (.aload_n 0, 1) := by decide +kernel
theorem dX10_of_76 : decode cX10_of 76 = .ok (.getfield 45, 3) := by decide +kernel
theorem dX10_of_79 : decode cX10_of 79 = .ok (.iload_n 1, 1) := by decide +kernel
theorem dX10_of_80 : decode cX10_of 80 = .ok (.baload, 1) := by decide +kernel
theorem dX10_of_81 : decode cX10_of 81 = .ok (.ifCond .eq 7, 3) := by decide +kernel
theorem dX10_of_84 : decode cX10_of 84 = .ok (.iconst 1, 1) := by decide +kernel
theorem dX10_of_85 : decode cX10_of 85 = .ok (.goto 13, 3) := by decide +kernel
theorem dX10_of_88 : decode cX10_of 88 = .ok (.iconst 0, 1) := by decide +kernel
theorem dX10_of_89 : decode cX10_of 89 = .ok (.goto 9, 3) := by decide +kernel
theorem dX10_of_92 : decode cX10_of 92 = .ok (.aload_n 0, 1) := by decide +kernel
theorem dX10_of_93 : decode cX10_of 93 = .ok (.getfield 48, 3) := by decide +kernel
theorem dX10_of_96 : decode cX10_of 96 = .ok (.iload_n 1, 1) := by decide +kernel
theorem dX10_of_97 : decode cX10_of 97 = .ok (.iaload, 1) := by decide +kernel
theorem dX10_of_98 : decode cX10_of 98 = .ok (.ireturn, 1) := by decide +kernel
set_option maxRecDepth 20000 in
theorem ggX10_many_X10_lit : GoodIn wsX10_many wsX10_lit := goodIn_r _ [11, 2, 5, 12, 13, 14, 15, 16, 17, 18, 19, 20, 21, 22, 23, 24, 25, 26, 27, 28, 29, 30, 31, 32, 33, 34, 35, 36, 37, 38, 39, 40, 41, 42, 43, 44, 45, 46, 47] (by decide +kernel) (by decide +kernel)
set_option maxRecDepth 20000 in
theorem gX10_many_X10_lit : GoodIn wsX10_many (wsV RX10 142 RX10 yX10_lit wsX10_lit) := goodIn_app (goodIn_of _ (by decide +kernel)) ggX10_many_X10_lit
theorem dX10_many_0 : decode cX10_many 0 = .ok (.iconst 0, 1) := by decide +kernel
theorem dX10_many_1 : decode cX10_many 1 = .ok (.istore_n 2, 1) := by decide +kernel
theorem dX10_many_2 : decode cX10_many 2 = .ok (.iload_n 1, 1) := by decide +kernel
theorem dX10_many_3 : decode cX10_many 3 = .ok (.tableswitch 111 0 5 #[37, 42, 47, 52, 57, 62], 37) := by decide +kernel
theorem dX10_many_40 : decode cX10_many 40 = .ok (.aload_n 0, 1) := by decide +kernel
theorem dX10_many_41 : decode cX10_many 41 = .ok (.getfield 103, 3) := by decide +kernel
theorem dX10_many_44 : decode cX10_many 44 = .ok (.ireturn, 1) := by decide +kernel
theorem dX10_many_45 : decode cX10_many 45 = .ok (.aload_n 0, 1) := by decide +kernel
theorem dX10_many_46 : decode cX10_many 46 = .ok (.getfield 107, 3) := by decide +kernel
theorem dX10_many_49 : decode cX10_many 49 = .ok (.ireturn, 1) := by decide +kernel
theorem dX10_many_50 : decode cX10_many 50 = .ok (.aload_n 0, 1) := by decide +kernel
theorem dX10_many_51 : decode cX10_many 51 = .ok (.invokevirtual 142, 3) := by decide +kernel
theorem dX10_many_54 : decode cX10_many 54 = .ok (.ireturn, 1) := by decide +kernel
theorem dX10_many_55 : decode cX10_many 55 = .ok (.aload_n 0, 1) := by decide +kernel
theorem dX10_many_56 : decode cX10_many 56 = .ok (.getfield 146, 3) := by decide +kernel
theorem dX10_many_59 : decode cX10_many 59 = .ok (.ireturn, 1) := by decide +kernel
theorem dX10_many_60 : decode cX10_many 60 = .ok (.aload_n 0, 1) := by decide +kernel
theorem dX10_many_61 : decode cX10_many 61 = .ok (.getfield 117, 3) := by decide +kernel
theorem dX10_many_64 : decode cX10_many 64 = .ok (.ireturn, 1) := by decide +kernel
theorem dX10_many_65 : decode cX10_many 65 = .ok (.iconst 0, 1) := by decide +kernel
theorem dX10_many_66 : decode cX10_many 66 = .ok (.istore_n 3, 1) := by decide +kernel
theorem dX10_many_67 : decode cX10_many 67 = .ok (.iload_n 3, 1) := by decide +kernel
theorem dX10_many_68 : decode cX10_many 68 = .ok (.aload_n 0, 1) := by decide +kernel
theorem dX10_many_69 : decode cX10_many 69 = .ok (.getfield 107, 3) := by decide +kernel
theorem dX10_many_72 : decode cX10_many 72 = .ok (.if_icmp .ge 40, 3) := by decide +kernel
theorem dX10_many_75 : decode cX10_many 75 = .ok (.iload_n 2, 1) := by decide +kernel
theorem dX10_many_76 : decode cX10_many 76 = .ok (.aload_n 0, 1) := by decide +kernel
theorem dX10_many_77 : decode cX10_many 77 = .ok (.getfield 45, 3) := by decide +kernel
theorem dX10_many_80 : decode cX10_many 80 = .ok (.iload_n 3, 1) := by decide +kernel
theorem dX10_many_81 : decode cX10_many 81 = .ok (.baload, 1) := by decide +kernel
theorem dX10_many_82 : decode cX10_many 82 = .ok (.ifCond .eq 7, 3) := by decide +kernel
theorem dX10_many_85 : decode cX10_many 85 = .ok (.iconst 0, 1) := by decide +kernel
theorem dX10_many_86 : decode cX10_many 86 = .ok (.goto 18, 3) := by decide +kernel
theorem dX10_many_89 : decode cX10_many 89 = .ok (.aload_n 0, 1) := by decide +kernel
theorem dX10_many_90 : decode cX10_many 90 = .ok (.getfield 39, 3) := by decide +kernel
theorem dX10_many_93 : decode cX10_many 93 = .ok (.iload_n 3, 1) := by decide +kernel
theorem dX10_many_94 : decode cX10_many 94 = .ok (.iaload, 1) := by decide +kernel
theorem dX10_many_95 : decode cX10_many 95 = .ok (.iconst 4, 1) := by decide +kernel
theorem dX10_many_96 : decode cX10_many 96 = .ok (.if_icmp .ne 7, 3) := by decide +kernel
theorem dX10_many_99 : decode cX10_many 99 = .ok (.iconst 2, 1) := by decide +kernel
theorem dX10_many_100 : decode cX10_many 100 = .ok (.goto 4, 3) := by decide +kernel
theorem dX10_many_103 : decode cX10_many 103 = .ok (.iconst 1, 1) := by decide +kernel
theorem dX10_many_104 : decode cX10_many 104 = .ok (.iadd, 1) := by decide +kernel
theorem dX10_many_105 : decode cX10_many 105 = .ok (.istore_n 2, 1) := by decide +kernel
theorem dX10_many_106 : decode cX10_many 106 = .ok (.iinc 3 1, 3) := by decide +kernel
theorem dX10_many_109 : decode cX10_many 109 = .ok (.goto (-42), 3) := by decide +kernel
theorem dX10_many_112 : decode cX10_many 112 = .ok (.iload_n 2, 1) := by decide +kernel
theorem dX10_many_113 : decode cX10_many 113 = .ok (.ireturn, 1) := by decide +kernel
theorem dX10_many_114 : decode cX10_many 114 = .ok (.iconst (-1), 1) := by decide +kernel
theorem dX10_many_115 : decode cX10_many 115 = .ok (.ireturn, 1) := by decide +kernel
set_option maxRecDepth 20000 in
theorem ggX10_lengthOf_X10_between : GoodIn wsX10_lengthOf wsX10_between := goodIn_r _ [6, 7, 8, 9, 10, 11, 12, 13, 14, 15, 16, 17, 18, 19, 20, 21, 22, 23, 24, 25, 26, 27, 28, 29, 30, 31, 32, 33, 34, 35, 36, 37, 38, 39, 40, 41, 42, 43, 44] (by decide +kernel) (by decide +kernel)
set_option maxRecDepth 20000 in
theorem gX10_lengthOf_X10_between : GoodIn wsX10_lengthOf (wsV RX10 134 RX10 yX10_between wsX10_between) := goodIn_app (goodIn_of _ (by decide +kernel)) ggX10_lengthOf_X10_between
theorem dX10_lengthOf_0 : decode cX10_lengthOf 0 = .ok (.iconst 0, 1) := by decide +kernel
theorem dX10_lengthOf_1 : decode cX10_lengthOf 1 = .ok (.istore_n 3, 1) := by decide +kernel
theorem dX10_lengthOf_2 : decode cX10_lengthOf 2 = .ok (.iconst 0, 1) := by decide +kernel
theorem dX10_lengthOf_3 : decode cX10_lengthOf 3 = .ok (.istore 4, 2) := by decide +kernel
theorem dX10_lengthOf_5 : decode cX10_lengthOf 5 = .ok (.iload 4, 2) := by decide +kernel
theorem dX10_lengthOf_7 : decode cX10_lengthOf 7 = .ok (.iload_n 2, 1) := by decide +kernel
theorem dX10_lengthOf_8 : decode cX10_lengthOf 8 = .ok (.if_icmp .ge 50, 3) := by decide +kernel
theorem dX10_lengthOf_11 : decode cX10_lengthOf 11 = .ok (.aload_n 0, 1) := by decide +kernel
theorem dX10_lengthOf_12 : decode cX10_lengthOf 12 = .ok (.aload_n 1, 1) := by decide +kernel
theorem dX10_lengthOf_13 : decode cX10_lengthOf 13 = .ok (.iload 4, 2) := by decide +kernel
theorem dX10_lengthOf_15 : decode cX10_lengthOf 15 = .ok (.iaload, 1) := by decide +kernel
theorem dX10_lengthOf_16 : decode cX10_lengthOf 16 = .ok (.aload_n 1, 1) := by decide +kernel
theorem dX10_lengthOf_17 : decode cX10_lengthOf 17 = .ok (.iload 4, 2) := by decide +kernel
theorem dX10_lengthOf_19 : decode cX10_lengthOf 19 = .ok (.iconst 1, 1) := by decide +kernel
theorem dX10_lengthOf_20 : decode cX10_lengthOf 20 = .ok (.iadd, 1) := by decide +kernel
theorem dX10_lengthOf_21 : decode cX10_lengthOf 21 = .ok (.iload_n 2, 1) := by decide +kernel
theorem dX10_lengthOf_22 : decode cX10_lengthOf 22 = .ok (.irem, 1) := by decide +kernel
theorem dX10_lengthOf_23 : decode cX10_lengthOf 23 = .ok (.iaload, 1) := by decide +kernel
theorem dX10_lengthOf_24 : decode cX10_lengthOf 24 = .ok (.invokevirtual 134, 3) := by decide +kernel
theorem dX10_lengthOf_27 : decode cX10_lengthOf 27 = .ok (.istore 5, 2) := by decide +kernel
theorem dX10_lengthOf_29 : decode cX10_lengthOf 29 = .ok (.iload 5, 2) := by decide +kernel
theorem dX10_lengthOf_31 : decode cX10_lengthOf 31 = .ok (.ldc 102, 2) := by decide +kernel
theorem dX10_lengthOf_33 : decode cX10_lengthOf 33 = .ok (.if_icmp .eq 9, 3) := by decide +kernel
theorem dX10_lengthOf_36 : decode cX10_lengthOf 36 = .ok (.iload_n 3, 1) := by decide +kernel
theorem dX10_lengthOf_37 : decode cX10_lengthOf 37 = .ok (.ldc 102, 2) := by decide +kernel
theorem dX10_lengthOf_39 : decode cX10_lengthOf 39 = .ok (.if_icmp .ne 8, 3) := by decide +kernel
theorem dX10_lengthOf_42 : decode cX10_lengthOf 42 = .ok (.ldc 102, 2) := by decide +kernel
theorem dX10_lengthOf_44 : decode cX10_lengthOf 44 = .ok (.goto 7, 3) := by decide +kernel
theorem dX10_lengthOf_47 : decode cX10_lengthOf 47 = .ok (.iload_n 3, 1) := by decide +kernel
theorem dX10_lengthOf_48 : decode cX10_lengthOf 48 = .ok (.iload 5, 2) := by decide +kernel
theorem dX10_lengthOf_50 : decode cX10_lengthOf 50 = .ok (.iadd, 1) := by decide +kernel
theorem dX10_lengthOf_51 : decode cX10_lengthOf 51 = .ok (.istore_n 3, 1) := by decide +kernel
theorem dX10_lengthOf_52 : decode cX10_lengthOf 52 = .ok (.iinc 4 1, 3) := by decide +kernel
theorem dX10_lengthOf_55 : decode cX10_lengthOf 55 = .ok (.goto (-50), 3) := by decide +kernel
theorem dX10_lengthOf_58 : decode cX10_lengthOf 58 = .ok (.iload_n 3, 1) := by decide +kernel
theorem dX10_lengthOf_59 : decode cX10_lengthOf 59 = .ok (.ireturn, 1) := by decide +kernel
theorem dX10_placeOf_0 : decode cX10_placeOf 0 = .ok (.iconst (-1), 1) := by decide +kernel
theorem dX10_placeOf_1 : decode cX10_placeOf 1 = .ok (.istore_n 3, 1) := by decide +kernel
theorem dX10_placeOf_2 : decode cX10_placeOf 2 = .ok (.iconst 0, 1) := by decide +kernel
theorem dX10_placeOf_3 : decode cX10_placeOf 3 = .ok (.istore 4, 2) := by decide +kernel
theorem dX10_placeOf_5 : decode cX10_placeOf 5 = .ok (.iload 4, 2) := by decide +kernel
theorem dX10_placeOf_7 : decode cX10_placeOf 7 = .ok (.iload_n 1, 1) := by decide +kernel
theorem dX10_placeOf_8 : decode cX10_placeOf 8 = .ok (.if_icmp .ge 24, 3) := by decide +kernel
theorem dX10_placeOf_11 : decode cX10_placeOf 11 = .ok (.aload_n 0, 1) := by decide +kernel
theorem dX10_placeOf_12 : decode cX10_placeOf 12 = .ok (.iload 4, 2) := by decide +kernel
theorem dX10_placeOf_14 : decode cX10_placeOf 14 = .ok (.iaload, 1) := by decide +kernel
theorem dX10_placeOf_15 : decode cX10_placeOf 15 = .ok (.iload_n 2, 1) := by decide +kernel
theorem dX10_placeOf_16 : decode cX10_placeOf 16 = .ok (.if_icmp .ne 8, 3) := by decide +kernel
theorem dX10_placeOf_19 : decode cX10_placeOf 19 = .ok (.iload 4, 2) := by decide +kernel
theorem dX10_placeOf_21 : decode cX10_placeOf 21 = .ok (.goto 4, 3) := by decide +kernel
theorem dX10_placeOf_24 : decode cX10_placeOf 24 = .ok (.iload_n 3, 1) := by decide +kernel
theorem dX10_placeOf_25 : decode cX10_placeOf 25 = .ok (.istore_n 3, 1) := by decide +kernel
theorem dX10_placeOf_26 : decode cX10_placeOf 26 = .ok (.iinc 4 1, 3) := by decide +kernel
theorem dX10_placeOf_29 : decode cX10_placeOf 29 = .ok (.goto (-24), 3) := by decide +kernel
theorem dX10_placeOf_32 : decode cX10_placeOf 32 = .ok (.iload_n 3, 1) := by decide +kernel
theorem dX10_placeOf_33 : decode cX10_placeOf 33 = .ok (.ireturn, 1) := by decide +kernel
set_option maxRecDepth 20000 in
theorem ggX10_areBeside_X10_placeOf : GoodIn wsX10_areBeside wsX10_placeOf := goodIn_r _ [4] (by decide +kernel) (by decide +kernel)
set_option maxRecDepth 20000 in
theorem gX10_areBeside_X10_placeOf : GoodIn wsX10_areBeside (va_wsS RX10 149 yX10_placeOf wsX10_placeOf) := goodIn_app (goodIn_of _ (by decide +kernel)) ggX10_areBeside_X10_placeOf
theorem dX10_areBeside_0 : decode cX10_areBeside 0 = .ok (.aload_n 0, 1) := by decide +kernel
theorem dX10_areBeside_1 : decode cX10_areBeside 1 = .ok (.iload_n 1, 1) := by decide +kernel
theorem dX10_areBeside_2 : decode cX10_areBeside 2 = .ok (.iload_n 2, 1) := by decide +kernel
theorem dX10_areBeside_3 : decode cX10_areBeside 3 = .ok (.invokestatic 149, 3) := by decide +kernel
theorem dX10_areBeside_6 : decode cX10_areBeside 6 = .ok (.aload_n 0, 1) := by decide +kernel
theorem dX10_areBeside_7 : decode cX10_areBeside 7 = .ok (.iload_n 1, 1) := by decide +kernel
theorem dX10_areBeside_8 : decode cX10_areBeside 8 = .ok (.iload_n 3, 1) := by decide +kernel
theorem dX10_areBeside_9 : decode cX10_areBeside 9 = .ok (.invokestatic 149, 3) := by decide +kernel
theorem dX10_areBeside_12 : decode cX10_areBeside 12 = .ok (.isub, 1) := by decide +kernel
theorem dX10_areBeside_13 : decode cX10_areBeside 13 = .ok (.istore 4, 2) := by decide +kernel
theorem dX10_areBeside_15 : decode cX10_areBeside 15 = .ok (.iload 4, 2) := by decide +kernel
theorem dX10_areBeside_17 : decode cX10_areBeside 17 = .ok (.iconst 1, 1) := by decide +kernel
theorem dX10_areBeside_18 : decode cX10_areBeside 18 = .ok (.if_icmp .eq 25, 3) := by decide +kernel
theorem dX10_areBeside_21 : decode cX10_areBeside 21 = .ok (.iload 4, 2) := by decide +kernel
theorem dX10_areBeside_23 : decode cX10_areBeside 23 = .ok (.iconst (-1), 1) := by decide +kernel
theorem dX10_areBeside_24 : decode cX10_areBeside 24 = .ok (.if_icmp .eq 19, 3) := by decide +kernel
theorem dX10_areBeside_27 : decode cX10_areBeside 27 = .ok (.iload 4, 2) := by decide +kernel
theorem dX10_areBeside_29 : decode cX10_areBeside 29 = .ok (.iload_n 1, 1) := by decide +kernel
theorem dX10_areBeside_30 : decode cX10_areBeside 30 = .ok (.iconst 1, 1) := by decide +kernel
theorem dX10_areBeside_31 : decode cX10_areBeside 31 = .ok (.isub, 1) := by decide +kernel
theorem dX10_areBeside_32 : decode cX10_areBeside 32 = .ok (.if_icmp .eq 11, 3) := by decide +kernel
theorem dX10_areBeside_35 : decode cX10_areBeside 35 = .ok (.iload 4, 2) := by decide +kernel
theorem dX10_areBeside_37 : decode cX10_areBeside 37 = .ok (.iconst 1, 1) := by decide +kernel
theorem dX10_areBeside_38 : decode cX10_areBeside 38 = .ok (.iload_n 1, 1) := by decide +kernel
theorem dX10_areBeside_39 : decode cX10_areBeside 39 = .ok (.isub, 1) := by decide +kernel
theorem dX10_areBeside_40 : decode cX10_areBeside 40 = .ok (.if_icmp .ne 7, 3) := by decide +kernel
theorem dX10_areBeside_43 : decode cX10_areBeside 43 = .ok (.iconst 1, 1) := by decide +kernel
theorem dX10_areBeside_44 : decode cX10_areBeside 44 = .ok (.goto 4, 3) := by decide +kernel
theorem dX10_areBeside_47 : decode cX10_areBeside 47 = .ok (.iconst 0, 1) := by decide +kernel
theorem dX10_areBeside_48 : decode cX10_areBeside 48 = .ok (.ireturn, 1) := by decide +kernel
set_option maxRecDepth 20000 in
theorem ggX10_keepsTwins_X10_twinOf : GoodIn wsX10_keepsTwins wsX10_twinOf := goodIn_r _ [6, 7, 8, 9, 10, 11, 12, 13, 5, 14, 15, 16, 23, 24, 25, 26, 27, 28, 29, 30, 31, 32, 33, 34, 35, 36, 37, 38, 39, 40, 41, 42, 43, 44, 45, 46, 47, 48, 49, 50, 51, 52, 53, 54, 55, 56, 57, 58] (by decide +kernel) (by decide +kernel)
set_option maxRecDepth 20000 in
theorem gX10_keepsTwins_X10_twinOf : GoodIn wsX10_keepsTwins (wsV RX10 137 RX10 yX10_twinOf wsX10_twinOf) := goodIn_app (goodIn_of _ (by decide +kernel)) ggX10_keepsTwins_X10_twinOf
set_option maxRecDepth 20000 in
theorem ggX10_keepsTwins_X10_areBeside : GoodIn wsX10_keepsTwins wsX10_areBeside := goodIn_r _ [19, 20, 21, 5, 22] (by decide +kernel) (by decide +kernel)
set_option maxRecDepth 20000 in
theorem gX10_keepsTwins_X10_areBeside : GoodIn wsX10_keepsTwins (va_wsS RX10 153 yX10_areBeside wsX10_areBeside) := goodIn_app (goodIn_of _ (by decide +kernel)) ggX10_keepsTwins_X10_areBeside
theorem dX10_keepsTwins_0 : decode cX10_keepsTwins 0 = .ok (.iconst 1, 1) := by decide +kernel
theorem dX10_keepsTwins_1 : decode cX10_keepsTwins 1 = .ok (.istore_n 3, 1) := by decide +kernel
theorem dX10_keepsTwins_2 : decode cX10_keepsTwins 2 = .ok (.iconst 0, 1) := by decide +kernel
theorem dX10_keepsTwins_3 : decode cX10_keepsTwins 3 = .ok (.istore 4, 2) := by decide +kernel
theorem dX10_keepsTwins_5 : decode cX10_keepsTwins 5 = .ok (.iload 4, 2) := by decide +kernel
theorem dX10_keepsTwins_7 : decode cX10_keepsTwins 7 = .ok (.iload_n 2, 1) := by decide +kernel
theorem dX10_keepsTwins_8 : decode cX10_keepsTwins 8 = .ok (.if_icmp .ge 56, 3) := by decide +kernel
theorem dX10_keepsTwins_11 : decode cX10_keepsTwins 11 = .ok (.aload_n 0, 1) := by decide +kernel
theorem dX10_keepsTwins_12 : decode cX10_keepsTwins 12 = .ok (.aload_n 1, 1) := by decide +kernel
theorem dX10_keepsTwins_13 : decode cX10_keepsTwins 13 = .ok (.iload 4, 2) := by decide +kernel
theorem dX10_keepsTwins_15 : decode cX10_keepsTwins 15 = .ok (.iaload, 1) := by decide +kernel
theorem dX10_keepsTwins_16 : decode cX10_keepsTwins 16 = .ok (.invokevirtual 137, 3) := by decide +kernel
theorem dX10_keepsTwins_19 : decode cX10_keepsTwins 19 = .ok (.istore 5, 2) := by decide +kernel
theorem dX10_keepsTwins_21 : decode cX10_keepsTwins 21 = .ok (.iload_n 3, 1) := by decide +kernel
theorem dX10_keepsTwins_22 : decode cX10_keepsTwins 22 = .ok (.iload 5, 2) := by decide +kernel
theorem dX10_keepsTwins_24 : decode cX10_keepsTwins 24 = .ok (.ifCond .lt 27, 3) := by decide +kernel
theorem dX10_keepsTwins_27 : decode cX10_keepsTwins 27 = .ok (.aload_n 0, 1) := by decide +kernel
theorem dX10_keepsTwins_28 : decode cX10_keepsTwins 28 = .ok (.getfield 45, 3) := by decide +kernel
theorem dX10_keepsTwins_31 : decode cX10_keepsTwins 31 = .ok (.iload 5, 2) := by decide +kernel
theorem dX10_keepsTwins_33 : decode cX10_keepsTwins 33 = .ok (.baload, 1) := by decide +kernel
theorem dX10_keepsTwins_34 : decode cX10_keepsTwins 34 = .ok (.ifCond .ne 17, 3) := by decide +kernel
theorem dX10_keepsTwins_37 : decode cX10_keepsTwins 37 = .ok (.aload_n 1, 1) := by decide +kernel
theorem dX10_keepsTwins_38 : decode cX10_keepsTwins 38 = .ok (.iload_n 2, 1) := by decide +kernel
theorem dX10_keepsTwins_39 : decode cX10_keepsTwins 39 = .ok (.aload_n 1, 1) := by decide +kernel
theorem dX10_keepsTwins_40 : decode cX10_keepsTwins 40 = .ok (.iload 4, 2) := by decide +kernel
theorem dX10_keepsTwins_42 : decode cX10_keepsTwins 42 = .ok (.iaload, 1) := by decide +kernel
theorem dX10_keepsTwins_43 : decode cX10_keepsTwins 43 = .ok (.iload 5, 2) := by decide +kernel
theorem dX10_keepsTwins_45 : decode cX10_keepsTwins 45 = .ok (.invokestatic 153, 3) := by decide +kernel
theorem dX10_keepsTwins_48 : decode cX10_keepsTwins 48 = .ok (.ifCond .eq 7, 3) := by decide +kernel
theorem dX10_keepsTwins_51 : decode cX10_keepsTwins 51 = .ok (.iconst 1, 1) := by decide +kernel
theorem dX10_keepsTwins_52 : decode cX10_keepsTwins 52 = .ok (.goto 4, 3) := by decide +kernel
theorem dX10_keepsTwins_55 : decode cX10_keepsTwins 55 = .ok (.iconst 0, 1) := by decide +kernel
theorem dX10_keepsTwins_56 : decode cX10_keepsTwins 56 = .ok (.iand, 1) := by decide +kernel
theorem dX10_keepsTwins_57 : decode cX10_keepsTwins 57 = .ok (.istore_n 3, 1) := by decide +kernel
theorem dX10_keepsTwins_58 : decode cX10_keepsTwins 58 = .ok (.iinc 4 1, 3) := by decide +kernel
theorem dX10_keepsTwins_61 : decode cX10_keepsTwins 61 = .ok (.goto (-56), 3) := by decide +kernel
theorem dX10_keepsTwins_64 : decode cX10_keepsTwins 64 = .ok (.iload_n 3, 1) := by decide +kernel
theorem dX10_keepsTwins_65 : decode cX10_keepsTwins 65 = .ok (.ireturn, 1) := by decide +kernel
set_option maxRecDepth 20000 in
theorem ggX10_nextOrder_X10_swap : GoodIn wsX10_nextOrder wsX10_swap := goodIn_r _ [6, 1, 7, 8, 9, 10, 11, 12, 13, 14, 15, 16, 17, 18, 19, 20, 21, 22, 23, 24, 25, 26, 27, 28, 29, 30, 31, 32, 33, 34, 35, 36, 37, 38, 39, 40, 41, 42] (by decide +kernel) (by decide +kernel)
set_option maxRecDepth 20000 in
theorem gX10_nextOrder_X10_swap : GoodIn wsX10_nextOrder (wsV RX10 157 RX10 yX10_swap wsX10_swap) := goodIn_app (goodIn_of _ (by decide +kernel)) ggX10_nextOrder_X10_swap
theorem dX10_nextOrder_0 : decode cX10_nextOrder 0 = .ok (.iload_n 1, 1) := by decide +kernel
theorem dX10_nextOrder_1 : decode cX10_nextOrder 1 = .ok (.iconst 2, 1) := by decide +kernel
theorem dX10_nextOrder_2 : decode cX10_nextOrder 2 = .ok (.isub, 1) := by decide +kernel
theorem dX10_nextOrder_3 : decode cX10_nextOrder 3 = .ok (.istore_n 2, 1) := by decide +kernel
theorem dX10_nextOrder_4 : decode cX10_nextOrder 4 = .ok (.iload_n 2, 1) := by decide +kernel
theorem dX10_nextOrder_5 : decode cX10_nextOrder 5 = .ok (.iconst 1, 1) := by decide +kernel
theorem dX10_nextOrder_6 : decode cX10_nextOrder 6 = .ok (.if_icmp .lt 26, 3) := by decide +kernel
theorem dX10_nextOrder_9 : decode cX10_nextOrder 9 = .ok (.aload_n 0, 1) := by decide +kernel
theorem dX10_nextOrder_10 : decode cX10_nextOrder 10 = .ok (.getfield 63, 3) := by decide +kernel
theorem dX10_nextOrder_13 : decode cX10_nextOrder 13 = .ok (.iload_n 2, 1) := by decide +kernel
theorem dX10_nextOrder_14 : decode cX10_nextOrder 14 = .ok (.iaload, 1) := by decide +kernel
theorem dX10_nextOrder_15 : decode cX10_nextOrder 15 = .ok (.aload_n 0, 1) := by decide +kernel
theorem dX10_nextOrder_16 : decode cX10_nextOrder 16 = .ok (.getfield 63, 3) := by decide +kernel
theorem dX10_nextOrder_19 : decode cX10_nextOrder 19 = .ok (.iload_n 2, 1) := by decide +kernel
theorem dX10_nextOrder_20 : decode cX10_nextOrder 20 = .ok (.iconst 1, 1) := by decide +kernel
theorem dX10_nextOrder_21 : decode cX10_nextOrder 21 = .ok (.iadd, 1) := by decide +kernel
theorem dX10_nextOrder_22 : decode cX10_nextOrder 22 = .ok (.iaload, 1) := by decide +kernel
theorem dX10_nextOrder_23 : decode cX10_nextOrder 23 = .ok (.if_icmp .le 9, 3) := by decide +kernel
theorem dX10_nextOrder_26 : decode cX10_nextOrder 26 = .ok (.iinc 2 (-1), 3) := by decide +kernel
theorem dX10_nextOrder_29 : decode cX10_nextOrder 29 = .ok (.goto (-25), 3) := by decide +kernel
theorem dX10_nextOrder_32 : decode cX10_nextOrder 32 = .ok (.iload_n 2, 1) := by decide +kernel
theorem dX10_nextOrder_33 : decode cX10_nextOrder 33 = .ok (.iconst 1, 1) := by decide +kernel
theorem dX10_nextOrder_34 : decode cX10_nextOrder 34 = .ok (.if_icmp .ge 5, 3) := by decide +kernel
theorem dX10_nextOrder_37 : decode cX10_nextOrder 37 = .ok (.iconst 0, 1) := by decide +kernel
theorem dX10_nextOrder_38 : decode cX10_nextOrder 38 = .ok (.ireturn, 1) := by decide +kernel
theorem dX10_nextOrder_39 : decode cX10_nextOrder 39 = .ok (.iload_n 1, 1) := by decide +kernel
theorem dX10_nextOrder_40 : decode cX10_nextOrder 40 = .ok (.iconst 1, 1) := by decide +kernel
theorem dX10_nextOrder_41 : decode cX10_nextOrder 41 = .ok (.isub, 1) := by decide +kernel
theorem dX10_nextOrder_42 : decode cX10_nextOrder 42 = .ok (.istore_n 3, 1) := by decide +kernel
theorem dX10_nextOrder_43 : decode cX10_nextOrder 43 = .ok (.aload_n 0, 1) := by decide +kernel
theorem dX10_nextOrder_44 : decode cX10_nextOrder 44 = .ok (.getfield 63, 3) := by decide +kernel
theorem dX10_nextOrder_47 : decode cX10_nextOrder 47 = .ok (.iload_n 3, 1) := by decide +kernel
theorem dX10_nextOrder_48 : decode cX10_nextOrder 48 = .ok (.iaload, 1) := by decide +kernel
theorem dX10_nextOrder_49 : decode cX10_nextOrder 49 = .ok (.aload_n 0, 1) := by decide +kernel
theorem dX10_nextOrder_50 : decode cX10_nextOrder 50 = .ok (.getfield 63, 3) := by decide +kernel
theorem dX10_nextOrder_53 : decode cX10_nextOrder 53 = .ok (.iload_n 2, 1) := by decide +kernel
theorem dX10_nextOrder_54 : decode cX10_nextOrder 54 = .ok (.iaload, 1) := by decide +kernel
theorem dX10_nextOrder_55 : decode cX10_nextOrder 55 = .ok (.if_icmp .ge 9, 3) := by decide +kernel
theorem dX10_nextOrder_58 : decode cX10_nextOrder 58 = .ok (.iinc 3 (-1), 3) := by decide +kernel
theorem dX10_nextOrder_61 : decode cX10_nextOrder 61 = .ok (.goto (-18), 3) := by decide +kernel
theorem dX10_nextOrder_64 : decode cX10_nextOrder 64 = .ok (.aload_n 0, 1) := by decide +kernel
theorem dX10_nextOrder_65 : decode cX10_nextOrder 65 = .ok (.iload_n 2, 1) := by decide +kernel
theorem dX10_nextOrder_66 : decode cX10_nextOrder 66 = .ok (.iload_n 3, 1) := by decide +kernel
theorem dX10_nextOrder_67 : decode cX10_nextOrder 67 = .ok (.invokevirtual 157, 3) := by decide +kernel
theorem dX10_nextOrder_70 : decode cX10_nextOrder 70 = .ok (.iload_n 2, 1) := by decide +kernel
theorem dX10_nextOrder_71 : decode cX10_nextOrder 71 = .ok (.iconst 1, 1) := by decide +kernel
theorem dX10_nextOrder_72 : decode cX10_nextOrder 72 = .ok (.iadd, 1) := by decide +kernel
theorem dX10_nextOrder_73 : decode cX10_nextOrder 73 = .ok (.istore 4, 2) := by decide +kernel
theorem dX10_nextOrder_75 : decode cX10_nextOrder 75 = .ok (.iload_n 1, 1) := by decide +kernel
theorem dX10_nextOrder_76 : decode cX10_nextOrder 76 = .ok (.iconst 1, 1) := by decide +kernel
theorem dX10_nextOrder_77 : decode cX10_nextOrder 77 = .ok (.isub, 1) := by decide +kernel
theorem dX10_nextOrder_78 : decode cX10_nextOrder 78 = .ok (.istore 5, 2) := by decide +kernel
theorem dX10_nextOrder_80 : decode cX10_nextOrder 80 = .ok (.iload 4, 2) := by decide +kernel
theorem dX10_nextOrder_82 : decode cX10_nextOrder 82 = .ok (.iload 5, 2) := by decide +kernel
theorem dX10_nextOrder_84 : decode cX10_nextOrder 84 = .ok (.if_icmp .ge 20, 3) := by decide +kernel
theorem dX10_nextOrder_87 : decode cX10_nextOrder 87 = .ok (.aload_n 0, 1) := by decide +kernel
theorem dX10_nextOrder_88 : decode cX10_nextOrder 88 = .ok (.iload 4, 2) := by decide +kernel
theorem dX10_nextOrder_90 : decode cX10_nextOrder 90 = .ok (.iload 5, 2) := by decide +kernel
theorem dX10_nextOrder_92 : decode cX10_nextOrder 92 = .ok (.invokevirtual 157, 3) := by decide +kernel
theorem dX10_nextOrder_95 : decode cX10_nextOrder 95 = .ok (.iinc 4 1, 3) := by decide +kernel
theorem dX10_nextOrder_98 : decode cX10_nextOrder 98 = .ok (.iinc 5 (-1), 3) := by decide +kernel
theorem dX10_nextOrder_101 : decode cX10_nextOrder 101 = .ok (.goto (-21), 3) := by decide +kernel
theorem dX10_nextOrder_104 : decode cX10_nextOrder 104 = .ok (.iconst 1, 1) := by decide +kernel
theorem dX10_nextOrder_105 : decode cX10_nextOrder 105 = .ok (.ireturn, 1) := by decide +kernel
theorem dX10_swap_0 : decode cX10_swap 0 = .ok (.aload_n 0, 1) := by decide +kernel
theorem dX10_swap_1 : decode cX10_swap 1 = .ok (.getfield 63, 3) := by decide +kernel
theorem dX10_swap_4 : decode cX10_swap 4 = .ok (.iload_n 1, 1) := by decide +kernel
theorem dX10_swap_5 : decode cX10_swap 5 = .ok (.iaload, 1) := by decide +kernel
theorem dX10_swap_6 : decode cX10_swap 6 = .ok (.istore_n 3, 1) := by decide +kernel
theorem dX10_swap_7 : decode cX10_swap 7 = .ok (.aload_n 0, 1) := by decide +kernel
theorem dX10_swap_8 : decode cX10_swap 8 = .ok (.getfield 63, 3) := by decide +kernel
theorem dX10_swap_11 : decode cX10_swap 11 = .ok (.iload_n 1, 1) := by decide +kernel
theorem dX10_swap_12 : decode cX10_swap 12 = .ok (.aload_n 0, 1) := by decide +kernel
theorem dX10_swap_13 : decode cX10_swap 13 = .ok (.getfield 63, 3) := by decide +kernel
theorem dX10_swap_16 : decode cX10_swap 16 = .ok (.iload_n 2, 1) := by decide +kernel
theorem dX10_swap_17 : decode cX10_swap 17 = .ok (.iaload, 1) := by decide +kernel
theorem dX10_swap_18 : decode cX10_swap 18 = .ok (.iastore, 1) := by decide +kernel
theorem dX10_swap_19 : decode cX10_swap 19 = .ok (.aload_n 0, 1) := by decide +kernel
theorem dX10_swap_20 : decode cX10_swap 20 = .ok (.getfield 63, 3) := by decide +kernel
theorem dX10_swap_23 : decode cX10_swap 23 = .ok (.iload_n 2, 1) := by decide +kernel
theorem dX10_swap_24 : decode cX10_swap 24 = .ok (.iload_n 3, 1) := by decide +kernel
theorem dX10_swap_25 : decode cX10_swap 25 = .ok (.iastore, 1) := by decide +kernel
theorem dX10_swap_26 : decode cX10_swap 26 = .ok (.return_, 1) := by decide +kernel
theorem dX10_isWritten_0 : decode cX10_isWritten 0 = .ok (.iconst 1, 1) := by decide +kernel
theorem dX10_isWritten_1 : decode cX10_isWritten 1 = .ok (.istore_n 2, 1) := by decide +kernel
theorem dX10_isWritten_2 : decode cX10_isWritten 2 = .ok (.iconst 0, 1) := by decide +kernel
theorem dX10_isWritten_3 : decode cX10_isWritten 3 = .ok (.istore_n 3, 1) := by decide +kernel
theorem dX10_isWritten_4 : decode cX10_isWritten 4 = .ok (.iload_n 3, 1) := by decide +kernel
theorem dX10_isWritten_5 : decode cX10_isWritten 5 = .ok (.iload_n 1, 1) := by decide +kernel
theorem dX10_isWritten_6 : decode cX10_isWritten 6 = .ok (.if_icmp .ge 32, 3) := by decide +kernel
theorem dX10_isWritten_9 : decode cX10_isWritten 9 = .ok (.iload_n 2, 1) := by decide +kernel
theorem dX10_isWritten_10 : decode cX10_isWritten 10 = .ok (.aload_n 0, 1) := by decide +kernel
theorem dX10_isWritten_11 : decode cX10_isWritten 11 = .ok (.getfield 63, 3) := by decide +kernel
theorem dX10_isWritten_14 : decode cX10_isWritten 14 = .ok (.iload_n 3, 1) := by decide +kernel
theorem dX10_isWritten_15 : decode cX10_isWritten 15 = .ok (.iaload, 1) := by decide +kernel
theorem dX10_isWritten_16 : decode cX10_isWritten 16 = .ok (.aload_n 0, 1) := by decide +kernel
theorem dX10_isWritten_17 : decode cX10_isWritten 17 = .ok (.getfield 69, 3) := by decide +kernel
theorem dX10_isWritten_20 : decode cX10_isWritten 20 = .ok (.iload_n 3, 1) := by decide +kernel
theorem dX10_isWritten_21 : decode cX10_isWritten 21 = .ok (.iaload, 1) := by decide +kernel
theorem dX10_isWritten_22 : decode cX10_isWritten 22 = .ok (.if_icmp .ne 7, 3) := by decide +kernel
theorem dX10_isWritten_25 : decode cX10_isWritten 25 = .ok (.iconst 1, 1) := by decide +kernel
theorem dX10_isWritten_26 : decode cX10_isWritten 26 = .ok (.goto 4, 3) := by decide +kernel
theorem dX10_isWritten_29 : decode cX10_isWritten 29 = .ok (.iconst 0, 1) := by decide +kernel
theorem dX10_isWritten_30 : decode cX10_isWritten 30 = .ok (.iand, 1) := by decide +kernel
theorem dX10_isWritten_31 : decode cX10_isWritten 31 = .ok (.istore_n 2, 1) := by decide +kernel
theorem dX10_isWritten_32 : decode cX10_isWritten 32 = .ok (.iinc 3 1, 3) := by decide +kernel
theorem dX10_isWritten_35 : decode cX10_isWritten 35 = .ok (.goto (-31), 3) := by decide +kernel
theorem dX10_isWritten_38 : decode cX10_isWritten 38 = .ok (.iload_n 2, 1) := by decide +kernel
theorem dX10_isWritten_39 : decode cX10_isWritten 39 = .ok (.ireturn, 1) := by decide +kernel
set_option maxRecDepth 20000 in
theorem ggX10_search_X10_lengthOf : GoodIn wsX10_search wsX10_lengthOf := goodIn_r _ [10, 4, 11, 12, 13, 9, 14, 15, 16, 46, 47, 48, 49, 50, 51, 52, 53, 54, 55, 56, 57, 58, 59, 60, 61, 62, 63, 64, 65, 66, 67, 68, 69, 70, 71, 72, 73, 74, 75, 76, 77, 78, 79, 80, 81] (by decide +kernel) (by decide +kernel)
set_option maxRecDepth 20000 in
theorem gX10_search_X10_lengthOf : GoodIn wsX10_search (wsV RX10 161 RX10 yX10_lengthOf wsX10_lengthOf) := goodIn_app (goodIn_of _ (by decide +kernel)) ggX10_search_X10_lengthOf
set_option maxRecDepth 20000 in
theorem ggX10_search_X10_keepsTwins : GoodIn wsX10_search wsX10_keepsTwins := goodIn_r _ [20, 2, 21, 22, 23, 9, 24, 25, 26, 1, 4, 11, 12, 13, 14, 15, 16, 27, 28, 29, 30, 31, 32, 46, 47, 48, 49, 50, 51, 52, 53, 54, 55, 56, 57, 58, 59, 60, 61, 62, 63, 64, 65, 66, 67, 68, 69, 70, 71, 72, 73, 74, 75, 76, 77, 78, 79, 80, 81] (by decide +kernel) (by decide +kernel)
set_option maxRecDepth 20000 in
theorem gX10_search_X10_keepsTwins : GoodIn wsX10_search (wsV RX10 165 RX10 yX10_keepsTwins wsX10_keepsTwins) := goodIn_app (goodIn_of _ (by decide +kernel)) ggX10_search_X10_keepsTwins
set_option maxRecDepth 20000 in
theorem ggX10_search_X10_isWritten : GoodIn wsX10_search wsX10_isWritten := goodIn_r _ [36, 3, 37, 46, 47, 48, 49, 50, 51, 52, 53, 54, 55, 56, 57, 58, 59, 60, 61, 62, 63, 64, 65, 66, 67, 68, 69, 70, 71, 72, 73, 74, 75, 76, 77, 78, 79, 80, 81] (by decide +kernel) (by decide +kernel)
set_option maxRecDepth 20000 in
theorem gX10_search_X10_isWritten : GoodIn wsX10_search (wsV RX10 169 RX10 yX10_isWritten wsX10_isWritten) := goodIn_app (goodIn_of _ (by decide +kernel)) ggX10_search_X10_isWritten
set_option maxRecDepth 20000 in
theorem ggX10_search_X10_areBeside : GoodIn wsX10_search wsX10_areBeside := goodIn_r _ [29, 30, 31, 9, 32] (by decide +kernel) (by decide +kernel)
set_option maxRecDepth 20000 in
theorem gX10_search_X10_areBeside : GoodIn wsX10_search (va_wsS RX10 153 yX10_areBeside wsX10_areBeside) := goodIn_app (goodIn_of _ (by decide +kernel)) ggX10_search_X10_areBeside
set_option maxRecDepth 20000 in
theorem ggX10_search_X10_nextOrder : GoodIn wsX10_search wsX10_nextOrder := goodIn_r _ [41, 3, 42, 43, 44, 9, 45, 46, 47, 48, 49, 50, 51, 52, 53, 54, 55, 56, 57, 58, 59, 60, 61, 62, 63, 64, 65, 66, 67, 68, 69, 70, 71, 72, 73, 74, 75, 76, 77, 78, 79, 80, 81] (by decide +kernel) (by decide +kernel)
set_option maxRecDepth 20000 in
theorem gX10_search_X10_nextOrder : GoodIn wsX10_search (wsV RX10 172 RX10 yX10_nextOrder wsX10_nextOrder) := goodIn_app (goodIn_of _ (by decide +kernel)) ggX10_search_X10_nextOrder
theorem dX10_search_0 : decode cX10_search 0 = .ok (.iconst 0, 1) := by decide +kernel
theorem dX10_search_1 : decode cX10_search 1 = .ok (.istore 4, 2) := by decide +kernel
theorem dX10_search_3 : decode cX10_search 3 = .ok (.iconst 0, 1) := by decide +kernel
theorem dX10_search_4 : decode cX10_search 4 = .ok (.istore 5, 2) := by decide +kernel
theorem dX10_search_6 : decode cX10_search 6 = .ok (.iload 5, 2) := by decide +kernel
theorem dX10_search_8 : decode cX10_search 8 = .ok (.aload_n 0, 1) := by decide +kernel
theorem dX10_search_9 : decode cX10_search 9 = .ok (.getfield 107, 3) := by decide +kernel
theorem dX10_search_12 : decode cX10_search 12 = .ok (.if_icmp .ge 31, 3) := by decide +kernel
theorem dX10_search_15 : decode cX10_search 15 = .ok (.aload_n 0, 1) := by decide +kernel
theorem dX10_search_16 : decode cX10_search 16 = .ok (.getfield 45, 3) := by decide +kernel
theorem dX10_search_19 : decode cX10_search 19 = .ok (.iload 5, 2) := by decide +kernel
theorem dX10_search_21 : decode cX10_search 21 = .ok (.baload, 1) := by decide +kernel
theorem dX10_search_22 : decode cX10_search 22 = .ok (.ifCond .ne 15, 3) := by decide +kernel
theorem dX10_search_25 : decode cX10_search 25 = .ok (.aload_n 0, 1) := by decide +kernel
theorem dX10_search_26 : decode cX10_search 26 = .ok (.getfield 63, 3) := by decide +kernel
theorem dX10_search_29 : decode cX10_search 29 = .ok (.iload 4, 2) := by decide +kernel
theorem dX10_search_31 : decode cX10_search 31 = .ok (.iload 5, 2) := by decide +kernel
theorem dX10_search_33 : decode cX10_search 33 = .ok (.iastore, 1) := by decide +kernel
theorem dX10_search_34 : decode cX10_search 34 = .ok (.iinc 4 1, 3) := by decide +kernel
theorem dX10_search_37 : decode cX10_search 37 = .ok (.iinc 5 1, 3) := by decide +kernel
theorem dX10_search_40 : decode cX10_search 40 = .ok (.goto (-34), 3) := by decide +kernel
theorem dX10_search_43 : decode cX10_search 43 = .ok (.iload 4, 2) := by decide +kernel
theorem dX10_search_45 : decode cX10_search 45 = .ok (.iconst 3, 1) := by decide +kernel
theorem dX10_search_46 : decode cX10_search 46 = .ok (.if_icmp .ge 6, 3) := by decide +kernel
theorem dX10_search_49 : decode cX10_search 49 = .ok (.ldc 102, 2) := by decide +kernel
theorem dX10_search_51 : decode cX10_search 51 = .ok (.ireturn, 1) := by decide +kernel
theorem dX10_search_52 : decode cX10_search 52 = .ok (.ldc 102, 2) := by decide +kernel
theorem dX10_search_54 : decode cX10_search 54 = .ok (.istore 5, 2) := by decide +kernel
theorem dX10_search_56 : decode cX10_search 56 = .ok (.iconst 1, 1) := by decide +kernel
theorem dX10_search_57 : decode cX10_search 57 = .ok (.istore 6, 2) := by decide +kernel
theorem dX10_search_59 : decode cX10_search 59 = .ok (.iload 6, 2) := by decide +kernel
theorem dX10_search_61 : decode cX10_search 61 = .ok (.ifCond .eq 170, 3) := by decide +kernel
theorem dX10_search_64 : decode cX10_search 64 = .ok (.aload_n 0, 1) := by decide +kernel
theorem dX10_search_65 : decode cX10_search 65 = .ok (.getfield 63, 3) := by decide +kernel
theorem dX10_search_68 : decode cX10_search 68 = .ok (.iconst 1, 1) := by decide +kernel
theorem dX10_search_69 : decode cX10_search 69 = .ok (.iaload, 1) := by decide +kernel
theorem dX10_search_70 : decode cX10_search 70 = .ok (.aload_n 0, 1) := by decide +kernel
theorem dX10_search_71 : decode cX10_search 71 = .ok (.getfield 63, 3) := by decide +kernel
theorem dX10_search_74 : decode cX10_search 74 = .ok (.iload 4, 2) := by decide +kernel
theorem dX10_search_76 : decode cX10_search 76 = .ok (.iconst 1, 1) := by decide +kernel
theorem dX10_search_77 : decode cX10_search 77 = .ok (.isub, 1) := by decide +kernel
theorem dX10_search_78 : decode cX10_search 78 = .ok (.iaload, 1) := by decide +kernel
theorem dX10_search_79 : decode cX10_search 79 = .ok (.if_icmp .ge 16, 3) := by decide +kernel
theorem dX10_search_82 : decode cX10_search 82 = .ok (.aload_n 0, 1) := by decide +kernel
theorem dX10_search_83 : decode cX10_search 83 = .ok (.aload_n 0, 1) := by decide +kernel
theorem dX10_search_84 : decode cX10_search 84 = .ok (.getfield 63, 3) := by decide +kernel
theorem dX10_search_87 : decode cX10_search 87 = .ok (.iload 4, 2) := by decide +kernel
theorem dX10_search_89 : decode cX10_search 89 = .ok (.invokevirtual 161, 3) := by decide +kernel
theorem dX10_search_92 : decode cX10_search 92 = .ok (.goto 5, 3) := by decide +kernel
theorem dX10_search_95 : decode cX10_search 95 = .ok (.ldc 102, 2) := by decide +kernel
theorem dX10_search_97 : decode cX10_search 97 = .ok (.istore 7, 2) := by decide +kernel
theorem dX10_search_99 : decode cX10_search 99 = .ok (.iload 7, 2) := by decide +kernel
theorem dX10_search_101 : decode cX10_search 101 = .ok (.iload 5, 2) := by decide +kernel
theorem dX10_search_103 : decode cX10_search 103 = .ok (.if_icmp .ge 20, 3) := by decide +kernel
theorem dX10_search_106 : decode cX10_search 106 = .ok (.aload_n 0, 1) := by decide +kernel
theorem dX10_search_107 : decode cX10_search 107 = .ok (.aload_n 0, 1) := by decide +kernel
theorem dX10_search_108 : decode cX10_search 108 = .ok (.getfield 63, 3) := by decide +kernel
theorem dX10_search_111 : decode cX10_search 111 = .ok (.iload 4, 2) := by decide +kernel
theorem dX10_search_113 : decode cX10_search 113 = .ok (.invokevirtual 165, 3) := by decide +kernel
theorem dX10_search_116 : decode cX10_search 116 = .ok (.ifCond .eq 7, 3) := by decide +kernel
theorem dX10_search_119 : decode cX10_search 119 = .ok (.iconst 1, 1) := by decide +kernel
