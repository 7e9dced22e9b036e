theorem dX3_goAlong_18 : decode cX3_goAlong 18 = .ok (.aload_n 0, 1) := by decide +kernel
theorem dX3_goAlong_19 : decode cX3_goAlong 19 = .ok (.getfield 213, 3) := by decide +kernel
theorem dX3_goAlong_22 : decode cX3_goAlong 22 = .ok (.if_icmp .ge 22, 3) := by decide +kernel
theorem dX3_goAlong_25 : decode cX3_goAlong 25 = .ok (.aload_n 0, 1) := by decide +kernel
theorem dX3_goAlong_26 : decode cX3_goAlong 26 = .ok (.aload_n 0, 1) := by decide +kernel
theorem dX3_goAlong_27 : decode cX3_goAlong 27 = .ok (.getfield 7, 3) := by decide +kernel
theorem dX3_goAlong_30 : decode cX3_goAlong 30 = .ok (.iload_n 1, 1) := by decide +kernel
theorem dX3_goAlong_31 : decode cX3_goAlong 31 = .ok (.iaload, 1) := by decide +kernel
theorem dX3_goAlong_32 : decode cX3_goAlong 32 = .ok (.invokevirtual 231, 3) := by decide +kernel
theorem dX3_goAlong_35 : decode cX3_goAlong 35 = .ok (.ifCond .eq 9, 3) := by decide +kernel
theorem dX3_goAlong_38 : decode cX3_goAlong 38 = .ok (.iinc 1 1, 3) := by decide +kernel
theorem dX3_goAlong_41 : decode cX3_goAlong 41 = .ok (.goto (-24), 3) := by decide +kernel
theorem dX3_goAlong_44 : decode cX3_goAlong 44 = .ok (.iload_n 1, 1) := by decide +kernel
theorem dX3_goAlong_45 : decode cX3_goAlong 45 = .ok (.ireturn, 1) := by decide +kernel
theorem dX3_fault_0 : decode cX3_fault 0 = .ok (.aload_n 0, 1) := by decide +kernel
theorem dX3_fault_1 : decode cX3_fault 1 = .ok (.invokevirtual 234, 3) := by decide +kernel
theorem dX3_fault_4 : decode cX3_fault 4 = .ok (.ireturn, 1) := by decide +kernel
theorem dX3_readNow_0 : decode cX3_readNow 0 = .ok (.aload_n 0, 1) := by decide +kernel
theorem dX3_readNow_1 : decode cX3_readNow 1 = .ok (.getfield 23, 3) := by decide +kernel
theorem dX3_readNow_4 : decode cX3_readNow 4 = .ok (.bipush 20, 2) := by decide +kernel
theorem dX3_readNow_6 : decode cX3_readNow 6 = .ok (.iaload, 1) := by decide +kernel
theorem dX3_readNow_7 : decode cX3_readNow 7 = .ok (.istore_n 1, 1) := by decide +kernel
theorem dX3_readNow_8 : decode cX3_readNow 8 = .ok (.aload_n 0, 1) := by decide +kernel
theorem dX3_readNow_9 : decode cX3_readNow 9 = .ok (.getfield 32, 3) := by decide +kernel
theorem dX3_readNow_12 : decode cX3_readNow 12 = .ok (.bipush 20, 2) := by decide +kernel
theorem dX3_readNow_14 : decode cX3_readNow 14 = .ok (.iaload, 1) := by decide +kernel
theorem dX3_readNow_15 : decode cX3_readNow 15 = .ok (.istore_n 2, 1) := by decide +kernel
theorem dX3_readNow_16 : decode cX3_readNow 16 = .ok (.aload_n 0, 1) := by decide +kernel
theorem dX3_readNow_17 : decode cX3_readNow 17 = .ok (.getfield 188, 3) := by decide +kernel
theorem dX3_readNow_20 : decode cX3_readNow 20 = .ok (.istore_n 3, 1) := by decide +kernel
theorem dX3_readNow_21 : decode cX3_readNow 21 = .ok (.iconst 0, 1) := by decide +kernel
theorem dX3_readNow_22 : decode cX3_readNow 22 = .ok (.istore 4, 2) := by decide +kernel
theorem dX3_readNow_24 : decode cX3_readNow 24 = .ok (.iload 4, 2) := by decide +kernel
theorem dX3_readNow_26 : decode cX3_readNow 26 = .ok (.bipush 24, 2) := by decide +kernel
theorem dX3_readNow_28 : decode cX3_readNow 28 = .ok (.if_icmp .ge 39, 3) := by decide +kernel
theorem dX3_readNow_31 : decode cX3_readNow 31 = .ok (.aload_n 0, 1) := by decide +kernel
theorem dX3_readNow_32 : decode cX3_readNow 32 = .ok (.getfield 69, 3) := by decide +kernel
theorem dX3_readNow_35 : decode cX3_readNow 35 = .ok (.iload 4, 2) := by decide +kernel
theorem dX3_readNow_37 : decode cX3_readNow 37 = .ok (.aload_n 0, 1) := by decide +kernel
theorem dX3_readNow_38 : decode cX3_readNow 38 = .ok (.bipush 20, 2) := by decide +kernel
theorem dX3_readNow_40 : decode cX3_readNow 40 = .ok (.iload 4, 2) := by decide +kernel
theorem dX3_readNow_42 : decode cX3_readNow 42 = .ok (.invokevirtual 98, 3) := by decide +kernel
theorem dX3_readNow_45 : decode cX3_readNow 45 = .ok (.iastore, 1) := by decide +kernel
theorem dX3_readNow_46 : decode cX3_readNow 46 = .ok (.aload_n 0, 1) := by decide +kernel
theorem dX3_readNow_47 : decode cX3_readNow 47 = .ok (.getfield 72, 3) := by decide +kernel
theorem dX3_readNow_50 : decode cX3_readNow 50 = .ok (.iload 4, 2) := by decide +kernel
theorem dX3_readNow_52 : decode cX3_readNow 52 = .ok (.aload_n 0, 1) := by decide +kernel
theorem dX3_readNow_53 : decode cX3_readNow 53 = .ok (.bipush 20, 2) := by decide +kernel
theorem dX3_readNow_55 : decode cX3_readNow 55 = .ok (.iload 4, 2) := by decide +kernel
theorem dX3_readNow_57 : decode cX3_readNow 57 = .ok (.invokevirtual 101, 3) := by decide +kernel
theorem dX3_readNow_60 : decode cX3_readNow 60 = .ok (.iastore, 1) := by decide +kernel
theorem dX3_readNow_61 : decode cX3_readNow 61 = .ok (.iinc 4 1, 3) := by decide +kernel
theorem dX3_readNow_64 : decode cX3_readNow 64 = .ok (.goto (-40), 3) := by decide +kernel
theorem dX3_readNow_67 : decode cX3_readNow 67 = .ok (.iconst 0, 1) := by decide +kernel
theorem dX3_readNow_68 : decode cX3_readNow 68 = .ok (.istore 4, 2) := by decide +kernel
theorem dX3_readNow_70 : decode cX3_readNow 70 = .ok (.iload 4, 2) := by decide +kernel
theorem dX3_readNow_72 : decode cX3_readNow 72 = .ok (.bipush 96, 2) := by decide +kernel
theorem dX3_readNow_74 : decode cX3_readNow 74 = .ok (.if_icmp .ge 45, 3) := by decide +kernel
theorem dX3_readNow_77 : decode cX3_readNow 77 = .ok (.aload_n 0, 1) := by decide +kernel
theorem dX3_readNow_78 : decode cX3_readNow 78 = .ok (.getfield 75, 3) := by decide +kernel
theorem dX3_readNow_81 : decode cX3_readNow 81 = .ok (.iload 4, 2) := by decide +kernel
theorem dX3_readNow_83 : decode cX3_readNow 83 = .ok (.aload_n 0, 1) := by decide +kernel
theorem dX3_readNow_84 : decode cX3_readNow 84 = .ok (.getfield 47, 3) := by decide +kernel
theorem dX3_readNow_87 : decode cX3_readNow 87 = .ok (.sipush 1920, 3) := by decide +kernel
theorem dX3_readNow_90 : decode cX3_readNow 90 = .ok (.iload 4, 2) := by decide +kernel
theorem dX3_readNow_92 : decode cX3_readNow 92 = .ok (.iadd, 1) := by decide +kernel
theorem dX3_readNow_93 : decode cX3_readNow 93 = .ok (.iaload, 1) := by decide +kernel
theorem dX3_readNow_94 : decode cX3_readNow 94 = .ok (.iastore, 1) := by decide +kernel
theorem dX3_readNow_95 : decode cX3_readNow 95 = .ok (.aload_n 0, 1) := by decide +kernel
theorem dX3_readNow_96 : decode cX3_readNow 96 = .ok (.getfield 78, 3) := by decide +kernel
theorem dX3_readNow_99 : decode cX3_readNow 99 = .ok (.iload 4, 2) := by decide +kernel
theorem dX3_readNow_101 : decode cX3_readNow 101 = .ok (.aload_n 0, 1) := by decide +kernel
theorem dX3_readNow_102 : decode cX3_readNow 102 = .ok (.getfield 50, 3) := by decide +kernel
theorem dX3_readNow_105 : decode cX3_readNow 105 = .ok (.sipush 1920, 3) := by decide +kernel
theorem dX3_readNow_108 : decode cX3_readNow 108 = .ok (.iload 4, 2) := by decide +kernel
theorem dX3_readNow_110 : decode cX3_readNow 110 = .ok (.iadd, 1) := by decide +kernel
theorem dX3_readNow_111 : decode cX3_readNow 111 = .ok (.baload, 1) := by decide +kernel
theorem dX3_readNow_112 : decode cX3_readNow 112 = .ok (.bastore, 1) := by decide +kernel
theorem dX3_readNow_113 : decode cX3_readNow 113 = .ok (.iinc 4 1, 3) := by decide +kernel
theorem dX3_readNow_116 : decode cX3_readNow 116 = .ok (.goto (-46), 3) := by decide +kernel
theorem dX3_readNow_119 : decode cX3_readNow 119 = .ok (.aload_n 0, 1) := by decide +kernel
theorem dX3_readNow_120 : decode cX3_readNow 120 = .ok (.iconst 0, 1) := by decide +kernel
theorem dX3_readNow_121 : decode cX3_readNow 121 = .ok (.invokevirtual 197, 3) := by decide +kernel
theorem dX3_readNow_124 : decode cX3_readNow 124 = .ok (.iconst 0, 1) := by decide +kernel
theorem dX3_readNow_125 : decode cX3_readNow 125 = .ok (.istore 4, 2) := by decide +kernel
theorem dX3_readNow_127 : decode cX3_readNow 127 = .ok (.iload 4, 2) := by decide +kernel
theorem dX3_readNow_129 : decode cX3_readNow 129 = .ok (.aload_n 0, 1) := by decide +kernel
theorem dX3_readNow_130 : decode cX3_readNow 130 = .ok (.getfield 228, 3) := by decide +kernel
theorem dX3_readNow_133 : decode cX3_readNow 133 = .ok (.if_icmp .ge 27, 3) := by decide +kernel
theorem dX3_readNow_136 : decode cX3_readNow 136 = .ok (.aload_n 0, 1) := by decide +kernel
theorem dX3_readNow_137 : decode cX3_readNow 137 = .ok (.aload_n 0, 1) := by decide +kernel
theorem dX3_readNow_138 : decode cX3_readNow 138 = .ok (.getfield 63, 3) := by decide +kernel
theorem dX3_readNow_141 : decode cX3_readNow 141 = .ok (.iload 4, 2) := by decide +kernel
theorem dX3_readNow_143 : decode cX3_readNow 143 = .ok (.iaload, 1) := by decide +kernel
theorem dX3_readNow_144 : decode cX3_readNow 144 = .ok (.aload_n 0, 1) := by decide +kernel
theorem dX3_readNow_145 : decode cX3_readNow 145 = .ok (.getfield 66, 3) := by decide +kernel
theorem dX3_readNow_148 : decode cX3_readNow 148 = .ok (.iload 4, 2) := by decide +kernel
theorem dX3_readNow_150 : decode cX3_readNow 150 = .ok (.iaload, 1) := by decide +kernel
theorem dX3_readNow_151 : decode cX3_readNow 151 = .ok (.invokevirtual 200, 3) := by decide +kernel
theorem dX3_readNow_154 : decode cX3_readNow 154 = .ok (.iinc 4 1, 3) := by decide +kernel
theorem dX3_readNow_157 : decode cX3_readNow 157 = .ok (.goto (-30), 3) := by decide +kernel
theorem dX3_readNow_160 : decode cX3_readNow 160 = .ok (.aload_n 0, 1) := by decide +kernel
theorem dX3_readNow_161 : decode cX3_readNow 161 = .ok (.bipush 20, 2) := by decide +kernel
theorem dX3_readNow_163 : decode cX3_readNow 163 = .ok (.invokevirtual 170, 3) := by decide +kernel
theorem dX3_readNow_166 : decode cX3_readNow 166 = .ok (.istore 4, 2) := by decide +kernel
theorem dX3_readNow_168 : decode cX3_readNow 168 = .ok (.aload_n 0, 1) := by decide +kernel
theorem dX3_readNow_169 : decode cX3_readNow 169 = .ok (.getfield 23, 3) := by decide +kernel
theorem dX3_readNow_172 : decode cX3_readNow 172 = .ok (.bipush 20, 2) := by decide +kernel
theorem dX3_readNow_174 : decode cX3_readNow 174 = .ok (.iload_n 1, 1) := by decide +kernel
theorem dX3_readNow_175 : decode cX3_readNow 175 = .ok (.iastore, 1) := by decide +kernel
theorem dX3_readNow_176 : decode cX3_readNow 176 = .ok (.iconst 0, 1) := by decide +kernel
theorem dX3_readNow_177 : decode cX3_readNow 177 = .ok (.istore 5, 2) := by decide +kernel
theorem dX3_readNow_179 : decode cX3_readNow 179 = .ok (.iload 5, 2) := by decide +kernel
theorem dX3_readNow_181 : decode cX3_readNow 181 = .ok (.bipush 24, 2) := by decide +kernel
theorem dX3_readNow_183 : decode cX3_readNow 183 = .ok (.if_icmp .ge 45, 3) := by decide +kernel
theorem dX3_readNow_186 : decode cX3_readNow 186 = .ok (.aload_n 0, 1) := by decide +kernel
theorem dX3_readNow_187 : decode cX3_readNow 187 = .ok (.getfield 26, 3) := by decide +kernel
theorem dX3_readNow_190 : decode cX3_readNow 190 = .ok (.sipush 480, 3) := by decide +kernel
theorem dX3_readNow_193 : decode cX3_readNow 193 = .ok (.iload 5, 2) := by decide +kernel
theorem dX3_readNow_195 : decode cX3_readNow 195 = .ok (.iadd, 1) := by decide +kernel
theorem dX3_readNow_196 : decode cX3_readNow 196 = .ok (.aload_n 0, 1) := by decide +kernel
theorem dX3_readNow_197 : decode cX3_readNow 197 = .ok (.getfield 69, 3) := by decide +kernel
theorem dX3_readNow_200 : decode cX3_readNow 200 = .ok (.iload 5, 2) := by decide +kernel
theorem dX3_readNow_202 : decode cX3_readNow 202 = .ok (.iaload, 1) := by decide +kernel
theorem dX3_readNow_203 : decode cX3_readNow 203 = .ok (.iastore, 1) := by decide +kernel
theorem dX3_readNow_204 : decode cX3_readNow 204 = .ok (.aload_n 0, 1) := by decide +kernel
theorem dX3_readNow_205 : decode cX3_readNow 205 = .ok (.getfield 29, 3) := by decide +kernel
theorem dX3_readNow_208 : decode cX3_readNow 208 = .ok (.sipush 480, 3) := by decide +kernel
theorem dX3_readNow_211 : decode cX3_readNow 211 = .ok (.iload 5, 2) := by decide +kernel
theorem dX3_readNow_213 : decode cX3_readNow 213 = .ok (.iadd, 1) := by decide +kernel
theorem dX3_readNow_214 : decode cX3_readNow 214 = .ok (.aload_n 0, 1) := by decide +kernel
theorem dX3_readNow_215 : decode cX3_readNow 215 = .ok (.getfield 72, 3) := by decide +kernel
theorem dX3_readNow_218 : decode cX3_readNow 218 = .ok (.iload 5, 2) := by decide +kernel
theorem dX3_readNow_220 : decode cX3_readNow 220 = .ok (.iaload, 1) := by decide +kernel
theorem dX3_readNow_221 : decode cX3_readNow 221 = .ok (.iastore, 1) := by decide +kernel
theorem dX3_readNow_222 : decode cX3_readNow 222 = .ok (.iinc 5 1, 3) := by decide +kernel
theorem dX3_readNow_225 : decode cX3_readNow 225 = .ok (.goto (-46), 3) := by decide +kernel
theorem dX3_readNow_228 : decode cX3_readNow 228 = .ok (.aload_n 0, 1) := by decide +kernel
theorem dX3_readNow_229 : decode cX3_readNow 229 = .ok (.bipush 20, 2) := by decide +kernel
theorem dX3_readNow_231 : decode cX3_readNow 231 = .ok (.invokevirtual 139, 3) := by decide +kernel
theorem dX3_readNow_234 : decode cX3_readNow 234 = .ok (.aload_n 0, 1) := by decide +kernel
theorem dX3_readNow_235 : decode cX3_readNow 235 = .ok (.getfield 32, 3) := by decide +kernel
theorem dX3_readNow_238 : decode cX3_readNow 238 = .ok (.bipush 20, 2) := by decide +kernel
theorem dX3_readNow_240 : decode cX3_readNow 240 = .ok (.iload_n 2, 1) := by decide +kernel
theorem dX3_readNow_241 : decode cX3_readNow 241 = .ok (.iastore, 1) := by decide +kernel
theorem dX3_readNow_242 : decode cX3_readNow 242 = .ok (.iconst 0, 1) := by decide +kernel
theorem dX3_readNow_243 : decode cX3_readNow 243 = .ok (.istore 5, 2) := by decide +kernel
theorem dX3_readNow_245 : decode cX3_readNow 245 = .ok (.iload 5, 2) := by decide +kernel
theorem dX3_readNow_247 : decode cX3_readNow 247 = .ok (.bipush 96, 2) := by decide +kernel
theorem dX3_readNow_249 : decode cX3_readNow 249 = .ok (.if_icmp .ge 45, 3) := by decide +kernel
theorem dX3_readNow_252 : decode cX3_readNow 252 = .ok (.aload_n 0, 1) := by decide +kernel
theorem dX3_readNow_253 : decode cX3_readNow 253 = .ok (.getfield 47, 3) := by decide +kernel
theorem dX3_readNow_256 : decode cX3_readNow 256 = .ok (.sipush 1920, 3) := by decide +kernel
theorem dX3_readNow_259 : decode cX3_readNow 259 = .ok (.iload 5, 2) := by decide +kernel
theorem dX3_readNow_261 : decode cX3_readNow 261 = .ok (.iadd, 1) := by decide +kernel
theorem dX3_readNow_262 : decode cX3_readNow 262 = .ok (.aload_n 0, 1) := by decide +kernel
theorem dX3_readNow_263 : decode cX3_readNow 263 = .ok (.getfield 75, 3) := by decide +kernel
theorem dX3_readNow_266 : decode cX3_readNow 266 = .ok (.iload 5, 2) := by decide +kernel
theorem dX3_readNow_268 : decode cX3_readNow 268 = .ok (.iaload, 1) := by decide +kernel
theorem dX3_readNow_269 : decode cX3_readNow 269 = .ok (.iastore, 1) := by decide +kernel
theorem dX3_readNow_270 : decode cX3_readNow 270 = .ok (.aload_n 0, 1) := by decide +kernel
theorem dX3_readNow_271 : decode cX3_readNow 271 = .ok (.getfield 50, 3) := by decide +kernel
theorem dX3_readNow_274 : decode cX3_readNow 274 = .ok (.sipush 1920, 3) := by decide +kernel
theorem dX3_readNow_277 : decode cX3_readNow 277 = .ok (.iload 5, 2) := by decide +kernel
theorem dX3_readNow_279 : decode cX3_readNow 279 = .ok (.iadd, 1) := by decide +kernel
theorem dX3_readNow_280 : decode cX3_readNow 280 = .ok (.aload_n 0, 1) := by decide +kernel
theorem dX3_readNow_281 : decode cX3_readNow 281 = .ok (.getfield 78, 3) := by decide +kernel
theorem dX3_readNow_284 : decode cX3_readNow 284 = .ok (.iload 5, 2) := by decide +kernel
theorem dX3_readNow_286 : decode cX3_readNow 286 = .ok (.baload, 1) := by decide +kernel
theorem dX3_readNow_287 : decode cX3_readNow 287 = .ok (.bastore, 1) := by decide +kernel
theorem dX3_readNow_288 : decode cX3_readNow 288 = .ok (.iinc 5 1, 3) := by decide +kernel
theorem dX3_readNow_291 : decode cX3_readNow 291 = .ok (.goto (-46), 3) := by decide +kernel
theorem dX3_readNow_294 : decode cX3_readNow 294 = .ok (.aload_n 0, 1) := by decide +kernel
theorem dX3_readNow_295 : decode cX3_readNow 295 = .ok (.iload_n 3, 1) := by decide +kernel
theorem dX3_readNow_296 : decode cX3_readNow 296 = .ok (.putfield 188, 3) := by decide +kernel
theorem dX3_readNow_299 : decode cX3_readNow 299 = .ok (.iload 4, 2) := by decide +kernel
theorem dX3_readNow_301 : decode cX3_readNow 301 = .ok (.ireturn, 1) := by decide +kernel
theorem dX3_read_0 : decode cX3_read 0 = .ok (.aload_n 0, 1) := by decide +kernel
theorem dX3_read_1 : decode cX3_read 1 = .ok (.invokevirtual 234, 3) := by decide +kernel
theorem dX3_read_4 : decode cX3_read 4 = .ok (.aload_n 0, 1) := by decide +kernel
theorem dX3_read_5 : decode cX3_read 5 = .ok (.getfield 213, 3) := by decide +kernel
theorem dX3_read_8 : decode cX3_read 8 = .ok (.if_icmp .ne 29, 3) := by decide +kernel
theorem dX3_read_11 : decode cX3_read 11 = .ok (.aload_n 0, 1) := by decide +kernel
theorem dX3_read_12 : decode cX3_read 12 = .ok (.getfield 213, 3) := by decide +kernel
theorem dX3_read_15 : decode cX3_read 15 = .ok (.ifCond .eq 18, 3) := by decide +kernel
theorem dX3_read_18 : decode cX3_read 18 = .ok (.aload_n 0, 1) := by decide +kernel
theorem dX3_read_19 : decode cX3_read 19 = .ok (.getfield 219, 3) := by decide +kernel
theorem dX3_read_22 : decode cX3_read 22 = .ok (.ifCond .eq 15, 3) := by decide +kernel
theorem dX3_read_25 : decode cX3_read 25 = .ok (.aload_n 0, 1) := by decide +kernel
theorem dX3_read_26 : decode cX3_read 26 = .ok (.getfield 216, 3) := by decide +kernel
theorem dX3_read_29 : decode cX3_read 29 = .ok (.iconst (-1), 1) := by decide +kernel
theorem dX3_read_30 : decode cX3_read 30 = .ok (.if_icmp .eq 7, 3) := by decide +kernel
theorem dX3_read_33 : decode cX3_read 33 = .ok (.iconst 1, 1) := by decide +kernel
theorem dX3_read_34 : decode cX3_read 34 = .ok (.goto 4, 3) := by decide +kernel
theorem dX3_read_37 : decode cX3_read 37 = .ok (.iconst 0, 1) := by decide +kernel
theorem dX3_read_38 : decode cX3_read 38 = .ok (.istore_n 1, 1) := by decide +kernel
theorem dX3_read_39 : decode cX3_read 39 = .ok (.iload_n 1, 1) := by decide +kernel
theorem dX3_read_40 : decode cX3_read 40 = .ok (.ifCond .ne 6, 3) := by decide +kernel
theorem dX3_read_43 : decode cX3_read 43 = .ok (.bipush (-103), 2) := by decide +kernel
theorem dX3_read_45 : decode cX3_read 45 = .ok (.ireturn, 1) := by decide +kernel
theorem dX3_read_46 : decode cX3_read 46 = .ok (.aload_n 0, 1) := by decide +kernel
theorem dX3_read_47 : decode cX3_read 47 = .ok (.getfield 20, 3) := by decide +kernel
theorem dX3_read_50 : decode cX3_read 50 = .ok (.bipush 20, 2) := by decide +kernel
theorem dX3_read_52 : decode cX3_read 52 = .ok (.if_icmp .ne 6, 3) := by decide +kernel
theorem dX3_read_55 : decode cX3_read 55 = .ok (.bipush (-104), 2) := by decide +kernel
theorem dX3_read_57 : decode cX3_read 57 = .ok (.ireturn, 1) := by decide +kernel
theorem dX3_read_58 : decode cX3_read 58 = .ok (.aload_n 0, 1) := by decide +kernel
theorem dX3_read_59 : decode cX3_read 59 = .ok (.getfield 213, 3) := by decide +kernel
theorem dX3_read_62 : decode cX3_read 62 = .ok (.ifCond .le 7, 3) := by decide +kernel
theorem dX3_read_65 : decode cX3_read 65 = .ok (.aload_n 0, 1) := by decide +kernel
theorem dX3_read_66 : decode cX3_read 66 = .ok (.invokevirtual 225, 3) := by decide +kernel
theorem dX3_read_69 : decode cX3_read 69 = .ok (.aload_n 0, 1) := by decide +kernel
theorem dX3_read_70 : decode cX3_read 70 = .ok (.dup, 1) := by decide +kernel
theorem dX3_read_71 : decode cX3_read 71 = .ok (.getfield 237, 3) := by decide +kernel
theorem dX3_read_74 : decode cX3_read 74 = .ok (.iconst 1, 1) := by decide +kernel
theorem dX3_read_75 : decode cX3_read 75 = .ok (.iadd, 1) := by decide +kernel
theorem dX3_read_76 : decode cX3_read 76 = .ok (.putfield 237, 3) := by decide +kernel
theorem dX3_read_79 : decode cX3_read 79 = .ok (.aload_n 0, 1) := by decide +kernel
theorem dX3_read_80 : decode cX3_read 80 = .ok (.iconst 0, 1) := by decide +kernel
theorem dX3_read_81 : decode cX3_read 81 = .ok (.putfield 213, 3) := by decide +kernel
theorem dX3_read_84 : decode cX3_read 84 = .ok (.aload_n 0, 1) := by decide +kernel
theorem dX3_read_85 : decode cX3_read 85 = .ok (.invokevirtual 240, 3) := by decide +kernel
theorem dX3_read_88 : decode cX3_read 88 = .ok (.ireturn, 1) := by decide +kernel
theorem dX3_valueOf_0 : decode cX3_valueOf 0 = .ok (.aload_n 0, 1) := by decide +kernel
theorem dX3_valueOf_1 : decode cX3_valueOf 1 = .ok (.iload_n 1, 1) := by decide +kernel
theorem dX3_valueOf_2 : decode cX3_valueOf 2 = .ok (.iload_n 2, 1) := by decide +kernel
theorem dX3_valueOf_3 : decode cX3_valueOf 3 = .ok (.invokevirtual 104, 3) := by decide +kernel
theorem dX3_valueOf_6 : decode cX3_valueOf 6 = .ok (.istore_n 3, 1) := by decide +kernel
theorem dX3_valueOf_7 : decode cX3_valueOf 7 = .ok (.iload_n 3, 1) := by decide +kernel
theorem dX3_valueOf_8 : decode cX3_valueOf 8 = .ok (.iconst (-1), 1) := by decide +kernel
theorem dX3_valueOf_9 : decode cX3_valueOf 9 = .ok (.if_icmp .ne 7, 3) := by decide +kernel
theorem dX3_valueOf_12 : decode cX3_valueOf 12 = .ok (.iconst (-1), 1) := by decide +kernel
theorem dX3_valueOf_13 : decode cX3_valueOf 13 = .ok (.goto 9, 3) := by decide +kernel
theorem dX3_valueOf_16 : decode cX3_valueOf 16 = .ok (.aload_n 0, 1) := by decide +kernel
theorem dX3_valueOf_17 : decode cX3_valueOf 17 = .ok (.iload_n 1, 1) := by decide +kernel
theorem dX3_valueOf_18 : decode cX3_valueOf 18 = .ok (.iload_n 3, 1) := by decide +kernel
theorem dX3_valueOf_19 : decode cX3_valueOf 19 = .ok (.invokevirtual 101, 3) := by decide +kernel
theorem dX3_valueOf_22 : decode cX3_valueOf 22 = .ok (.ireturn, 1) := by decide +kernel
theorem dX3_get_0 : decode cX3_get 0 = .ok (.aload_n 0, 1) := by decide +kernel
theorem dX3_get_1 : decode cX3_get 1 = .ok (.iload_n 1, 1) := by decide +kernel
theorem dX3_get_2 : decode cX3_get 2 = .ok (.invokevirtual 160, 3) := by decide +kernel
theorem dX3_get_5 : decode cX3_get 5 = .ok (.ifCond .ne 6, 3) := by decide +kernel
theorem dX3_get_8 : decode cX3_get 8 = .ok (.bipush (-101), 2) := by decide +kernel
theorem dX3_get_10 : decode cX3_get 10 = .ok (.ireturn, 1) := by decide +kernel
theorem dX3_get_11 : decode cX3_get 11 = .ok (.iload_n 2, 1) := by decide +kernel
theorem dX3_get_12 : decode cX3_get 12 = .ok (.iconst 0, 1) := by decide +kernel
theorem dX3_get_13 : decode cX3_get 13 = .ok (.sipush 4095, 3) := by decide +kernel
theorem dX3_get_16 : decode cX3_get 16 = .ok (.invokestatic 81, 3) := by decide +kernel
theorem dX3_get_19 : decode cX3_get 19 = .ok (.ifCond .eq 12, 3) := by decide +kernel
theorem dX3_get_22 : decode cX3_get 22 = .ok (.aload_n 0, 1) := by decide +kernel
theorem dX3_get_23 : decode cX3_get 23 = .ok (.iload_n 1, 1) := by decide +kernel
theorem dX3_get_24 : decode cX3_get 24 = .ok (.iload_n 2, 1) := by decide +kernel
theorem dX3_get_25 : decode cX3_get 25 = .ok (.invokevirtual 243, 3) := by decide +kernel
theorem dX3_get_28 : decode cX3_get 28 = .ok (.goto 5, 3) := by decide +kernel
theorem dX3_get_31 : decode cX3_get 31 = .ok (.bipush (-102), 2) := by decide +kernel
theorem dX3_get_33 : decode cX3_get 33 = .ok (.ireturn, 1) := by decide +kernel
theorem dX3_ofKind_0 : decode cX3_ofKind 0 = .ok (.iconst 0, 1) := by decide +kernel
theorem dX3_ofKind_1 : decode cX3_ofKind 1 = .ok (.istore_n 3, 1) := by decide +kernel
theorem dX3_ofKind_2 : decode cX3_ofKind 2 = .ok (.iconst 0, 1) := by decide +kernel
theorem dX3_ofKind_3 : decode cX3_ofKind 3 = .ok (.istore 4, 2) := by decide +kernel
theorem dX3_ofKind_5 : decode cX3_ofKind 5 = .ok (.iload 4, 2) := by decide +kernel
theorem dX3_ofKind_7 : decode cX3_ofKind 7 = .ok (.aload_n 0, 1) := by decide +kernel
theorem dX3_ofKind_8 : decode cX3_ofKind 8 = .ok (.getfield 32, 3) := by decide +kernel
theorem dX3_ofKind_11 : decode cX3_ofKind 11 = .ok (.iload_n 1, 1) := by decide +kernel
theorem dX3_ofKind_12 : decode cX3_ofKind 12 = .ok (.iaload, 1) := by decide +kernel
theorem dX3_ofKind_13 : decode cX3_ofKind 13 = .ok (.if_icmp .ge 33, 3) := by decide +kernel
theorem dX3_ofKind_16 : decode cX3_ofKind 16 = .ok (.iload_n 3, 1) := by decide +kernel
theorem dX3_ofKind_17 : decode cX3_ofKind 17 = .ok (.aload_n 0, 1) := by decide +kernel
theorem dX3_ofKind_18 : decode cX3_ofKind 18 = .ok (.getfield 35, 3) := by decide +kernel
theorem dX3_ofKind_21 : decode cX3_ofKind 21 = .ok (.bipush 96, 2) := by decide +kernel
theorem dX3_ofKind_23 : decode cX3_ofKind 23 = .ok (.iload_n 1, 1) := by decide +kernel
theorem dX3_ofKind_24 : decode cX3_ofKind 24 = .ok (.imul, 1) := by decide +kernel
theorem dX3_ofKind_25 : decode cX3_ofKind 25 = .ok (.iload 4, 2) := by decide +kernel
theorem dX3_ofKind_27 : decode cX3_ofKind 27 = .ok (.iadd, 1) := by decide +kernel
theorem dX3_ofKind_28 : decode cX3_ofKind 28 = .ok (.iaload, 1) := by decide +kernel
theorem dX3_ofKind_29 : decode cX3_ofKind 29 = .ok (.iload_n 2, 1) := by decide +kernel
theorem dX3_ofKind_30 : decode cX3_ofKind 30 = .ok (.if_icmp .ne 7, 3) := by decide +kernel
theorem dX3_ofKind_33 : decode cX3_ofKind 33 = .ok (.iconst 1, 1) := by decide +kernel
theorem dX3_ofKind_34 : decode cX3_ofKind 34 = .ok (.goto 4, 3) := by decide +kernel
theorem dX3_ofKind_37 : decode cX3_ofKind 37 = .ok (.iconst 0, 1) := by decide +kernel
theorem dX3_ofKind_38 : decode cX3_ofKind 38 = .ok (.iadd, 1) := by decide +kernel
theorem dX3_ofKind_39 : decode cX3_ofKind 39 = .ok (.istore_n 3, 1) := by decide +kernel
theorem dX3_ofKind_40 : decode cX3_ofKind 40 = .ok (.iinc 4 1, 3) := by decide +kernel
theorem dX3_ofKind_43 : decode cX3_ofKind 43 = .ok (.goto (-38), 3) := by decide +kernel
theorem dX3_ofKind_46 : decode cX3_ofKind 46 = .ok (.iload_n 3, 1) := by decide +kernel
theorem dX3_ofKind_47 : decode cX3_ofKind 47 = .ok (.ireturn, 1) := by decide +kernel
theorem dX3_deepest_0 : decode cX3_deepest 0 = .ok (.iconst (-1), 1) := by decide +kernel
theorem dX3_deepest_1 : decode cX3_deepest 1 = .ok (.istore_n 2, 1) := by decide +kernel
theorem dX3_deepest_2 : decode cX3_deepest 2 = .ok (.iconst 0, 1) := by decide +kernel
theorem dX3_deepest_3 : decode cX3_deepest 3 = .ok (.istore_n 3, 1) := by decide +kernel
theorem dX3_deepest_4 : decode cX3_deepest 4 = .ok (.iload_n 3, 1) := by decide +kernel
theorem dX3_deepest_5 : decode cX3_deepest 5 = .ok (.aload_n 0, 1) := by decide +kernel
theorem dX3_deepest_6 : decode cX3_deepest 6 = .ok (.getfield 32, 3) := by decide +kernel
theorem dX3_deepest_9 : decode cX3_deepest 9 = .ok (.iload_n 1, 1) := by decide +kernel
theorem dX3_deepest_10 : decode cX3_deepest 10 = .ok (.iaload, 1) := by decide +kernel
theorem dX3_deepest_11 : decode cX3_deepest 11 = .ok (.if_icmp .ge 35, 3) := by decide +kernel
theorem dX3_deepest_14 : decode cX3_deepest 14 = .ok (.aload_n 0, 1) := by decide +kernel
theorem dX3_deepest_15 : decode cX3_deepest 15 = .ok (.getfield 38, 3) := by decide +kernel
theorem dX3_deepest_18 : decode cX3_deepest 18 = .ok (.bipush 96, 2) := by decide +kernel
theorem dX3_deepest_20 : decode cX3_deepest 20 = .ok (.iload_n 1, 1) := by decide +kernel
theorem dX3_deepest_21 : decode cX3_deepest 21 = .ok (.imul, 1) := by decide +kernel
theorem dX3_deepest_22 : decode cX3_deepest 22 = .ok (.iload_n 3, 1) := by decide +kernel
theorem dX3_deepest_23 : decode cX3_deepest 23 = .ok (.iadd, 1) := by decide +kernel
theorem dX3_deepest_24 : decode cX3_deepest 24 = .ok (.iaload, 1) := by decide +kernel
theorem dX3_deepest_25 : decode cX3_deepest 25 = .ok (.istore 4, 2) := by decide +kernel
theorem dX3_deepest_27 : decode cX3_deepest 27 = .ok (.iload 4, 2) := by decide +kernel
theorem dX3_deepest_29 : decode cX3_deepest 29 = .ok (.iload_n 2, 1) := by decide +kernel
theorem dX3_deepest_30 : decode cX3_deepest 30 = .ok (.if_icmp .le 8, 3) := by decide +kernel
theorem dX3_deepest_33 : decode cX3_deepest 33 = .ok (.iload 4, 2) := by decide +kernel
theorem dX3_deepest_35 : decode cX3_deepest 35 = .ok (.goto 4, 3) := by decide +kernel
theorem dX3_deepest_38 : decode cX3_deepest 38 = .ok (.iload_n 2, 1) := by decide +kernel
theorem dX3_deepest_39 : decode cX3_deepest 39 = .ok (.istore_n 2, 1) := by decide +kernel
theorem dX3_deepest_40 : decode cX3_deepest 40 = .ok (.iinc 3 1, 3) := by decide +kernel
theorem dX3_deepest_43 : decode cX3_deepest 43 = .ok (.goto (-39), 3) := by decide +kernel
theorem dX3_deepest_46 : decode cX3_deepest 46 = .ok (.iload_n 2, 1) := by decide +kernel
theorem dX3_deepest_47 : decode cX3_deepest 47 = .ok (.ireturn, 1) := by decide +kernel
theorem dX3_aboutNow_0 : decode cX3_aboutNow 0 = .ok (.iload_n 2, 1) := by decide +kernel
theorem dX3_aboutNow_1 : decode cX3_aboutNow 1 = .ok (.tableswitch 58 0 4 #[35, 42, 49, 49, 49], 35) := by decide +kernel
theorem dX3_aboutNow_36 : decode cX3_aboutNow 36 = .ok (.aload_n 0, 1) := by decide +kernel
theorem dX3_aboutNow_37 : decode cX3_aboutNow 37 = .ok (.getfield 23, 3) := by decide +kernel
theorem dX3_aboutNow_40 : decode cX3_aboutNow 40 = .ok (.iload_n 1, 1) := by decide +kernel
theorem dX3_aboutNow_41 : decode cX3_aboutNow 41 = .ok (.iaload, 1) := by decide +kernel
theorem dX3_aboutNow_42 : decode cX3_aboutNow 42 = .ok (.ireturn, 1) := by decide +kernel
theorem dX3_aboutNow_43 : decode cX3_aboutNow 43 = .ok (.aload_n 0, 1) := by decide +kernel
theorem dX3_aboutNow_44 : decode cX3_aboutNow 44 = .ok (.getfield 32, 3) := by decide +kernel
theorem dX3_aboutNow_47 : decode cX3_aboutNow 47 = .ok (.iload_n 1, 1) := by decide +kernel
theorem dX3_aboutNow_48 : decode cX3_aboutNow 48 = .ok (.iaload, 1) := by decide +kernel
theorem dX3_aboutNow_49 : decode cX3_aboutNow 49 = .ok (.ireturn, 1) := by decide +kernel
theorem dX3_aboutNow_50 : decode cX3_aboutNow 50 = .ok (.aload_n 0, 1) := by decide +kernel
theorem dX3_aboutNow_51 : decode cX3_aboutNow 51 = .ok (.iload_n 1, 1) := by decide +kernel
theorem dX3_aboutNow_52 : decode cX3_aboutNow 52 = .ok (.iload_n 2, 1) := by decide +kernel
theorem dX3_aboutNow_53 : decode cX3_aboutNow 53 = .ok (.iconst 2, 1) := by decide +kernel
theorem dX3_aboutNow_54 : decode cX3_aboutNow 54 = .ok (.isub, 1) := by decide +kernel
theorem dX3_aboutNow_55 : decode cX3_aboutNow 55 = .ok (.invokevirtual 246, 3) := by decide +kernel
theorem dX3_aboutNow_58 : decode cX3_aboutNow 58 = .ok (.ireturn, 1) := by decide +kernel
theorem dX3_aboutNow_59 : decode cX3_aboutNow 59 = .ok (.aload_n 0, 1) := by decide +kernel
theorem dX3_aboutNow_60 : decode cX3_aboutNow 60 = .ok (.iload_n 1, 1) := by decide +kernel
theorem dX3_aboutNow_61 : decode cX3_aboutNow 61 = .ok (.invokevirtual 249, 3) := by decide +kernel
theorem dX3_aboutNow_64 : decode cX3_aboutNow 64 = .ok (.ireturn, 1) := by decide +kernel
theorem dX3_about_0 : decode cX3_about 0 = .ok (.aload_n 0, 1) := by decide +kernel
theorem dX3_about_1 : decode cX3_about 1 = .ok (.iload_n 1, 1) := by decide +kernel
theorem dX3_about_2 : decode cX3_about 2 = .ok (.invokevirtual 160, 3) := by decide +kernel
theorem dX3_about_5 : decode cX3_about 5 = .ok (.ifCond .ne 8, 3) := by decide +kernel
theorem dX3_about_8 : decode cX3_about 8 = .ok (.bipush (-101), 2) := by decide +kernel
theorem dX3_about_10 : decode cX3_about 10 = .ok (.goto 23, 3) := by decide +kernel
theorem dX3_about_13 : decode cX3_about 13 = .ok (.iload_n 2, 1) := by decide +kernel
theorem dX3_about_14 : decode cX3_about 14 = .ok (.iconst 0, 1) := by decide +kernel
theorem dX3_about_15 : decode cX3_about 15 = .ok (.iconst 5, 1) := by decide +kernel
theorem dX3_about_16 : decode cX3_about 16 = .ok (.invokestatic 81, 3) := by decide +kernel
theorem dX3_about_19 : decode cX3_about 19 = .ok (.ifCond .eq 12, 3) := by decide +kernel
theorem dX3_about_22 : decode cX3_about 22 = .ok (.aload_n 0, 1) := by decide +kernel
theorem dX3_about_23 : decode cX3_about 23 = .ok (.iload_n 1, 1) := by decide +kernel
theorem dX3_about_24 : decode cX3_about 24 = .ok (.iload_n 2, 1) := by decide +kernel
theorem dX3_about_25 : decode cX3_about 25 = .ok (.invokevirtual 252, 3) := by decide +kernel
theorem dX3_about_28 : decode cX3_about 28 = .ok (.goto 5, 3) := by decide +kernel
theorem dX3_about_31 : decode cX3_about 31 = .ok (.bipush (-102), 2) := by decide +kernel
theorem dX3_about_33 : decode cX3_about 33 = .ok (.ireturn, 1) := by decide +kernel
theorem dX3_partsBelow_0 : decode cX3_partsBelow 0 = .ok (.iconst 0, 1) := by decide +kernel
theorem dX3_partsBelow_1 : decode cX3_partsBelow 1 = .ok (.istore_n 3, 1) := by decide +kernel
theorem dX3_partsBelow_2 : decode cX3_partsBelow 2 = .ok (.iconst 0, 1) := by decide +kernel
theorem dX3_partsBelow_3 : decode cX3_partsBelow 3 = .ok (.istore 4, 2) := by decide +kernel
theorem dX3_partsBelow_5 : decode cX3_partsBelow 5 = .ok (.iload 4, 2) := by decide +kernel
theorem dX3_partsBelow_7 : decode cX3_partsBelow 7 = .ok (.aload_n 0, 1) := by decide +kernel
theorem dX3_partsBelow_8 : decode cX3_partsBelow 8 = .ok (.getfield 44, 3) := by decide +kernel
theorem dX3_partsBelow_11 : decode cX3_partsBelow 11 = .ok (.iload_n 2, 1) := by decide +kernel
theorem dX3_partsBelow_12 : decode cX3_partsBelow 12 = .ok (.iaload, 1) := by decide +kernel
theorem dX3_partsBelow_13 : decode cX3_partsBelow 13 = .ok (.if_icmp .ge 34, 3) := by decide +kernel
theorem dX3_partsBelow_16 : decode cX3_partsBelow 16 = .ok (.iload_n 3, 1) := by decide +kernel
theorem dX3_partsBelow_17 : decode cX3_partsBelow 17 = .ok (.iconst 1, 1) := by decide +kernel
theorem dX3_partsBelow_18 : decode cX3_partsBelow 18 = .ok (.aload_n 0, 1) := by decide +kernel
theorem dX3_partsBelow_19 : decode cX3_partsBelow 19 = .ok (.iload_n 1, 1) := by decide +kernel
theorem dX3_partsBelow_20 : decode cX3_partsBelow 20 = .ok (.aload_n 0, 1) := by decide +kernel
theorem dX3_partsBelow_21 : decode cX3_partsBelow 21 = .ok (.getfield 41, 3) := by decide +kernel
theorem dX3_partsBelow_24 : decode cX3_partsBelow 24 = .ok (.iload_n 2, 1) := by decide +kernel
theorem dX3_partsBelow_25 : decode cX3_partsBelow 25 = .ok (.iaload, 1) := by decide +kernel
theorem dX3_partsBelow_26 : decode cX3_partsBelow 26 = .ok (.iload 4, 2) := by decide +kernel
theorem dX3_partsBelow_28 : decode cX3_partsBelow 28 = .ok (.iadd, 1) := by decide +kernel
theorem dX3_partsBelow_29 : decode cX3_partsBelow 29 = .ok (.aload_n 0, 1) := by decide +kernel
theorem dX3_partsBelow_30 : decode cX3_partsBelow 30 = .ok (.getfield 38, 3) := by decide +kernel
theorem dX3_partsBelow_33 : decode cX3_partsBelow 33 = .ok (.iload_n 2, 1) := by decide +kernel
theorem dX3_partsBelow_34 : decode cX3_partsBelow 34 = .ok (.iaload, 1) := by decide +kernel
theorem dX3_partsBelow_35 : decode cX3_partsBelow 35 = .ok (.invokevirtual 125, 3) := by decide +kernel
theorem dX3_partsBelow_38 : decode cX3_partsBelow 38 = .ok (.ishl, 1) := by decide +kernel
theorem dX3_partsBelow_39 : decode cX3_partsBelow 39 = .ok (.ior, 1) := by decide +kernel
theorem dX3_partsBelow_40 : decode cX3_partsBelow 40 = .ok (.istore_n 3, 1) := by decide +kernel
theorem dX3_partsBelow_41 : decode cX3_partsBelow 41 = .ok (.iinc 4 1, 3) := by decide +kernel
theorem dX3_partsBelow_44 : decode cX3_partsBelow 44 = .ok (.goto (-39), 3) := by decide +kernel
theorem dX3_partsBelow_47 : decode cX3_partsBelow 47 = .ok (.iload_n 3, 1) := by decide +kernel
theorem dX3_partsBelow_48 : decode cX3_partsBelow 48 = .ok (.ireturn, 1) := by decide +kernel
theorem dX3_nodeNow_0 : decode cX3_nodeNow 0 = .ok (.bipush 96, 2) := by decide +kernel
theorem dX3_nodeNow_2 : decode cX3_nodeNow 2 = .ok (.iload_n 1, 1) := by decide +kernel
theorem dX3_nodeNow_3 : decode cX3_nodeNow 3 = .ok (.imul, 1) := by decide +kernel
theorem dX3_nodeNow_4 : decode cX3_nodeNow 4 = .ok (.iload_n 2, 1) := by decide +kernel
theorem dX3_nodeNow_5 : decode cX3_nodeNow 5 = .ok (.iadd, 1) := by decide +kernel
theorem dX3_nodeNow_6 : decode cX3_nodeNow 6 = .ok (.istore 4, 2) := by decide +kernel
theorem dX3_nodeNow_8 : decode cX3_nodeNow 8 = .ok (.iload_n 3, 1) := by decide +kernel
theorem dX3_nodeNow_9 : decode cX3_nodeNow 9 = .ok (.tableswitch 68 0 3 #[31, 39, 47, 55], 31) := by decide +kernel
theorem dX3_nodeNow_40 : decode cX3_nodeNow 40 = .ok (.aload_n 0, 1) := by decide +kernel
theorem dX3_nodeNow_41 : decode cX3_nodeNow 41 = .ok (.getfield 35, 3) := by decide +kernel
theorem dX3_nodeNow_44 : decode cX3_nodeNow 44 = .ok (.iload 4, 2) := by decide +kernel
theorem dX3_nodeNow_46 : decode cX3_nodeNow 46 = .ok (.iaload, 1) := by decide +kernel
theorem dX3_nodeNow_47 : decode cX3_nodeNow 47 = .ok (.ireturn, 1) := by decide +kernel
theorem dX3_nodeNow_48 : decode cX3_nodeNow 48 = .ok (.aload_n 0, 1) := by decide +kernel
theorem dX3_nodeNow_49 : decode cX3_nodeNow 49 = .ok (.getfield 38, 3) := by decide +kernel
theorem dX3_nodeNow_52 : decode cX3_nodeNow 52 = .ok (.iload 4, 2) := by decide +kernel
theorem dX3_nodeNow_54 : decode cX3_nodeNow 54 = .ok (.iaload, 1) := by decide +kernel
theorem dX3_nodeNow_55 : decode cX3_nodeNow 55 = .ok (.ireturn, 1) := by decide +kernel
theorem dX3_nodeNow_56 : decode cX3_nodeNow 56 = .ok (.aload_n 0, 1) := by decide +kernel
theorem dX3_nodeNow_57 : decode cX3_nodeNow 57 = .ok (.getfield 44, 3) := by decide +kernel
theorem dX3_nodeNow_60 : decode cX3_nodeNow 60 = .ok (.iload 4, 2) := by decide +kernel
theorem dX3_nodeNow_62 : decode cX3_nodeNow 62 = .ok (.iaload, 1) := by decide +kernel
theorem dX3_nodeNow_63 : decode cX3_nodeNow 63 = .ok (.ireturn, 1) := by decide +kernel
theorem dX3_nodeNow_64 : decode cX3_nodeNow 64 = .ok (.aload_n 0, 1) := by decide +kernel
theorem dX3_nodeNow_65 : decode cX3_nodeNow 65 = .ok (.iload_n 1, 1) := by decide +kernel
theorem dX3_nodeNow_66 : decode cX3_nodeNow 66 = .ok (.aload_n 0, 1) := by decide +kernel
theorem dX3_nodeNow_67 : decode cX3_nodeNow 67 = .ok (.getfield 41, 3) := by decide +kernel
theorem dX3_nodeNow_70 : decode cX3_nodeNow 70 = .ok (.iload 4, 2) := by decide +kernel
theorem dX3_nodeNow_72 : decode cX3_nodeNow 72 = .ok (.iaload, 1) := by decide +kernel
theorem dX3_nodeNow_73 : decode cX3_nodeNow 73 = .ok (.invokevirtual 98, 3) := by decide +kernel
theorem dX3_nodeNow_76 : decode cX3_nodeNow 76 = .ok (.ireturn, 1) := by decide +kernel
theorem dX3_nodeNow_77 : decode cX3_nodeNow 77 = .ok (.aload_n 0, 1) := by decide +kernel
theorem dX3_nodeNow_78 : decode cX3_nodeNow 78 = .ok (.getfield 35, 3) := by decide +kernel
theorem dX3_nodeNow_81 : decode cX3_nodeNow 81 = .ok (.iload 4, 2) := by decide +kernel
theorem dX3_nodeNow_83 : decode cX3_nodeNow 83 = .ok (.iaload, 1) := by decide +kernel
theorem dX3_nodeNow_84 : decode cX3_nodeNow 84 = .ok (.iconst 2, 1) := by decide +kernel
theorem dX3_nodeNow_85 : decode cX3_nodeNow 85 = .ok (.if_icmp .ne 13, 3) := by decide +kernel
theorem dX3_nodeNow_88 : decode cX3_nodeNow 88 = .ok (.aload_n 0, 1) := by decide +kernel
theorem dX3_nodeNow_89 : decode cX3_nodeNow 89 = .ok (.iload_n 1, 1) := by decide +kernel
theorem dX3_nodeNow_90 : decode cX3_nodeNow 90 = .ok (.iload 4, 2) := by decide +kernel
theorem dX3_nodeNow_92 : decode cX3_nodeNow 92 = .ok (.invokevirtual 255, 3) := by decide +kernel
theorem dX3_nodeNow_95 : decode cX3_nodeNow 95 = .ok (.goto 4, 3) := by decide +kernel
theorem dX3_nodeNow_98 : decode cX3_nodeNow 98 = .ok (.iconst (-1), 1) := by decide +kernel
theorem dX3_nodeNow_99 : decode cX3_nodeNow 99 = .ok (.ireturn, 1) := by decide +kernel
theorem dX3_node_0 : decode cX3_node 0 = .ok (.aload_n 0, 1) := by decide +kernel
theorem dX3_node_1 : decode cX3_node 1 = .ok (.iload_n 1, 1) := by decide +kernel
theorem dX3_node_2 : decode cX3_node 2 = .ok (.invokevirtual 160, 3) := by decide +kernel
theorem dX3_node_5 : decode cX3_node 5 = .ok (.ifCond .eq 19, 3) := by decide +kernel
theorem dX3_node_8 : decode cX3_node 8 = .ok (.iload_n 2, 1) := by decide +kernel
theorem dX3_node_9 : decode cX3_node 9 = .ok (.iconst 0, 1) := by decide +kernel
theorem dX3_node_10 : decode cX3_node 10 = .ok (.aload_n 0, 1) := by decide +kernel
theorem dX3_node_11 : decode cX3_node 11 = .ok (.getfield 32, 3) := by decide +kernel
theorem dX3_node_14 : decode cX3_node 14 = .ok (.iload_n 1, 1) := by decide +kernel
theorem dX3_node_15 : decode cX3_node 15 = .ok (.iaload, 1) := by decide +kernel
theorem dX3_node_16 : decode cX3_node 16 = .ok (.iconst 1, 1) := by decide +kernel
theorem dX3_node_17 : decode cX3_node 17 = .ok (.isub, 1) := by decide +kernel
theorem dX3_node_18 : decode cX3_node 18 = .ok (.invokestatic 81, 3) := by decide +kernel
theorem dX3_node_21 : decode cX3_node 21 = .ok (.ifCond .ne 6, 3) := by decide +kernel
theorem dX3_node_24 : decode cX3_node 24 = .ok (.bipush (-101), 2) := by decide +kernel
theorem dX3_node_26 : decode cX3_node 26 = .ok (.ireturn, 1) := by decide +kernel
theorem dX3_node_27 : decode cX3_node 27 = .ok (.iload_n 3, 1) := by decide +kernel
theorem dX3_node_28 : decode cX3_node 28 = .ok (.iconst 0, 1) := by decide +kernel
theorem dX3_node_29 : decode cX3_node 29 = .ok (.iconst 4, 1) := by decide +kernel
theorem dX3_node_30 : decode cX3_node 30 = .ok (.invokestatic 81, 3) := by decide +kernel
theorem dX3_node_33 : decode cX3_node 33 = .ok (.ifCond .eq 13, 3) := by decide +kernel
theorem dX3_node_36 : decode cX3_node 36 = .ok (.aload_n 0, 1) := by decide +kernel
theorem dX3_node_37 : decode cX3_node 37 = .ok (.iload_n 1, 1) := by decide +kernel
theorem dX3_node_38 : decode cX3_node 38 = .ok (.iload_n 2, 1) := by decide +kernel
theorem dX3_node_39 : decode cX3_node 39 = .ok (.iload_n 3, 1) := by decide +kernel
theorem dX3_node_40 : decode cX3_node 40 = .ok (.invokevirtual 258, 3) := by decide +kernel
theorem dX3_node_43 : decode cX3_node 43 = .ok (.goto 5, 3) := by decide +kernel
theorem dX3_node_46 : decode cX3_node 46 = .ok (.bipush (-102), 2) := by decide +kernel
theorem dX3_node_48 : decode cX3_node 48 = .ok (.ireturn, 1) := by decide +kernel
theorem dX3_levelAt_0 : decode cX3_levelAt 0 = .ok (.iconst (-1), 1) := by decide +kernel
theorem dX3_levelAt_1 : decode cX3_levelAt 1 = .ok (.istore_n 3, 1) := by decide +kernel
theorem dX3_levelAt_2 : decode cX3_levelAt 2 = .ok (.iconst 0, 1) := by decide +kernel
theorem dX3_levelAt_3 : decode cX3_levelAt 3 = .ok (.istore 4, 2) := by decide +kernel
theorem dX3_levelAt_5 : decode cX3_levelAt 5 = .ok (.iload 4, 2) := by decide +kernel
theorem dX3_levelAt_7 : decode cX3_levelAt 7 = .ok (.aload_n 0, 1) := by decide +kernel
theorem dX3_levelAt_8 : decode cX3_levelAt 8 = .ok (.getfield 32, 3) := by decide +kernel
theorem dX3_levelAt_11 : decode cX3_levelAt 11 = .ok (.iload_n 1, 1) := by decide +kernel
theorem dX3_levelAt_12 : decode cX3_levelAt 12 = .ok (.iaload, 1) := by decide +kernel
theorem dX3_levelAt_13 : decode cX3_levelAt 13 = .ok (.if_icmp .ge 84, 3) := by decide +kernel
theorem dX3_levelAt_16 : decode cX3_levelAt 16 = .ok (.bipush 96, 2) := by decide +kernel
theorem dX3_levelAt_18 : decode cX3_levelAt 18 = .ok (.iload_n 1, 1) := by decide +kernel
theorem dX3_levelAt_19 : decode cX3_levelAt 19 = .ok (.imul, 1) := by decide +kernel
theorem dX3_levelAt_20 : decode cX3_levelAt 20 = .ok (.iload 4, 2) := by decide +kernel
theorem dX3_levelAt_22 : decode cX3_levelAt 22 = .ok (.iadd, 1) := by decide +kernel
theorem dX3_levelAt_23 : decode cX3_levelAt 23 = .ok (.istore 5, 2) := by decide +kernel
theorem dX3_levelAt_25 : decode cX3_levelAt 25 = .ok (.aload_n 0, 1) := by decide +kernel
theorem dX3_levelAt_26 : decode cX3_levelAt 26 = .ok (.getfield 35, 3) := by decide +kernel
theorem dX3_levelAt_29 : decode cX3_levelAt 29 = .ok (.iload 5, 2) := by decide +kernel
theorem dX3_levelAt_31 : decode cX3_levelAt 31 = .ok (.iaload, 1) := by decide +kernel
theorem dX3_levelAt_32 : decode cX3_levelAt 32 = .ok (.iconst 2, 1) := by decide +kernel
theorem dX3_levelAt_33 : decode cX3_levelAt 33 = .ok (.if_icmp .eq 38, 3) := by decide +kernel
theorem dX3_levelAt_36 : decode cX3_levelAt 36 = .ok (.iload_n 2, 1) := by decide +kernel
theorem dX3_levelAt_37 : decode cX3_levelAt 37 = .ok (.aload_n 0, 1) := by decide +kernel
theorem dX3_levelAt_38 : decode cX3_levelAt 38 = .ok (.getfield 41, 3) := by decide +kernel
theorem dX3_levelAt_41 : decode cX3_levelAt 41 = .ok (.iload 5, 2) := by decide +kernel
theorem dX3_levelAt_43 : decode cX3_levelAt 43 = .ok (.iaload, 1) := by decide +kernel
theorem dX3_levelAt_44 : decode cX3_levelAt 44 = .ok (.aload_n 0, 1) := by decide +kernel
theorem dX3_levelAt_45 : decode cX3_levelAt 45 = .ok (.getfield 41, 3) := by decide +kernel
theorem dX3_levelAt_48 : decode cX3_levelAt 48 = .ok (.iload 5, 2) := by decide +kernel
theorem dX3_levelAt_50 : decode cX3_levelAt 50 = .ok (.iaload, 1) := by decide +kernel
theorem dX3_levelAt_51 : decode cX3_levelAt 51 = .ok (.aload_n 0, 1) := by decide +kernel
theorem dX3_levelAt_52 : decode cX3_levelAt 52 = .ok (.getfield 44, 3) := by decide +kernel
theorem dX3_levelAt_55 : decode cX3_levelAt 55 = .ok (.iload 5, 2) := by decide +kernel
theorem dX3_levelAt_57 : decode cX3_levelAt 57 = .ok (.iaload, 1) := by decide +kernel
theorem dX3_levelAt_58 : decode cX3_levelAt 58 = .ok (.iadd, 1) := by decide +kernel
theorem dX3_levelAt_59 : decode cX3_levelAt 59 = .ok (.iconst 1, 1) := by decide +kernel
theorem dX3_levelAt_60 : decode cX3_levelAt 60 = .ok (.isub, 1) := by decide +kernel
theorem dX3_levelAt_61 : decode cX3_levelAt 61 = .ok (.invokestatic 81, 3) := by decide +kernel
theorem dX3_levelAt_64 : decode cX3_levelAt 64 = .ok (.ifCond .eq 7, 3) := by decide +kernel
theorem dX3_levelAt_67 : decode cX3_levelAt 67 = .ok (.iconst 1, 1) := by decide +kernel
theorem dX3_levelAt_68 : decode cX3_levelAt 68 = .ok (.goto 4, 3) := by decide +kernel
theorem dX3_levelAt_71 : decode cX3_levelAt 71 = .ok (.iconst 0, 1) := by decide +kernel
theorem dX3_levelAt_72 : decode cX3_levelAt 72 = .ok (.istore 6, 2) := by decide +kernel
theorem dX3_levelAt_74 : decode cX3_levelAt 74 = .ok (.iload 6, 2) := by decide +kernel
theorem dX3_levelAt_76 : decode cX3_levelAt 76 = .ok (.ifCond .eq 13, 3) := by decide +kernel
theorem dX3_levelAt_79 : decode cX3_levelAt 79 = .ok (.aload_n 0, 1) := by decide +kernel
theorem dX3_levelAt_80 : decode cX3_levelAt 80 = .ok (.getfield 38, 3) := by decide +kernel
theorem dX3_levelAt_83 : decode cX3_levelAt 83 = .ok (.iload 5, 2) := by decide +kernel
theorem dX3_levelAt_85 : decode cX3_levelAt 85 = .ok (.iaload, 1) := by decide +kernel
theorem dX3_levelAt_86 : decode cX3_levelAt 86 = .ok (.goto 4, 3) := by decide +kernel
theorem dX3_levelAt_89 : decode cX3_levelAt 89 = .ok (.iload_n 3, 1) := by decide +kernel
theorem dX3_levelAt_90 : decode cX3_levelAt 90 = .ok (.istore_n 3, 1) := by decide +kernel
theorem dX3_levelAt_91 : decode cX3_levelAt 91 = .ok (.iinc 4 1, 3) := by decide +kernel
theorem dX3_levelAt_94 : decode cX3_levelAt 94 = .ok (.goto (-89), 3) := by decide +kernel
theorem dX3_levelAt_97 : decode cX3_levelAt 97 = .ok (.iload_n 3, 1) := by decide +kernel
theorem dX3_levelAt_98 : decode cX3_levelAt 98 = .ok (.ireturn, 1) := by decide +kernel
theorem dX3_entryNow_0 : decode cX3_entryNow 0 = .ok (.iload_n 3, 1) := by decide +kernel
theorem dX3_entryNow_1 : decode cX3_entryNow 1 = .ok (.ifCond .ne 12, 3) := by decide +kernel
theorem dX3_entryNow_4 : decode cX3_entryNow 4 = .ok (.aload_n 0, 1) := by decide +kernel
theorem dX3_entryNow_5 : decode cX3_entryNow 5 = .ok (.iload_n 1, 1) := by decide +kernel
theorem dX3_entryNow_6 : decode cX3_entryNow 6 = .ok (.iload_n 2, 1) := by decide +kernel
theorem dX3_entryNow_7 : decode cX3_entryNow 7 = .ok (.invokevirtual 98, 3) := by decide +kernel
theorem dX3_entryNow_10 : decode cX3_entryNow 10 = .ok (.goto 23, 3) := by decide +kernel
theorem dX3_entryNow_13 : decode cX3_entryNow 13 = .ok (.iload_n 3, 1) := by decide +kernel
theorem dX3_entryNow_14 : decode cX3_entryNow 14 = .ok (.iconst 1, 1) := by decide +kernel
theorem dX3_entryNow_15 : decode cX3_entryNow 15 = .ok (.if_icmp .ne 12, 3) := by decide +kernel
theorem dX3_entryNow_18 : decode cX3_entryNow 18 = .ok (.aload_n 0, 1) := by decide +kernel
theorem dX3_entryNow_19 : decode cX3_entryNow 19 = .ok (.iload_n 1, 1) := by decide +kernel
theorem dX3_entryNow_20 : decode cX3_entryNow 20 = .ok (.iload_n 2, 1) := by decide +kernel
theorem dX3_entryNow_21 : decode cX3_entryNow 21 = .ok (.invokevirtual 101, 3) := by decide +kernel
theorem dX3_entryNow_24 : decode cX3_entryNow 24 = .ok (.goto 9, 3) := by decide +kernel
theorem dX3_entryNow_27 : decode cX3_entryNow 27 = .ok (.aload_n 0, 1) := by decide +kernel
theorem dX3_entryNow_28 : decode cX3_entryNow 28 = .ok (.iload_n 1, 1) := by decide +kernel
theorem dX3_entryNow_29 : decode cX3_entryNow 29 = .ok (.iload_n 2, 1) := by decide +kernel
theorem dX3_entryNow_30 : decode cX3_entryNow 30 = .ok (.invokevirtual 261, 3) := by decide +kernel
theorem dX3_entryNow_33 : decode cX3_entryNow 33 = .ok (.ireturn, 1) := by decide +kernel
theorem dX3_entry_0 : decode cX3_entry 0 = .ok (.aload_n 0, 1) := by decide +kernel
theorem dX3_entry_1 : decode cX3_entry 1 = .ok (.iload_n 1, 1) := by decide +kernel
theorem dX3_entry_2 : decode cX3_entry 2 = .ok (.invokevirtual 160, 3) := by decide +kernel
theorem dX3_entry_5 : decode cX3_entry 5 = .ok (.ifCond .eq 19, 3) := by decide +kernel
theorem dX3_entry_8 : decode cX3_entry 8 = .ok (.iload_n 2, 1) := by decide +kernel
theorem dX3_entry_9 : decode cX3_entry 9 = .ok (.iconst 0, 1) := by decide +kernel
theorem dX3_entry_10 : decode cX3_entry 10 = .ok (.aload_n 0, 1) := by decide +kernel
theorem dX3_entry_11 : decode cX3_entry 11 = .ok (.getfield 23, 3) := by decide +kernel
theorem dX3_entry_14 : decode cX3_entry 14 = .ok (.iload_n 1, 1) := by decide +kernel
theorem dX3_entry_15 : decode cX3_entry 15 = .ok (.iaload, 1) := by decide +kernel
theorem dX3_entry_16 : decode cX3_entry 16 = .ok (.iconst 1, 1) := by decide +kernel
theorem dX3_entry_17 : decode cX3_entry 17 = .ok (.isub, 1) := by decide +kernel
theorem dX3_entry_18 : decode cX3_entry 18 = .ok (.invokestatic 81, 3) := by decide +kernel
theorem dX3_entry_21 : decode cX3_entry 21 = .ok (.ifCond .ne 6, 3) := by decide +kernel
theorem dX3_entry_24 : decode cX3_entry 24 = .ok (.bipush (-101), 2) := by decide +kernel
theorem dX3_entry_26 : decode cX3_entry 26 = .ok (.ireturn, 1) := by decide +kernel
theorem dX3_entry_27 : decode cX3_entry 27 = .ok (.iload_n 3, 1) := by decide +kernel
theorem dX3_entry_28 : decode cX3_entry 28 = .ok (.iconst 0, 1) := by decide +kernel
theorem dX3_entry_29 : decode cX3_entry 29 = .ok (.iconst 2, 1) := by decide +kernel
theorem dX3_entry_30 : decode cX3_entry 30 = .ok (.invokestatic 81, 3) := by decide +kernel
theorem dX3_entry_33 : decode cX3_entry 33 = .ok (.ifCond .eq 13, 3) := by decide +kernel
theorem dX3_entry_36 : decode cX3_entry 36 = .ok (.aload_n 0, 1) := by decide +kernel
theorem dX3_entry_37 : decode cX3_entry 37 = .ok (.iload_n 1, 1) := by decide +kernel
theorem dX3_entry_38 : decode cX3_entry 38 = .ok (.iload_n 2, 1) := by decide +kernel
theorem dX3_entry_39 : decode cX3_entry 39 = .ok (.iload_n 3, 1) := by decide +kernel
theorem dX3_entry_40 : decode cX3_entry 40 = .ok (.invokevirtual 264, 3) := by decide +kernel
theorem dX3_entry_43 : decode cX3_entry 43 = .ok (.goto 5, 3) := by decide +kernel
theorem dX3_entry_46 : decode cX3_entry 46 = .ok (.bipush (-102), 2) := by decide +kernel
theorem dX3_entry_48 : decode cX3_entry 48 = .ok (.ireturn, 1) := by decide +kernel
theorem dX3_hasNode_0 : decode cX3_hasNode 0 = .ok (.iconst 0, 1) := by decide +kernel
theorem dX3_hasNode_1 : decode cX3_hasNode 1 = .ok (.istore_n 3, 1) := by decide +kernel
theorem dX3_hasNode_2 : decode cX3_hasNode 2 = .ok (.iconst 0, 1) := by decide +kernel
theorem dX3_hasNode_3 : decode cX3_hasNode 3 = .ok (.istore 4, 2) := by decide +kernel
theorem dX3_hasNode_5 : decode cX3_hasNode 5 = .ok (.iload 4, 2) := by decide +kernel
theorem dX3_hasNode_7 : decode cX3_hasNode 7 = .ok (.aload_n 0, 1) := by decide +kernel
theorem dX3_hasNode_8 : decode cX3_hasNode 8 = .ok (.getfield 32, 3) := by decide +kernel
theorem dX3_hasNode_11 : decode cX3_hasNode 11 = .ok (.iload_n 1, 1) := by decide +kernel
theorem dX3_hasNode_12 : decode cX3_hasNode 12 = .ok (.iaload, 1) := by decide +kernel
theorem dX3_hasNode_13 : decode cX3_hasNode 13 = .ok (.if_icmp .ge 35, 3) := by decide +kernel
theorem dX3_hasNode_16 : decode cX3_hasNode 16 = .ok (.iload_n 3, 1) := by decide +kernel
theorem dX3_hasNode_17 : decode cX3_hasNode 17 = .ok (.ifCond .ne 19, 3) := by decide +kernel
theorem dX3_hasNode_20 : decode cX3_hasNode 20 = .ok (.aload_n 0, 1) := by decide +kernel
theorem dX3_hasNode_21 : decode cX3_hasNode 21 = .ok (.getfield 47, 3) := by decide +kernel
theorem dX3_hasNode_24 : decode cX3_hasNode 24 = .ok (.bipush 96, 2) := by decide +kernel
theorem dX3_hasNode_26 : decode cX3_hasNode 26 = .ok (.iload_n 1, 1) := by decide +kernel
theorem dX3_hasNode_27 : decode cX3_hasNode 27 = .ok (.imul, 1) := by decide +kernel
theorem dX3_hasNode_28 : decode cX3_hasNode 28 = .ok (.iload 4, 2) := by decide +kernel
theorem dX3_hasNode_30 : decode cX3_hasNode 30 = .ok (.iadd, 1) := by decide +kernel
theorem dX3_hasNode_31 : decode cX3_hasNode 31 = .ok (.iaload, 1) := by decide +kernel
theorem dX3_hasNode_32 : decode cX3_hasNode 32 = .ok (.iload_n 2, 1) := by decide +kernel
theorem dX3_hasNode_33 : decode cX3_hasNode 33 = .ok (.if_icmp .ne 7, 3) := by decide +kernel
theorem dX3_hasNode_36 : decode cX3_hasNode 36 = .ok (.iconst 1, 1) := by decide +kernel
theorem dX3_hasNode_37 : decode cX3_hasNode 37 = .ok (.goto 4, 3) := by decide +kernel
theorem dX3_hasNode_40 : decode cX3_hasNode 40 = .ok (.iconst 0, 1) := by decide +kernel
theorem dX3_hasNode_41 : decode cX3_hasNode 41 = .ok (.istore_n 3, 1) := by decide +kernel
theorem dX3_hasNode_42 : decode cX3_hasNode 42 = .ok (.iinc 4 1, 3) := by decide +kernel
theorem dX3_hasNode_45 : decode cX3_hasNode 45 = .ok (.goto (-40), 3) := by decide +kernel
theorem dX3_hasNode_48 : decode cX3_hasNode 48 = .ok (.iload_n 3, 1) := by decide +kernel
theorem dX3_hasNode_49 : decode cX3_hasNode 49 = .ok (.ireturn, 1) := by decide +kernel
theorem dX3_sharedNow_0 : decode cX3_sharedNow 0 = .ok (.iconst 0, 1) := by decide +kernel
theorem dX3_sharedNow_1 : decode cX3_sharedNow 1 = .ok (.istore_n 3, 1) := by decide +kernel
theorem dX3_sharedNow_2 : decode cX3_sharedNow 2 = .ok (.iconst 0, 1) := by decide +kernel
theorem dX3_sharedNow_3 : decode cX3_sharedNow 3 = .ok (.istore 4, 2) := by decide +kernel
theorem dX3_sharedNow_5 : decode cX3_sharedNow 5 = .ok (.iload 4, 2) := by decide +kernel
theorem dX3_sharedNow_7 : decode cX3_sharedNow 7 = .ok (.aload_n 0, 1) := by decide +kernel
theorem dX3_sharedNow_8 : decode cX3_sharedNow 8 = .ok (.getfield 32, 3) := by decide +kernel
theorem dX3_sharedNow_11 : decode cX3_sharedNow 11 = .ok (.iload_n 1, 1) := by decide +kernel
theorem dX3_sharedNow_12 : decode cX3_sharedNow 12 = .ok (.iaload, 1) := by decide +kernel
theorem dX3_sharedNow_13 : decode cX3_sharedNow 13 = .ok (.if_icmp .ge 37, 3) := by decide +kernel
theorem dX3_sharedNow_16 : decode cX3_sharedNow 16 = .ok (.iload_n 3, 1) := by decide +kernel
theorem dX3_sharedNow_17 : decode cX3_sharedNow 17 = .ok (.aload_n 0, 1) := by decide +kernel
theorem dX3_sharedNow_18 : decode cX3_sharedNow 18 = .ok (.iload_n 2, 1) := by decide +kernel
theorem dX3_sharedNow_19 : decode cX3_sharedNow 19 = .ok (.aload_n 0, 1) := by decide +kernel
theorem dX3_sharedNow_20 : decode cX3_sharedNow 20 = .ok (.getfield 47, 3) := by decide +kernel
theorem dX3_sharedNow_23 : decode cX3_sharedNow 23 = .ok (.bipush 96, 2) := by decide +kernel
theorem dX3_sharedNow_25 : decode cX3_sharedNow 25 = .ok (.iload_n 1, 1) := by decide +kernel
theorem dX3_sharedNow_26 : decode cX3_sharedNow 26 = .ok (.imul, 1) := by decide +kernel
theorem dX3_sharedNow_27 : decode cX3_sharedNow 27 = .ok (.iload 4, 2) := by decide +kernel
theorem dX3_sharedNow_29 : decode cX3_sharedNow 29 = .ok (.iadd, 1) := by decide +kernel
theorem dX3_sharedNow_30 : decode cX3_sharedNow 30 = .ok (.iaload, 1) := by decide +kernel
theorem dX3_sharedNow_31 : decode cX3_sharedNow 31 = .ok (.invokevirtual 267, 3) := by decide +kernel
theorem dX3_sharedNow_34 : decode cX3_sharedNow 34 = .ok (.ifCond .eq 7, 3) := by decide +kernel
theorem dX3_sharedNow_37 : decode cX3_sharedNow 37 = .ok (.iconst 1, 1) := by decide +kernel
theorem dX3_sharedNow_38 : decode cX3_sharedNow 38 = .ok (.goto 4, 3) := by decide +kernel
theorem dX3_sharedNow_41 : decode cX3_sharedNow 41 = .ok (.iconst 0, 1) := by decide +kernel
theorem dX3_sharedNow_42 : decode cX3_sharedNow 42 = .ok (.iadd, 1) := by decide +kernel
theorem dX3_sharedNow_43 : decode cX3_sharedNow 43 = .ok (.istore_n 3, 1) := by decide +kernel
theorem dX3_sharedNow_44 : decode cX3_sharedNow 44 = .ok (.iinc 4 1, 3) := by decide +kernel
theorem dX3_sharedNow_47 : decode cX3_sharedNow 47 = .ok (.goto (-42), 3) := by decide +kernel
theorem dX3_sharedNow_50 : decode cX3_sharedNow 50 = .ok (.iload_n 3, 1) := by decide +kernel
theorem dX3_sharedNow_51 : decode cX3_sharedNow 51 = .ok (.ireturn, 1) := by decide +kernel
theorem dX3_shared_0 : decode cX3_shared 0 = .ok (.aload_n 0, 1) := by decide +kernel
theorem dX3_shared_1 : decode cX3_shared 1 = .ok (.iload_n 1, 1) := by decide +kernel
theorem dX3_shared_2 : decode cX3_shared 2 = .ok (.invokevirtual 160, 3) := by decide +kernel
theorem dX3_shared_5 : decode cX3_shared 5 = .ok (.ifCond .eq 20, 3) := by decide +kernel
theorem dX3_shared_8 : decode cX3_shared 8 = .ok (.aload_n 0, 1) := by decide +kernel
theorem dX3_shared_9 : decode cX3_shared 9 = .ok (.iload_n 2, 1) := by decide +kernel
theorem dX3_shared_10 : decode cX3_shared 10 = .ok (.invokevirtual 160, 3) := by decide +kernel
theorem dX3_shared_13 : decode cX3_shared 13 = .ok (.ifCond .eq 12, 3) := by decide +kernel
theorem dX3_shared_16 : decode cX3_shared 16 = .ok (.aload_n 0, 1) := by decide +kernel
theorem dX3_shared_17 : decode cX3_shared 17 = .ok (.iload_n 1, 1) := by decide +kernel
theorem dX3_shared_18 : decode cX3_shared 18 = .ok (.iload_n 2, 1) := by decide +kernel
theorem dX3_shared_19 : decode cX3_shared 19 = .ok (.invokevirtual 270, 3) := by decide +kernel
theorem dX3_shared_22 : decode cX3_shared 22 = .ok (.goto 5, 3) := by decide +kernel
theorem dX3_shared_25 : decode cX3_shared 25 = .ok (.bipush (-101), 2) := by decide +kernel
theorem dX3_shared_27 : decode cX3_shared 27 = .ok (.ireturn, 1) := by decide +kernel
theorem dX3_alike_0 : decode cX3_alike 0 = .ok (.iconst 0, 1) := by decide +kernel
theorem dX3_alike_1 : decode cX3_alike 1 = .ok (.istore_n 3, 1) := by decide +kernel
theorem dX3_alike_2 : decode cX3_alike 2 = .ok (.iconst 0, 1) := by decide +kernel
theorem dX3_alike_3 : decode cX3_alike 3 = .ok (.istore 4, 2) := by decide +kernel
theorem dX3_alike_5 : decode cX3_alike 5 = .ok (.iload 4, 2) := by decide +kernel
theorem dX3_alike_7 : decode cX3_alike 7 = .ok (.aload_n 0, 1) := by decide +kernel
theorem dX3_alike_8 : decode cX3_alike 8 = .ok (.getfield 23, 3) := by decide +kernel
theorem dX3_alike_11 : decode cX3_alike 11 = .ok (.iload_n 1, 1) := by decide +kernel
theorem dX3_alike_12 : decode cX3_alike 12 = .ok (.iaload, 1) := by decide +kernel
theorem dX3_alike_13 : decode cX3_alike 13 = .ok (.if_icmp .ge 39, 3) := by decide +kernel
theorem dX3_alike_16 : decode cX3_alike 16 = .ok (.iload_n 3, 1) := by decide +kernel
theorem dX3_alike_17 : decode cX3_alike 17 = .ok (.aload_n 0, 1) := by decide +kernel
theorem dX3_alike_18 : decode cX3_alike 18 = .ok (.iload_n 2, 1) := by decide +kernel
theorem dX3_alike_19 : decode cX3_alike 19 = .ok (.aload_n 0, 1) := by decide +kernel
theorem dX3_alike_20 : decode cX3_alike 20 = .ok (.iload_n 1, 1) := by decide +kernel
theorem dX3_alike_21 : decode cX3_alike 21 = .ok (.iload 4, 2) := by decide +kernel
theorem dX3_alike_23 : decode cX3_alike 23 = .ok (.invokevirtual 98, 3) := by decide +kernel
theorem dX3_alike_26 : decode cX3_alike 26 = .ok (.invokevirtual 243, 3) := by decide +kernel
theorem dX3_alike_29 : decode cX3_alike 29 = .ok (.aload_n 0, 1) := by decide +kernel
theorem dX3_alike_30 : decode cX3_alike 30 = .ok (.iload_n 1, 1) := by decide +kernel
theorem dX3_alike_31 : decode cX3_alike 31 = .ok (.iload 4, 2) := by decide +kernel
theorem dX3_alike_33 : decode cX3_alike 33 = .ok (.invokevirtual 101, 3) := by decide +kernel
theorem dX3_alike_36 : decode cX3_alike 36 = .ok (.if_icmp .ne 7, 3) := by decide +kernel
theorem dX3_alike_39 : decode cX3_alike 39 = .ok (.iconst 1, 1) := by decide +kernel
theorem dX3_alike_40 : decode cX3_alike 40 = .ok (.goto 4, 3) := by decide +kernel
theorem dX3_alike_43 : decode cX3_alike 43 = .ok (.iconst 0, 1) := by decide +kernel
theorem dX3_alike_44 : decode cX3_alike 44 = .ok (.iadd, 1) := by decide +kernel
theorem dX3_alike_45 : decode cX3_alike 45 = .ok (.istore_n 3, 1) := by decide +kernel
theorem dX3_alike_46 : decode cX3_alike 46 = .ok (.iinc 4 1, 3) := by decide +kernel
theorem dX3_alike_49 : decode cX3_alike 49 = .ok (.goto (-44), 3) := by decide +kernel
theorem dX3_alike_52 : decode cX3_alike 52 = .ok (.iload_n 3, 1) := by decide +kernel
theorem dX3_alike_53 : decode cX3_alike 53 = .ok (.ireturn, 1) := by decide +kernel
theorem dX3_twoNow_0 : decode cX3_twoNow 0 = .ok (.aload_n 0, 1) := by decide +kernel
theorem dX3_twoNow_1 : decode cX3_twoNow 1 = .ok (.iload_n 1, 1) := by decide +kernel
theorem dX3_twoNow_2 : decode cX3_twoNow 2 = .ok (.iload_n 2, 1) := by decide +kernel
theorem dX3_twoNow_3 : decode cX3_twoNow 3 = .ok (.invokevirtual 176, 3) := by decide +kernel
theorem dX3_twoNow_6 : decode cX3_twoNow 6 = .ok (.istore 4, 2) := by decide +kernel
theorem dX3_twoNow_8 : decode cX3_twoNow 8 = .ok (.aload_n 0, 1) := by decide +kernel
theorem dX3_twoNow_9 : decode cX3_twoNow 9 = .ok (.iload_n 1, 1) := by decide +kernel
theorem dX3_twoNow_10 : decode cX3_twoNow 10 = .ok (.iload_n 2, 1) := by decide +kernel
theorem dX3_twoNow_11 : decode cX3_twoNow 11 = .ok (.invokevirtual 273, 3) := by decide +kernel
theorem dX3_twoNow_14 : decode cX3_twoNow 14 = .ok (.istore 5, 2) := by decide +kernel
theorem dX3_twoNow_16 : decode cX3_twoNow 16 = .ok (.iload_n 3, 1) := by decide +kernel
theorem dX3_twoNow_17 : decode cX3_twoNow 17 = .ok (.tableswitch 78 0 3 #[31, 59, 62, 68], 31) := by decide +kernel
theorem dX3_twoNow_48 : decode cX3_twoNow 48 = .ok (.iload 5, 2) := by decide +kernel
theorem dX3_twoNow_50 : decode cX3_twoNow 50 = .ok (.aload_n 0, 1) := by decide +kernel
theorem dX3_twoNow_51 : decode cX3_twoNow 51 = .ok (.getfield 23, 3) := by decide +kernel
theorem dX3_twoNow_54 : decode cX3_twoNow 54 = .ok (.iload_n 1, 1) := by decide +kernel
theorem dX3_twoNow_55 : decode cX3_twoNow 55 = .ok (.iaload, 1) := by decide +kernel
theorem dX3_twoNow_56 : decode cX3_twoNow 56 = .ok (.if_icmp .ne 18, 3) := by decide +kernel
theorem dX3_twoNow_59 : decode cX3_twoNow 59 = .ok (.iload 5, 2) := by decide +kernel
theorem dX3_twoNow_61 : decode cX3_twoNow 61 = .ok (.aload_n 0, 1) := by decide +kernel
theorem dX3_twoNow_62 : decode cX3_twoNow 62 = .ok (.getfield 23, 3) := by decide +kernel
theorem dX3_twoNow_65 : decode cX3_twoNow 65 = .ok (.iload_n 2, 1) := by decide +kernel
theorem dX3_twoNow_66 : decode cX3_twoNow 66 = .ok (.iaload, 1) := by decide +kernel
theorem dX3_twoNow_67 : decode cX3_twoNow 67 = .ok (.if_icmp .ne 7, 3) := by decide +kernel
theorem dX3_twoNow_70 : decode cX3_twoNow 70 = .ok (.iconst 1, 1) := by decide +kernel
theorem dX3_twoNow_71 : decode cX3_twoNow 71 = .ok (.goto 4, 3) := by decide +kernel
theorem dX3_twoNow_74 : decode cX3_twoNow 74 = .ok (.iconst 0, 1) := by decide +kernel
theorem dX3_twoNow_75 : decode cX3_twoNow 75 = .ok (.ireturn, 1) := by decide +kernel
theorem dX3_twoNow_76 : decode cX3_twoNow 76 = .ok (.iload 5, 2) := by decide +kernel
theorem dX3_twoNow_78 : decode cX3_twoNow 78 = .ok (.ireturn, 1) := by decide +kernel
theorem dX3_twoNow_79 : decode cX3_twoNow 79 = .ok (.iload 4, 2) := by decide +kernel
theorem dX3_twoNow_81 : decode cX3_twoNow 81 = .ok (.iload 5, 2) := by decide +kernel
theorem dX3_twoNow_83 : decode cX3_twoNow 83 = .ok (.isub, 1) := by decide +kernel
theorem dX3_twoNow_84 : decode cX3_twoNow 84 = .ok (.ireturn, 1) := by decide +kernel
theorem dX3_twoNow_85 : decode cX3_twoNow 85 = .ok (.aload_n 0, 1) := by decide +kernel
theorem dX3_twoNow_86 : decode cX3_twoNow 86 = .ok (.getfield 23, 3) := by decide +kernel
theorem dX3_twoNow_89 : decode cX3_twoNow 89 = .ok (.iload_n 1, 1) := by decide +kernel
theorem dX3_twoNow_90 : decode cX3_twoNow 90 = .ok (.iaload, 1) := by decide +kernel
theorem dX3_twoNow_91 : decode cX3_twoNow 91 = .ok (.iload 4, 2) := by decide +kernel
theorem dX3_twoNow_93 : decode cX3_twoNow 93 = .ok (.isub, 1) := by decide +kernel
theorem dX3_twoNow_94 : decode cX3_twoNow 94 = .ok (.ireturn, 1) := by decide +kernel
theorem dX3_twoNow_95 : decode cX3_twoNow 95 = .ok (.aload_n 0, 1) := by decide +kernel
theorem dX3_twoNow_96 : decode cX3_twoNow 96 = .ok (.getfield 23, 3) := by decide +kernel
theorem dX3_twoNow_99 : decode cX3_twoNow 99 = .ok (.iload_n 2, 1) := by decide +kernel
theorem dX3_twoNow_100 : decode cX3_twoNow 100 = .ok (.iaload, 1) := by decide +kernel
theorem dX3_twoNow_101 : decode cX3_twoNow 101 = .ok (.iload 4, 2) := by decide +kernel
theorem dX3_twoNow_103 : decode cX3_twoNow 103 = .ok (.isub, 1) := by decide +kernel
theorem dX3_twoNow_104 : decode cX3_twoNow 104 = .ok (.ireturn, 1) := by decide +kernel
theorem dX3_two_0 : decode cX3_two 0 = .ok (.aload_n 0, 1) := by decide +kernel
theorem dX3_two_1 : decode cX3_two 1 = .ok (.iload_n 1, 1) := by decide +kernel
theorem dX3_two_2 : decode cX3_two 2 = .ok (.invokevirtual 160, 3) := by decide +kernel
theorem dX3_two_5 : decode cX3_two 5 = .ok (.ifCond .eq 11, 3) := by decide +kernel
theorem dX3_two_8 : decode cX3_two 8 = .ok (.aload_n 0, 1) := by decide +kernel
theorem dX3_two_9 : decode cX3_two 9 = .ok (.iload_n 2, 1) := by decide +kernel
theorem dX3_two_10 : decode cX3_two 10 = .ok (.invokevirtual 160, 3) := by decide +kernel
theorem dX3_two_13 : decode cX3_two 13 = .ok (.ifCond .ne 6, 3) := by decide +kernel
theorem dX3_two_16 : decode cX3_two 16 = .ok (.bipush (-101), 2) := by decide +kernel
theorem dX3_two_18 : decode cX3_two 18 = .ok (.ireturn, 1) := by decide +kernel
theorem dX3_two_19 : decode cX3_two 19 = .ok (.iload_n 3, 1) := by decide +kernel
theorem dX3_two_20 : decode cX3_two 20 = .ok (.iconst 0, 1) := by decide +kernel
theorem dX3_two_21 : decode cX3_two 21 = .ok (.iconst 4, 1) := by decide +kernel
theorem dX3_two_22 : decode cX3_two 22 = .ok (.invokestatic 81, 3) := by decide +kernel
theorem dX3_two_25 : decode cX3_two 25 = .ok (.ifCond .eq 13, 3) := by decide +kernel
theorem dX3_two_28 : decode cX3_two 28 = .ok (.aload_n 0, 1) := by decide +kernel
theorem dX3_two_29 : decode cX3_two 29 = .ok (.iload_n 1, 1) := by decide +kernel
theorem dX3_two_30 : decode cX3_two 30 = .ok (.iload_n 2, 1) := by decide +kernel
theorem dX3_two_31 : decode cX3_two 31 = .ok (.iload_n 3, 1) := by decide +kernel
theorem dX3_two_32 : decode cX3_two 32 = .ok (.invokevirtual 276, 3) := by decide +kernel
theorem dX3_two_35 : decode cX3_two 35 = .ok (.goto 5, 3) := by decide +kernel
theorem dX3_two_38 : decode cX3_two 38 = .ok (.bipush (-102), 2) := by decide +kernel
theorem dX3_two_40 : decode cX3_two 40 = .ok (.ireturn, 1) := by decide +kernel
theorem dX3_allNodes_0 : decode cX3_allNodes 0 = .ok (.iconst 0, 1) := by decide +kernel
theorem dX3_allNodes_1 : decode cX3_allNodes 1 = .ok (.istore_n 1, 1) := by decide +kernel
theorem dX3_allNodes_2 : decode cX3_allNodes 2 = .ok (.iconst 0, 1) := by decide +kernel
theorem dX3_allNodes_3 : decode cX3_allNodes 3 = .ok (.istore_n 2, 1) := by decide +kernel
theorem dX3_allNodes_4 : decode cX3_allNodes 4 = .ok (.iload_n 2, 1) := by decide +kernel
theorem dX3_allNodes_5 : decode cX3_allNodes 5 = .ok (.aload_n 0, 1) := by decide +kernel
theorem dX3_allNodes_6 : decode cX3_allNodes 6 = .ok (.getfield 20, 3) := by decide +kernel
theorem dX3_allNodes_9 : decode cX3_allNodes 9 = .ok (.if_icmp .ge 90, 3) := by decide +kernel
theorem dX3_allNodes_12 : decode cX3_allNodes 12 = .ok (.iconst 0, 1) := by decide +kernel
theorem dX3_allNodes_13 : decode cX3_allNodes 13 = .ok (.istore_n 3, 1) := by decide +kernel
theorem dX3_allNodes_14 : decode cX3_allNodes 14 = .ok (.iload_n 3, 1) := by decide +kernel
theorem dX3_allNodes_15 : decode cX3_allNodes 15 = .ok (.aload_n 0, 1) := by decide +kernel
theorem dX3_allNodes_16 : decode cX3_allNodes 16 = .ok (.getfield 32, 3) := by decide +kernel
theorem dX3_allNodes_19 : decode cX3_allNodes 19 = .ok (.iload_n 2, 1) := by decide +kernel
theorem dX3_allNodes_20 : decode cX3_allNodes 20 = .ok (.iaload, 1) := by decide +kernel
theorem dX3_allNodes_21 : decode cX3_allNodes 21 = .ok (.if_icmp .ge 72, 3) := by decide +kernel
theorem dX3_allNodes_24 : decode cX3_allNodes 24 = .ok (.iconst 1, 1) := by decide +kernel
theorem dX3_allNodes_25 : decode cX3_allNodes 25 = .ok (.istore 4, 2) := by decide +kernel
theorem dX3_allNodes_27 : decode cX3_allNodes 27 = .ok (.iconst 0, 1) := by decide +kernel
theorem dX3_allNodes_28 : decode cX3_allNodes 28 = .ok (.istore 5, 2) := by decide +kernel
theorem dX3_allNodes_30 : decode cX3_allNodes 30 = .ok (.iload 5, 2) := by decide +kernel
theorem dX3_allNodes_32 : decode cX3_allNodes 32 = .ok (.iload_n 2, 1) := by decide +kernel
theorem dX3_allNodes_33 : decode cX3_allNodes 33 = .ok (.if_icmp .ge 41, 3) := by decide +kernel
theorem dX3_allNodes_36 : decode cX3_allNodes 36 = .ok (.iload 4, 2) := by decide +kernel
theorem dX3_allNodes_38 : decode cX3_allNodes 38 = .ok (.ifCond .eq 36, 3) := by decide +kernel
theorem dX3_allNodes_41 : decode cX3_allNodes 41 = .ok (.aload_n 0, 1) := by decide +kernel
theorem dX3_allNodes_42 : decode cX3_allNodes 42 = .ok (.iload 5, 2) := by decide +kernel
theorem dX3_allNodes_44 : decode cX3_allNodes 44 = .ok (.aload_n 0, 1) := by decide +kernel
theorem dX3_allNodes_45 : decode cX3_allNodes 45 = .ok (.getfield 47, 3) := by decide +kernel
theorem dX3_allNodes_48 : decode cX3_allNodes 48 = .ok (.bipush 96, 2) := by decide +kernel
theorem dX3_allNodes_50 : decode cX3_allNodes 50 = .ok (.iload_n 2, 1) := by decide +kernel
theorem dX3_allNodes_51 : decode cX3_allNodes 51 = .ok (.imul, 1) := by decide +kernel
theorem dX3_allNodes_52 : decode cX3_allNodes 52 = .ok (.iload_n 3, 1) := by decide +kernel
theorem dX3_allNodes_53 : decode cX3_allNodes 53 = .ok (.iadd, 1) := by decide +kernel
theorem dX3_allNodes_54 : decode cX3_allNodes 54 = .ok (.iaload, 1) := by decide +kernel
theorem dX3_allNodes_55 : decode cX3_allNodes 55 = .ok (.invokevirtual 267, 3) := by decide +kernel
theorem dX3_allNodes_58 : decode cX3_allNodes 58 = .ok (.ifCond .ne 7, 3) := by decide +kernel
theorem dX3_allNodes_61 : decode cX3_allNodes 61 = .ok (.iconst 1, 1) := by decide +kernel
theorem dX3_allNodes_62 : decode cX3_allNodes 62 = .ok (.goto 4, 3) := by decide +kernel
theorem dX3_allNodes_65 : decode cX3_allNodes 65 = .ok (.iconst 0, 1) := by decide +kernel
theorem dX3_allNodes_66 : decode cX3_allNodes 66 = .ok (.istore 4, 2) := by decide +kernel
theorem dX3_allNodes_68 : decode cX3_allNodes 68 = .ok (.iinc 5 1, 3) := by decide +kernel
theorem dX3_allNodes_71 : decode cX3_allNodes 71 = .ok (.goto (-41), 3) := by decide +kernel
theorem dX3_allNodes_74 : decode cX3_allNodes 74 = .ok (.iload_n 1, 1) := by decide +kernel
theorem dX3_allNodes_75 : decode cX3_allNodes 75 = .ok (.iload 4, 2) := by decide +kernel
theorem dX3_allNodes_77 : decode cX3_allNodes 77 = .ok (.ifCond .eq 7, 3) := by decide +kernel
theorem dX3_allNodes_80 : decode cX3_allNodes 80 = .ok (.iconst 1, 1) := by decide +kernel
theorem dX3_allNodes_81 : decode cX3_allNodes 81 = .ok (.goto 4, 3) := by decide +kernel
theorem dX3_allNodes_84 : decode cX3_allNodes 84 = .ok (.iconst 0, 1) := by decide +kernel
theorem dX3_allNodes_85 : decode cX3_allNodes 85 = .ok (.iadd, 1) := by decide +kernel
theorem dX3_allNodes_86 : decode cX3_allNodes 86 = .ok (.istore_n 1, 1) := by decide +kernel
theorem dX3_allNodes_87 : decode cX3_allNodes 87 = .ok (.iinc 3 1, 3) := by decide +kernel
theorem dX3_allNodes_90 : decode cX3_allNodes 90 = .ok (.goto (-76), 3) := by decide +kernel
theorem dX3_allNodes_93 : decode cX3_allNodes 93 = .ok (.iinc 2 1, 3) := by decide +kernel
theorem dX3_allNodes_96 : decode cX3_allNodes 96 = .ok (.goto (-92), 3) := by decide +kernel
theorem dX3_allNodes_99 : decode cX3_allNodes 99 = .ok (.iload_n 1, 1) := by decide +kernel
theorem dX3_allNodes_100 : decode cX3_allNodes 100 = .ok (.ireturn, 1) := by decide +kernel
theorem dX3_howMany_0 : decode cX3_howMany 0 = .ok (.iload_n 1, 1) := by decide +kernel
theorem dX3_howMany_1 : decode cX3_howMany 1 = .ok (.tableswitch 104 0 8 #[51, 56, 61, 66, 71, 76, 81, 94, 99], 51) := by decide +kernel
theorem dX3_howMany_52 : decode cX3_howMany 52 = .ok (.aload_n 0, 1) := by decide +kernel
theorem dX3_howMany_53 : decode cX3_howMany 53 = .ok (.getfield 20, 3) := by decide +kernel
theorem dX3_howMany_56 : decode cX3_howMany 56 = .ok (.ireturn, 1) := by decide +kernel
theorem dX3_howMany_57 : decode cX3_howMany 57 = .ok (.aload_n 0, 1) := by decide +kernel
theorem dX3_howMany_58 : decode cX3_howMany 58 = .ok (.getfield 136, 3) := by decide +kernel
theorem dX3_howMany_61 : decode cX3_howMany 61 = .ok (.ireturn, 1) := by decide +kernel
theorem dX3_howMany_62 : decode cX3_howMany 62 = .ok (.aload_n 0, 1) := by decide +kernel
theorem dX3_howMany_63 : decode cX3_howMany 63 = .ok (.invokevirtual 279, 3) := by decide +kernel
theorem dX3_howMany_66 : decode cX3_howMany 66 = .ok (.ireturn, 1) := by decide +kernel
theorem dX3_howMany_67 : decode cX3_howMany 67 = .ok (.aload_n 0, 1) := by decide +kernel
theorem dX3_howMany_68 : decode cX3_howMany 68 = .ok (.getfield 213, 3) := by decide +kernel
theorem dX3_howMany_71 : decode cX3_howMany 71 = .ok (.ireturn, 1) := by decide +kernel
theorem dX3_howMany_72 : decode cX3_howMany 72 = .ok (.aload_n 0, 1) := by decide +kernel
theorem dX3_howMany_73 : decode cX3_howMany 73 = .ok (.getfield 237, 3) := by decide +kernel
theorem dX3_howMany_76 : decode cX3_howMany 76 = .ok (.ireturn, 1) := by decide +kernel
theorem dX3_howMany_77 : decode cX3_howMany 77 = .ok (.aload_n 0, 1) := by decide +kernel
theorem dX3_howMany_78 : decode cX3_howMany 78 = .ok (.getfield 203, 3) := by decide +kernel
theorem dX3_howMany_81 : decode cX3_howMany 81 = .ok (.ireturn, 1) := by decide +kernel
theorem dX3_howMany_82 : decode cX3_howMany 82 = .ok (.aload_n 0, 1) := by decide +kernel
theorem dX3_howMany_83 : decode cX3_howMany 83 = .ok (.getfield 90, 3) := by decide +kernel
theorem dX3_howMany_86 : decode cX3_howMany 86 = .ok (.ifCond .eq 7, 3) := by decide +kernel
theorem dX3_howMany_89 : decode cX3_howMany 89 = .ok (.iconst 1, 1) := by decide +kernel
theorem dX3_howMany_90 : decode cX3_howMany 90 = .ok (.goto 4, 3) := by decide +kernel
theorem dX3_howMany_93 : decode cX3_howMany 93 = .ok (.iconst 0, 1) := by decide +kernel
theorem dX3_howMany_94 : decode cX3_howMany 94 = .ok (.ireturn, 1) := by decide +kernel
theorem dX3_howMany_95 : decode cX3_howMany 95 = .ok (.aload_n 0, 1) := by decide +kernel
theorem dX3_howMany_96 : decode cX3_howMany 96 = .ok (.getfield 13, 3) := by decide +kernel
theorem dX3_howMany_99 : decode cX3_howMany 99 = .ok (.ireturn, 1) := by decide +kernel
theorem dX3_howMany_100 : decode cX3_howMany 100 = .ok (.aload_n 0, 1) := by decide +kernel
theorem dX3_howMany_101 : decode cX3_howMany 101 = .ok (.getfield 17, 3) := by decide +kernel
theorem dX3_howMany_104 : decode cX3_howMany 104 = .ok (.ireturn, 1) := by decide +kernel
theorem dX3_howMany_105 : decode cX3_howMany 105 = .ok (.bipush (-102), 2) := by decide +kernel
theorem dX3_howMany_107 : decode cX3_howMany 107 = .ok (.ireturn, 1) := by decide +kernel
theorem dX3_count_0 : decode cX3_count 0 = .ok (.aload_n 0, 1) := by decide +kernel
theorem dX3_count_1 : decode cX3_count 1 = .ok (.iload_n 1, 1) := by decide +kernel
theorem dX3_count_2 : decode cX3_count 2 = .ok (.invokevirtual 282, 3) := by decide +kernel
theorem dX3_count_5 : decode cX3_count 5 = .ok (.ireturn, 1) := by decide +kernel
theorem dX3_mix_0 : decode cX3_mix 0 = .ok (.aload_n 0, 1) := by decide +kernel
theorem dX3_mix_1 : decode cX3_mix 1 = .ok (.ldc2_w 285, 3) := by decide +kernel
theorem dX3_mix_4 : decode cX3_mix 4 = .ok (.aload_n 0, 1) := by decide +kernel
theorem dX3_mix_5 : decode cX3_mix 5 = .ok (.getfield 287, 3) := by decide +kernel
theorem dX3_mix_8 : decode cX3_mix 8 = .ok (.lmul, 1) := by decide +kernel
theorem dX3_mix_9 : decode cX3_mix 9 = .ok (.lload_n 1, 1) := by decide +kernel
theorem dX3_mix_10 : decode cX3_mix 10 = .ok (.ladd, 1) := by decide +kernel
theorem dX3_mix_11 : decode cX3_mix 11 = .ok (.putfield 287, 3) := by decide +kernel
theorem dX3_mix_14 : decode cX3_mix 14 = .ok (.return_, 1) := by decide +kernel
theorem dX3_mixVersion_0 : decode cX3_mixVersion 0 = .ok (.iconst 0, 1) := by decide +kernel
theorem dX3_mixVersion_1 : decode cX3_mixVersion 1 = .ok (.istore_n 2, 1) := by decide +kernel
theorem dX3_mixVersion_2 : decode cX3_mixVersion 2 = .ok (.iload_n 2, 1) := by decide +kernel
theorem dX3_mixVersion_3 : decode cX3_mixVersion 3 = .ok (.bipush 6, 2) := by decide +kernel
theorem dX3_mixVersion_5 : decode cX3_mixVersion 5 = .ok (.if_icmp .ge 20, 3) := by decide +kernel
theorem dX3_mixVersion_8 : decode cX3_mixVersion 8 = .ok (.aload_n 0, 1) := by decide +kernel
theorem dX3_mixVersion_9 : decode cX3_mixVersion 9 = .ok (.aload_n 0, 1) := by decide +kernel
theorem dX3_mixVersion_10 : decode cX3_mixVersion 10 = .ok (.iload_n 1, 1) := by decide +kernel
theorem dX3_mixVersion_11 : decode cX3_mixVersion 11 = .ok (.iload_n 2, 1) := by decide +kernel
theorem dX3_mixVersion_12 : decode cX3_mixVersion 12 = .ok (.invokevirtual 252, 3) := by decide +kernel
theorem dX3_mixVersion_15 : decode cX3_mixVersion 15 = .ok (.i2l, 1) := by decide +kernel
theorem dX3_mixVersion_16 : decode cX3_mixVersion 16 = .ok (.invokevirtual 291, 3) := by decide +kernel
theorem dX3_mixVersion_19 : decode cX3_mixVersion 19 = .ok (.iinc 2 1, 3) := by decide +kernel
theorem dX3_mixVersion_22 : decode cX3_mixVersion 22 = .ok (.goto (-20), 3) := by decide +kernel
theorem dX3_mixVersion_25 : decode cX3_mixVersion 25 = .ok (.iconst 0, 1) := by decide +kernel
theorem dX3_mixVersion_26 : decode cX3_mixVersion 26 = .ok (.istore_n 2, 1) := by decide +kernel
theorem dX3_mixVersion_27 : decode cX3_mixVersion 27 = .ok (.iload_n 2, 1) := by decide +kernel
theorem dX3_mixVersion_28 : decode cX3_mixVersion 28 = .ok (.iconst 5, 1) := by decide +kernel
theorem dX3_mixVersion_29 : decode cX3_mixVersion 29 = .ok (.aload_n 0, 1) := by decide +kernel
theorem dX3_mixVersion_30 : decode cX3_mixVersion 30 = .ok (.getfield 32, 3) := by decide +kernel
theorem dX3_mixVersion_33 : decode cX3_mixVersion 33 = .ok (.iload_n 1, 1) := by decide +kernel
theorem dX3_mixVersion_34 : decode cX3_mixVersion 34 = .ok (.iaload, 1) := by decide +kernel
theorem dX3_mixVersion_35 : decode cX3_mixVersion 35 = .ok (.imul, 1) := by decide +kernel
theorem dX3_mixVersion_36 : decode cX3_mixVersion 36 = .ok (.if_icmp .ge 25, 3) := by decide +kernel
theorem dX3_mixVersion_39 : decode cX3_mixVersion 39 = .ok (.aload_n 0, 1) := by decide +kernel
theorem dX3_mixVersion_40 : decode cX3_mixVersion 40 = .ok (.aload_n 0, 1) := by decide +kernel
theorem dX3_mixVersion_41 : decode cX3_mixVersion 41 = .ok (.iload_n 1, 1) := by decide +kernel
theorem dX3_mixVersion_42 : decode cX3_mixVersion 42 = .ok (.iload_n 2, 1) := by decide +kernel
theorem dX3_mixVersion_43 : decode cX3_mixVersion 43 = .ok (.iconst 5, 1) := by decide +kernel
theorem dX3_mixVersion_44 : decode cX3_mixVersion 44 = .ok (.idiv, 1) := by decide +kernel
theorem dX3_mixVersion_45 : decode cX3_mixVersion 45 = .ok (.iload_n 2, 1) := by decide +kernel
theorem dX3_mixVersion_46 : decode cX3_mixVersion 46 = .ok (.iconst 5, 1) := by decide +kernel
theorem dX3_mixVersion_47 : decode cX3_mixVersion 47 = .ok (.irem, 1) := by decide +kernel
theorem dX3_mixVersion_48 : decode cX3_mixVersion 48 = .ok (.invokevirtual 258, 3) := by decide +kernel
theorem dX3_mixVersion_51 : decode cX3_mixVersion 51 = .ok (.i2l, 1) := by decide +kernel
theorem dX3_mixVersion_52 : decode cX3_mixVersion 52 = .ok (.invokevirtual 291, 3) := by decide +kernel
theorem dX3_mixVersion_55 : decode cX3_mixVersion 55 = .ok (.iinc 2 1, 3) := by decide +kernel
theorem dX3_mixVersion_58 : decode cX3_mixVersion 58 = .ok (.goto (-31), 3) := by decide +kernel
theorem dX3_mixVersion_61 : decode cX3_mixVersion 61 = .ok (.iconst 0, 1) := by decide +kernel
theorem dX3_mixVersion_62 : decode cX3_mixVersion 62 = .ok (.istore_n 2, 1) := by decide +kernel
theorem dX3_mixVersion_63 : decode cX3_mixVersion 63 = .ok (.iload_n 2, 1) := by decide +kernel
theorem dX3_mixVersion_64 : decode cX3_mixVersion 64 = .ok (.iconst 3, 1) := by decide +kernel
theorem dX3_mixVersion_65 : decode cX3_mixVersion 65 = .ok (.aload_n 0, 1) := by decide +kernel
theorem dX3_mixVersion_66 : decode cX3_mixVersion 66 = .ok (.getfield 23, 3) := by decide +kernel
theorem dX3_mixVersion_69 : decode cX3_mixVersion 69 = .ok (.iload_n 1, 1) := by decide +kernel
theorem dX3_mixVersion_70 : decode cX3_mixVersion 70 = .ok (.iaload, 1) := by decide +kernel
theorem dX3_mixVersion_71 : decode cX3_mixVersion 71 = .ok (.imul, 1) := by decide +kernel
theorem dX3_mixVersion_72 : decode cX3_mixVersion 72 = .ok (.if_icmp .ge 25, 3) := by decide +kernel
theorem dX3_mixVersion_75 : decode cX3_mixVersion 75 = .ok (.aload_n 0, 1) := by decide +kernel
theorem dX3_mixVersion_76 : decode cX3_mixVersion 76 = .ok (.aload_n 0, 1) := by decide +kernel
theorem dX3_mixVersion_77 : decode cX3_mixVersion 77 = .ok (.iload_n 1, 1) := by decide +kernel
theorem dX3_mixVersion_78 : decode cX3_mixVersion 78 = .ok (.iload_n 2, 1) := by decide +kernel
theorem dX3_mixVersion_79 : decode cX3_mixVersion 79 = .ok (.iconst 3, 1) := by decide +kernel
theorem dX3_mixVersion_80 : decode cX3_mixVersion 80 = .ok (.idiv, 1) := by decide +kernel
theorem dX3_mixVersion_81 : decode cX3_mixVersion 81 = .ok (.iload_n 2, 1) := by decide +kernel
theorem dX3_mixVersion_82 : decode cX3_mixVersion 82 = .ok (.iconst 3, 1) := by decide +kernel
theorem dX3_mixVersion_83 : decode cX3_mixVersion 83 = .ok (.irem, 1) := by decide +kernel
theorem dX3_mixVersion_84 : decode cX3_mixVersion 84 = .ok (.invokevirtual 264, 3) := by decide +kernel
theorem dX3_mixVersion_87 : decode cX3_mixVersion 87 = .ok (.i2l, 1) := by decide +kernel
theorem dX3_mixVersion_88 : decode cX3_mixVersion 88 = .ok (.invokevirtual 291, 3) := by decide +kernel
theorem dX3_mixVersion_91 : decode cX3_mixVersion 91 = .ok (.iinc 2 1, 3) := by decide +kernel
theorem dX3_mixVersion_94 : decode cX3_mixVersion 94 = .ok (.goto (-31), 3) := by decide +kernel
theorem dX3_mixVersion_97 : decode cX3_mixVersion 97 = .ok (.iload_n 1, 1) := by decide +kernel
theorem dX3_mixVersion_98 : decode cX3_mixVersion 98 = .ok (.ifCond .le 16, 3) := by decide +kernel
theorem dX3_mixVersion_101 : decode cX3_mixVersion 101 = .ok (.aload_n 0, 1) := by decide +kernel
theorem dX3_mixVersion_102 : decode cX3_mixVersion 102 = .ok (.aload_n 0, 1) := by decide +kernel
theorem dX3_mixVersion_103 : decode cX3_mixVersion 103 = .ok (.iload_n 1, 1) := by decide +kernel
theorem dX3_mixVersion_104 : decode cX3_mixVersion 104 = .ok (.iload_n 1, 1) := by decide +kernel
theorem dX3_mixVersion_105 : decode cX3_mixVersion 105 = .ok (.iconst 1, 1) := by decide +kernel
theorem dX3_mixVersion_106 : decode cX3_mixVersion 106 = .ok (.isub, 1) := by decide +kernel
theorem dX3_mixVersion_107 : decode cX3_mixVersion 107 = .ok (.invokevirtual 270, 3) := by decide +kernel
theorem dX3_mixVersion_110 : decode cX3_mixVersion 110 = .ok (.i2l, 1) := by decide +kernel
theorem dX3_mixVersion_111 : decode cX3_mixVersion 111 = .ok (.invokevirtual 291, 3) := by decide +kernel
theorem dX3_mixVersion_114 : decode cX3_mixVersion 114 = .ok (.return_, 1) := by decide +kernel
theorem dX3_digest_0 : decode cX3_digest 0 = .ok (.aload_n 0, 1) := by decide +kernel
theorem dX3_digest_1 : decode cX3_digest 1 = .ok (.ldc2_w 295, 3) := by decide +kernel
theorem dX3_digest_4 : decode cX3_digest 4 = .ok (.putfield 287, 3) := by decide +kernel
theorem dX3_digest_7 : decode cX3_digest 7 = .ok (.iconst 0, 1) := by decide +kernel
theorem dX3_digest_8 : decode cX3_digest 8 = .ok (.istore_n 1, 1) := by decide +kernel
theorem dX3_digest_9 : decode cX3_digest 9 = .ok (.iload_n 1, 1) := by decide +kernel
theorem dX3_digest_10 : decode cX3_digest 10 = .ok (.aload_n 0, 1) := by decide +kernel
theorem dX3_digest_11 : decode cX3_digest 11 = .ok (.getfield 20, 3) := by decide +kernel
theorem dX3_digest_14 : decode cX3_digest 14 = .ok (.if_icmp .ge 14, 3) := by decide +kernel
theorem dX3_digest_17 : decode cX3_digest 17 = .ok (.aload_n 0, 1) := by decide +kernel
theorem dX3_digest_18 : decode cX3_digest 18 = .ok (.iload_n 1, 1) := by decide +kernel
theorem dX3_digest_19 : decode cX3_digest 19 = .ok (.invokevirtual 297, 3) := by decide +kernel
theorem dX3_digest_22 : decode cX3_digest 22 = .ok (.iinc 1 1, 3) := by decide +kernel
theorem dX3_digest_25 : decode cX3_digest 25 = .ok (.goto (-16), 3) := by decide +kernel
theorem dX3_digest_28 : decode cX3_digest 28 = .ok (.iconst 0, 1) := by decide +kernel
theorem dX3_digest_29 : decode cX3_digest 29 = .ok (.istore_n 1, 1) := by decide +kernel
theorem dX3_digest_30 : decode cX3_digest 30 = .ok (.iload_n 1, 1) := by decide +kernel
theorem dX3_digest_31 : decode cX3_digest 31 = .ok (.iconst 4, 1) := by decide +kernel
theorem dX3_digest_32 : decode cX3_digest 32 = .ok (.if_icmp .ge 26, 3) := by decide +kernel
theorem dX3_digest_35 : decode cX3_digest 35 = .ok (.aload_n 0, 1) := by decide +kernel
theorem dX3_digest_36 : decode cX3_digest 36 = .ok (.getfield 90, 3) := by decide +kernel
theorem dX3_digest_39 : decode cX3_digest 39 = .ok (.ifCond .eq 19, 3) := by decide +kernel
theorem dX3_digest_42 : decode cX3_digest 42 = .ok (.aload_n 0, 1) := by decide +kernel
theorem dX3_digest_43 : decode cX3_digest 43 = .ok (.aload_n 0, 1) := by decide +kernel
theorem dX3_digest_44 : decode cX3_digest 44 = .ok (.iload_n 1, 1) := by decide +kernel
theorem dX3_digest_45 : decode cX3_digest 45 = .ok (.invokevirtual 210, 3) := by decide +kernel
theorem dX3_digest_48 : decode cX3_digest 48 = .ok (.i2l, 1) := by decide +kernel
theorem dX3_digest_49 : decode cX3_digest 49 = .ok (.invokevirtual 291, 3) := by decide +kernel
theorem dX3_digest_52 : decode cX3_digest 52 = .ok (.iinc 1 1, 3) := by decide +kernel
theorem dX3_digest_55 : decode cX3_digest 55 = .ok (.goto (-25), 3) := by decide +kernel
theorem dX3_digest_58 : decode cX3_digest 58 = .ok (.iconst 0, 1) := by decide +kernel
theorem dX3_digest_59 : decode cX3_digest 59 = .ok (.istore_n 1, 1) := by decide +kernel
theorem dX3_digest_60 : decode cX3_digest 60 = .ok (.iload_n 1, 1) := by decide +kernel
theorem dX3_digest_61 : decode cX3_digest 61 = .ok (.aload_n 0, 1) := by decide +kernel
theorem dX3_digest_62 : decode cX3_digest 62 = .ok (.getfield 213, 3) := by decide +kernel
theorem dX3_digest_65 : decode cX3_digest 65 = .ok (.if_icmp .ge 20, 3) := by decide +kernel
theorem dX3_digest_68 : decode cX3_digest 68 = .ok (.aload_n 0, 1) := by decide +kernel
theorem dX3_digest_69 : decode cX3_digest 69 = .ok (.aload_n 0, 1) := by decide +kernel
theorem dX3_digest_70 : decode cX3_digest 70 = .ok (.getfield 7, 3) := by decide +kernel
theorem dX3_digest_73 : decode cX3_digest 73 = .ok (.iload_n 1, 1) := by decide +kernel
theorem dX3_digest_74 : decode cX3_digest 74 = .ok (.iaload, 1) := by decide +kernel
theorem dX3_digest_75 : decode cX3_digest 75 = .ok (.i2l, 1) := by decide +kernel
theorem dX3_digest_76 : decode cX3_digest 76 = .ok (.invokevirtual 291, 3) := by decide +kernel
theorem dX3_digest_79 : decode cX3_digest 79 = .ok (.iinc 1 1, 3) := by decide +kernel
theorem dX3_digest_82 : decode cX3_digest 82 = .ok (.goto (-22), 3) := by decide +kernel
theorem dX3_digest_85 : decode cX3_digest 85 = .ok (.iconst 0, 1) := by decide +kernel
theorem dX3_digest_86 : decode cX3_digest 86 = .ok (.istore_n 1, 1) := by decide +kernel
theorem dX3_digest_87 : decode cX3_digest 87 = .ok (.iload_n 1, 1) := by decide +kernel
theorem dX3_digest_88 : decode cX3_digest 88 = .ok (.bipush 9, 2) := by decide +kernel
theorem dX3_digest_90 : decode cX3_digest 90 = .ok (.if_icmp .ge 19, 3) := by decide +kernel
theorem dX3_digest_93 : decode cX3_digest 93 = .ok (.aload_n 0, 1) := by decide +kernel
theorem dX3_digest_94 : decode cX3_digest 94 = .ok (.aload_n 0, 1) := by decide +kernel
theorem dX3_digest_95 : decode cX3_digest 95 = .ok (.iload_n 1, 1) := by decide +kernel
theorem dX3_digest_96 : decode cX3_digest 96 = .ok (.invokevirtual 282, 3) := by decide +kernel
theorem dX3_digest_99 : decode cX3_digest 99 = .ok (.i2l, 1) := by decide +kernel
theorem dX3_digest_100 : decode cX3_digest 100 = .ok (.invokevirtual 291, 3) := by decide +kernel
theorem dX3_digest_103 : decode cX3_digest 103 = .ok (.iinc 1 1, 3) := by decide +kernel
theorem dX3_digest_106 : decode cX3_digest 106 = .ok (.goto (-19), 3) := by decide +kernel
theorem dX3_digest_109 : decode cX3_digest 109 = .ok (.aload_n 0, 1) := by decide +kernel
theorem dX3_digest_110 : decode cX3_digest 110 = .ok (.getfield 287, 3) := by decide +kernel
theorem dX3_digest_113 : decode cX3_digest 113 = .ok (.lreturn, 1) := by decide +kernel
