theorem dX3_init_0 : decode cX3_init 0 = .ok (.aload_n 0, 1) := by decide +kernel
theorem dX3_init_1 : decode cX3_init 1 = .ok (.invokespecial 1, 3) := by decide +kernel
theorem dX3_init_4 : decode cX3_init 4 = .ok (.aload_n 0, 1) := by decide +kernel
theorem dX3_init_5 : decode cX3_init 5 = .ok (.bipush 60, 2) := by decide +kernel
theorem dX3_init_7 : decode cX3_init 7 = .ok (.newarray .int, 2) := by decide +kernel
theorem dX3_init_9 : decode cX3_init 9 = .ok (.putfield 7, 3) := by decide +kernel
theorem dX3_init_12 : decode cX3_init 12 = .ok (.aload_n 0, 1) := by decide +kernel
theorem dX3_init_13 : decode cX3_init 13 = .ok (.iconst 1, 1) := by decide +kernel
theorem dX3_init_14 : decode cX3_init 14 = .ok (.putfield 13, 3) := by decide +kernel
theorem dX3_init_17 : decode cX3_init 17 = .ok (.aload_n 0, 1) := by decide +kernel
theorem dX3_init_18 : decode cX3_init 18 = .ok (.bipush 30, 2) := by decide +kernel
theorem dX3_init_20 : decode cX3_init 20 = .ok (.putfield 17, 3) := by decide +kernel
theorem dX3_init_23 : decode cX3_init 23 = .ok (.aload_n 0, 1) := by decide +kernel
theorem dX3_init_24 : decode cX3_init 24 = .ok (.iconst 1, 1) := by decide +kernel
theorem dX3_init_25 : decode cX3_init 25 = .ok (.putfield 20, 3) := by decide +kernel
theorem dX3_init_28 : decode cX3_init 28 = .ok (.aload_n 0, 1) := by decide +kernel
theorem dX3_init_29 : decode cX3_init 29 = .ok (.bipush 22, 2) := by decide +kernel
theorem dX3_init_31 : decode cX3_init 31 = .ok (.newarray .int, 2) := by decide +kernel
theorem dX3_init_33 : decode cX3_init 33 = .ok (.putfield 23, 3) := by decide +kernel
theorem dX3_init_36 : decode cX3_init 36 = .ok (.aload_n 0, 1) := by decide +kernel
theorem dX3_init_37 : decode cX3_init 37 = .ok (.sipush 528, 3) := by decide +kernel
theorem dX3_init_40 : decode cX3_init 40 = .ok (.newarray .int, 2) := by decide +kernel
theorem dX3_init_42 : decode cX3_init 42 = .ok (.putfield 26, 3) := by decide +kernel
theorem dX3_init_45 : decode cX3_init 45 = .ok (.aload_n 0, 1) := by decide +kernel
theorem dX3_init_46 : decode cX3_init 46 = .ok (.sipush 528, 3) := by decide +kernel
theorem dX3_init_49 : decode cX3_init 49 = .ok (.newarray .int, 2) := by decide +kernel
theorem dX3_init_51 : decode cX3_init 51 = .ok (.putfield 29, 3) := by decide +kernel
theorem dX3_init_54 : decode cX3_init 54 = .ok (.aload_n 0, 1) := by decide +kernel
theorem dX3_init_55 : decode cX3_init 55 = .ok (.bipush 22, 2) := by decide +kernel
theorem dX3_init_57 : decode cX3_init 57 = .ok (.newarray .int, 2) := by decide +kernel
theorem dX3_init_59 : decode cX3_init 59 = .ok (.putfield 32, 3) := by decide +kernel
theorem dX3_init_62 : decode cX3_init 62 = .ok (.aload_n 0, 1) := by decide +kernel
theorem dX3_init_63 : decode cX3_init 63 = .ok (.sipush 2112, 3) := by decide +kernel
theorem dX3_init_66 : decode cX3_init 66 = .ok (.newarray .int, 2) := by decide +kernel
theorem dX3_init_68 : decode cX3_init 68 = .ok (.putfield 35, 3) := by decide +kernel
theorem dX3_init_71 : decode cX3_init 71 = .ok (.aload_n 0, 1) := by decide +kernel
theorem dX3_init_72 : decode cX3_init 72 = .ok (.sipush 2112, 3) := by decide +kernel
theorem dX3_init_75 : decode cX3_init 75 = .ok (.newarray .int, 2) := by decide +kernel
theorem dX3_init_77 : decode cX3_init 77 = .ok (.putfield 38, 3) := by decide +kernel
theorem dX3_init_80 : decode cX3_init 80 = .ok (.aload_n 0, 1) := by decide +kernel
theorem dX3_init_81 : decode cX3_init 81 = .ok (.sipush 2112, 3) := by decide +kernel
theorem dX3_init_84 : decode cX3_init 84 = .ok (.newarray .int, 2) := by decide +kernel
theorem dX3_init_86 : decode cX3_init 86 = .ok (.putfield 41, 3) := by decide +kernel
theorem dX3_init_89 : decode cX3_init 89 = .ok (.aload_n 0, 1) := by decide +kernel
theorem dX3_init_90 : decode cX3_init 90 = .ok (.sipush 2112, 3) := by decide +kernel
theorem dX3_init_93 : decode cX3_init 93 = .ok (.newarray .int, 2) := by decide +kernel
theorem dX3_init_95 : decode cX3_init 95 = .ok (.putfield 44, 3) := by decide +kernel
theorem dX3_init_98 : decode cX3_init 98 = .ok (.aload_n 0, 1) := by decide +kernel
theorem dX3_init_99 : decode cX3_init 99 = .ok (.sipush 2112, 3) := by decide +kernel
theorem dX3_init_102 : decode cX3_init 102 = .ok (.newarray .int, 2) := by decide +kernel
theorem dX3_init_104 : decode cX3_init 104 = .ok (.putfield 47, 3) := by decide +kernel
theorem dX3_init_107 : decode cX3_init 107 = .ok (.aload_n 0, 1) := by decide +kernel
theorem dX3_init_108 : decode cX3_init 108 = .ok (.sipush 2112, 3) := by decide +kernel
theorem dX3_init_111 : decode cX3_init 111 = .ok (.newarray .boolean, 2) := by decide +kernel
theorem dX3_init_113 : decode cX3_init 113 = .ok (.putfield 50, 3) := by decide +kernel
theorem dX3_init_116 : decode cX3_init 116 = .ok (.aload_n 0, 1) := by decide +kernel
theorem dX3_init_117 : decode cX3_init 117 = .ok (.bipush 96, 2) := by decide +kernel
theorem dX3_init_119 : decode cX3_init 119 = .ok (.newarray .int, 2) := by decide +kernel
theorem dX3_init_121 : decode cX3_init 121 = .ok (.putfield 54, 3) := by decide +kernel
theorem dX3_init_124 : decode cX3_init 124 = .ok (.aload_n 0, 1) := by decide +kernel
theorem dX3_init_125 : decode cX3_init 125 = .ok (.bipush 96, 2) := by decide +kernel
theorem dX3_init_127 : decode cX3_init 127 = .ok (.newarray .int, 2) := by decide +kernel
theorem dX3_init_129 : decode cX3_init 129 = .ok (.putfield 57, 3) := by decide +kernel
theorem dX3_init_132 : decode cX3_init 132 = .ok (.aload_n 0, 1) := by decide +kernel
theorem dX3_init_133 : decode cX3_init 133 = .ok (.bipush 96, 2) := by decide +kernel
theorem dX3_init_135 : decode cX3_init 135 = .ok (.newarray .int, 2) := by decide +kernel
theorem dX3_init_137 : decode cX3_init 137 = .ok (.putfield 60, 3) := by decide +kernel
theorem dX3_init_140 : decode cX3_init 140 = .ok (.aload_n 0, 1) := by decide +kernel
theorem dX3_init_141 : decode cX3_init 141 = .ok (.bipush 24, 2) := by decide +kernel
theorem dX3_init_143 : decode cX3_init 143 = .ok (.newarray .int, 2) := by decide +kernel
theorem dX3_init_145 : decode cX3_init 145 = .ok (.putfield 63, 3) := by decide +kernel
theorem dX3_init_148 : decode cX3_init 148 = .ok (.aload_n 0, 1) := by decide +kernel
theorem dX3_init_149 : decode cX3_init 149 = .ok (.bipush 24, 2) := by decide +kernel
theorem dX3_init_151 : decode cX3_init 151 = .ok (.newarray .int, 2) := by decide +kernel
theorem dX3_init_153 : decode cX3_init 153 = .ok (.putfield 66, 3) := by decide +kernel
theorem dX3_init_156 : decode cX3_init 156 = .ok (.aload_n 0, 1) := by decide +kernel
theorem dX3_init_157 : decode cX3_init 157 = .ok (.bipush 24, 2) := by decide +kernel
theorem dX3_init_159 : decode cX3_init 159 = .ok (.newarray .int, 2) := by decide +kernel
theorem dX3_init_161 : decode cX3_init 161 = .ok (.putfield 69, 3) := by decide +kernel
theorem dX3_init_164 : decode cX3_init 164 = .ok (.aload_n 0, 1) := by decide +kernel
theorem dX3_init_165 : decode cX3_init 165 = .ok (.bipush 24, 2) := by decide +kernel
theorem dX3_init_167 : decode cX3_init 167 = .ok (.newarray .int, 2) := by decide +kernel
theorem dX3_init_169 : decode cX3_init 169 = .ok (.putfield 72, 3) := by decide +kernel
theorem dX3_init_172 : decode cX3_init 172 = .ok (.aload_n 0, 1) := by decide +kernel
theorem dX3_init_173 : decode cX3_init 173 = .ok (.bipush 96, 2) := by decide +kernel
theorem dX3_init_175 : decode cX3_init 175 = .ok (.newarray .int, 2) := by decide +kernel
theorem dX3_init_177 : decode cX3_init 177 = .ok (.putfield 75, 3) := by decide +kernel
theorem dX3_init_180 : decode cX3_init 180 = .ok (.aload_n 0, 1) := by decide +kernel
theorem dX3_init_181 : decode cX3_init 181 = .ok (.bipush 96, 2) := by decide +kernel
theorem dX3_init_183 : decode cX3_init 183 = .ok (.newarray .boolean, 2) := by decide +kernel
theorem dX3_init_185 : decode cX3_init 185 = .ok (.putfield 78, 3) := by decide +kernel
theorem dX3_init_188 : decode cX3_init 188 = .ok (.return_, 1) := by decide +kernel
theorem dX3_within_0 : decode cX3_within 0 = .ok (.iload_n 0, 1) := by decide +kernel
theorem dX3_within_1 : decode cX3_within 1 = .ok (.iload_n 1, 1) := by decide +kernel
theorem dX3_within_2 : decode cX3_within 2 = .ok (.if_icmp .lt 12, 3) := by decide +kernel
theorem dX3_within_5 : decode cX3_within 5 = .ok (.iload_n 0, 1) := by decide +kernel
theorem dX3_within_6 : decode cX3_within 6 = .ok (.iload_n 2, 1) := by decide +kernel
theorem dX3_within_7 : decode cX3_within 7 = .ok (.if_icmp .gt 7, 3) := by decide +kernel
theorem dX3_within_10 : decode cX3_within 10 = .ok (.iconst 1, 1) := by decide +kernel
theorem dX3_within_11 : decode cX3_within 11 = .ok (.goto 4, 3) := by decide +kernel
theorem dX3_within_14 : decode cX3_within 14 = .ok (.iconst 0, 1) := by decide +kernel
theorem dX3_within_15 : decode cX3_within 15 = .ok (.ireturn, 1) := by decide +kernel
theorem dX3_hashOf_0 : decode cX3_hashOf 0 = .ok (.iload_n 1, 1) := by decide +kernel
theorem dX3_hashOf_1 : decode cX3_hashOf 1 = .ok (.aload_n 0, 1) := by decide +kernel
theorem dX3_hashOf_2 : decode cX3_hashOf 2 = .ok (.getfield 13, 3) := by decide +kernel
theorem dX3_hashOf_5 : decode cX3_hashOf 5 = .ok (.imul, 1) := by decide +kernel
theorem dX3_hashOf_6 : decode cX3_hashOf 6 = .ok (.iconst 1, 1) := by decide +kernel
theorem dX3_hashOf_7 : decode cX3_hashOf 7 = .ok (.aload_n 0, 1) := by decide +kernel
theorem dX3_hashOf_8 : decode cX3_hashOf 8 = .ok (.getfield 17, 3) := by decide +kernel
theorem dX3_hashOf_11 : decode cX3_hashOf 11 = .ok (.ishl, 1) := by decide +kernel
theorem dX3_hashOf_12 : decode cX3_hashOf 12 = .ok (.iconst 1, 1) := by decide +kernel
theorem dX3_hashOf_13 : decode cX3_hashOf 13 = .ok (.isub, 1) := by decide +kernel
theorem dX3_hashOf_14 : decode cX3_hashOf 14 = .ok (.iand, 1) := by decide +kernel
theorem dX3_hashOf_15 : decode cX3_hashOf 15 = .ok (.ireturn, 1) := by decide +kernel
theorem dX3_partOf_0 : decode cX3_partOf 0 = .ok (.iload_n 0, 1) := by decide +kernel
theorem dX3_partOf_1 : decode cX3_partOf 1 = .ok (.iconst 5, 1) := by decide +kernel
theorem dX3_partOf_2 : decode cX3_partOf 2 = .ok (.iload_n 1, 1) := by decide +kernel
theorem dX3_partOf_3 : decode cX3_partOf 3 = .ok (.imul, 1) := by decide +kernel
theorem dX3_partOf_4 : decode cX3_partOf 4 = .ok (.ishr, 1) := by decide +kernel
theorem dX3_partOf_5 : decode cX3_partOf 5 = .ok (.bipush 31, 2) := by decide +kernel
theorem dX3_partOf_7 : decode cX3_partOf 7 = .ok (.iand, 1) := by decide +kernel
theorem dX3_partOf_8 : decode cX3_partOf 8 = .ok (.ireturn, 1) := by decide +kernel
theorem dX3_hash_0 : decode cX3_hash 0 = .ok (.iload_n 1, 1) := by decide +kernel
theorem dX3_hash_1 : decode cX3_hash 1 = .ok (.iconst 0, 1) := by decide +kernel
theorem dX3_hash_2 : decode cX3_hash 2 = .ok (.sipush 4095, 3) := by decide +kernel
theorem dX3_hash_5 : decode cX3_hash 5 = .ok (.invokestatic 81, 3) := by decide +kernel
theorem dX3_hash_8 : decode cX3_hash 8 = .ok (.ifCond .eq 11, 3) := by decide +kernel
theorem dX3_hash_11 : decode cX3_hash 11 = .ok (.aload_n 0, 1) := by decide +kernel
theorem dX3_hash_12 : decode cX3_hash 12 = .ok (.iload_n 1, 1) := by decide +kernel
theorem dX3_hash_13 : decode cX3_hash 13 = .ok (.invokevirtual 85, 3) := by decide +kernel
theorem dX3_hash_16 : decode cX3_hash 16 = .ok (.goto 5, 3) := by decide +kernel
theorem dX3_hash_19 : decode cX3_hash 19 = .ok (.bipush (-102), 2) := by decide +kernel
theorem dX3_hash_21 : decode cX3_hash 21 = .ok (.ireturn, 1) := by decide +kernel
theorem dX3_scheme_0 : decode cX3_scheme 0 = .ok (.iload_n 1, 1) := by decide +kernel
theorem dX3_scheme_1 : decode cX3_scheme 1 = .ok (.iconst 1, 1) := by decide +kernel
theorem dX3_scheme_2 : decode cX3_scheme 2 = .ok (.ldc 89, 2) := by decide +kernel
theorem dX3_scheme_4 : decode cX3_scheme 4 = .ok (.invokestatic 81, 3) := by decide +kernel
theorem dX3_scheme_7 : decode cX3_scheme 7 = .ok (.ifCond .eq 19, 3) := by decide +kernel
theorem dX3_scheme_10 : decode cX3_scheme 10 = .ok (.iload_n 1, 1) := by decide +kernel
theorem dX3_scheme_11 : decode cX3_scheme 11 = .ok (.iconst 2, 1) := by decide +kernel
theorem dX3_scheme_12 : decode cX3_scheme 12 = .ok (.irem, 1) := by decide +kernel
theorem dX3_scheme_13 : decode cX3_scheme 13 = .ok (.ifCond .eq 13, 3) := by decide +kernel
theorem dX3_scheme_16 : decode cX3_scheme 16 = .ok (.iload_n 2, 1) := by decide +kernel
theorem dX3_scheme_17 : decode cX3_scheme 17 = .ok (.iconst 3, 1) := by decide +kernel
theorem dX3_scheme_18 : decode cX3_scheme 18 = .ok (.bipush 30, 2) := by decide +kernel
theorem dX3_scheme_20 : decode cX3_scheme 20 = .ok (.invokestatic 81, 3) := by decide +kernel
theorem dX3_scheme_23 : decode cX3_scheme 23 = .ok (.ifCond .ne 6, 3) := by decide +kernel
theorem dX3_scheme_26 : decode cX3_scheme 26 = .ok (.bipush (-102), 2) := by decide +kernel
theorem dX3_scheme_28 : decode cX3_scheme 28 = .ok (.ireturn, 1) := by decide +kernel
theorem dX3_scheme_29 : decode cX3_scheme 29 = .ok (.aload_n 0, 1) := by decide +kernel
theorem dX3_scheme_30 : decode cX3_scheme 30 = .ok (.getfield 20, 3) := by decide +kernel
theorem dX3_scheme_33 : decode cX3_scheme 33 = .ok (.iconst 1, 1) := by decide +kernel
theorem dX3_scheme_34 : decode cX3_scheme 34 = .ok (.isub, 1) := by decide +kernel
theorem dX3_scheme_35 : decode cX3_scheme 35 = .ok (.istore_n 3, 1) := by decide +kernel
theorem dX3_scheme_36 : decode cX3_scheme 36 = .ok (.aload_n 0, 1) := by decide +kernel
theorem dX3_scheme_37 : decode cX3_scheme 37 = .ok (.iconst 1, 1) := by decide +kernel
theorem dX3_scheme_38 : decode cX3_scheme 38 = .ok (.putfield 20, 3) := by decide +kernel
theorem dX3_scheme_41 : decode cX3_scheme 41 = .ok (.aload_n 0, 1) := by decide +kernel
theorem dX3_scheme_42 : decode cX3_scheme 42 = .ok (.iconst 0, 1) := by decide +kernel
theorem dX3_scheme_43 : decode cX3_scheme 43 = .ok (.putfield 90, 3) := by decide +kernel
theorem dX3_scheme_46 : decode cX3_scheme 46 = .ok (.aload_n 0, 1) := by decide +kernel
theorem dX3_scheme_47 : decode cX3_scheme 47 = .ok (.iload_n 1, 1) := by decide +kernel
theorem dX3_scheme_48 : decode cX3_scheme 48 = .ok (.putfield 13, 3) := by decide +kernel
theorem dX3_scheme_51 : decode cX3_scheme 51 = .ok (.aload_n 0, 1) := by decide +kernel
theorem dX3_scheme_52 : decode cX3_scheme 52 = .ok (.iload_n 2, 1) := by decide +kernel
theorem dX3_scheme_53 : decode cX3_scheme 53 = .ok (.putfield 17, 3) := by decide +kernel
theorem dX3_scheme_56 : decode cX3_scheme 56 = .ok (.iload_n 3, 1) := by decide +kernel
theorem dX3_scheme_57 : decode cX3_scheme 57 = .ok (.ireturn, 1) := by decide +kernel
theorem dX3_isAhead_0 : decode cX3_isAhead 0 = .ok (.aload_n 0, 1) := by decide +kernel
theorem dX3_isAhead_1 : decode cX3_isAhead 1 = .ok (.iload_n 1, 1) := by decide +kernel
theorem dX3_isAhead_2 : decode cX3_isAhead 2 = .ok (.invokevirtual 85, 3) := by decide +kernel
theorem dX3_isAhead_5 : decode cX3_isAhead 5 = .ok (.istore_n 3, 1) := by decide +kernel
theorem dX3_isAhead_6 : decode cX3_isAhead 6 = .ok (.aload_n 0, 1) := by decide +kernel
theorem dX3_isAhead_7 : decode cX3_isAhead 7 = .ok (.iload_n 2, 1) := by decide +kernel
theorem dX3_isAhead_8 : decode cX3_isAhead 8 = .ok (.invokevirtual 85, 3) := by decide +kernel
theorem dX3_isAhead_11 : decode cX3_isAhead 11 = .ok (.istore 4, 2) := by decide +kernel
theorem dX3_isAhead_13 : decode cX3_isAhead 13 = .ok (.iconst 0, 1) := by decide +kernel
theorem dX3_isAhead_14 : decode cX3_isAhead 14 = .ok (.istore 5, 2) := by decide +kernel
theorem dX3_isAhead_16 : decode cX3_isAhead 16 = .ok (.iload 5, 2) := by decide +kernel
theorem dX3_isAhead_18 : decode cX3_isAhead 18 = .ok (.bipush 6, 2) := by decide +kernel
theorem dX3_isAhead_20 : decode cX3_isAhead 20 = .ok (.if_icmp .ge 47, 3) := by decide +kernel
theorem dX3_isAhead_23 : decode cX3_isAhead 23 = .ok (.iload_n 3, 1) := by decide +kernel
theorem dX3_isAhead_24 : decode cX3_isAhead 24 = .ok (.iload 5, 2) := by decide +kernel
theorem dX3_isAhead_26 : decode cX3_isAhead 26 = .ok (.invokestatic 94, 3) := by decide +kernel
theorem dX3_isAhead_29 : decode cX3_isAhead 29 = .ok (.iload 4, 2) := by decide +kernel
theorem dX3_isAhead_31 : decode cX3_isAhead 31 = .ok (.iload 5, 2) := by decide +kernel
theorem dX3_isAhead_33 : decode cX3_isAhead 33 = .ok (.invokestatic 94, 3) := by decide +kernel
theorem dX3_isAhead_36 : decode cX3_isAhead 36 = .ok (.if_icmp .eq 25, 3) := by decide +kernel
theorem dX3_isAhead_39 : decode cX3_isAhead 39 = .ok (.iload_n 3, 1) := by decide +kernel
theorem dX3_isAhead_40 : decode cX3_isAhead 40 = .ok (.iload 5, 2) := by decide +kernel
theorem dX3_isAhead_42 : decode cX3_isAhead 42 = .ok (.invokestatic 94, 3) := by decide +kernel
theorem dX3_isAhead_45 : decode cX3_isAhead 45 = .ok (.iload 4, 2) := by decide +kernel
theorem dX3_isAhead_47 : decode cX3_isAhead 47 = .ok (.iload 5, 2) := by decide +kernel
theorem dX3_isAhead_49 : decode cX3_isAhead 49 = .ok (.invokestatic 94, 3) := by decide +kernel
theorem dX3_isAhead_52 : decode cX3_isAhead 52 = .ok (.if_icmp .ge 7, 3) := by decide +kernel
theorem dX3_isAhead_55 : decode cX3_isAhead 55 = .ok (.iconst 1, 1) := by decide +kernel
theorem dX3_isAhead_56 : decode cX3_isAhead 56 = .ok (.goto 4, 3) := by decide +kernel
theorem dX3_isAhead_59 : decode cX3_isAhead 59 = .ok (.iconst 0, 1) := by decide +kernel
theorem dX3_isAhead_60 : decode cX3_isAhead 60 = .ok (.ireturn, 1) := by decide +kernel
theorem dX3_isAhead_61 : decode cX3_isAhead 61 = .ok (.iinc 5 1, 3) := by decide +kernel
theorem dX3_isAhead_64 : decode cX3_isAhead 64 = .ok (.goto (-48), 3) := by decide +kernel
theorem dX3_isAhead_67 : decode cX3_isAhead 67 = .ok (.iload_n 1, 1) := by decide +kernel
theorem dX3_isAhead_68 : decode cX3_isAhead 68 = .ok (.iload_n 2, 1) := by decide +kernel
theorem dX3_isAhead_69 : decode cX3_isAhead 69 = .ok (.if_icmp .ge 7, 3) := by decide +kernel
theorem dX3_isAhead_72 : decode cX3_isAhead 72 = .ok (.iconst 1, 1) := by decide +kernel
theorem dX3_isAhead_73 : decode cX3_isAhead 73 = .ok (.goto 4, 3) := by decide +kernel
theorem dX3_isAhead_76 : decode cX3_isAhead 76 = .ok (.iconst 0, 1) := by decide +kernel
theorem dX3_isAhead_77 : decode cX3_isAhead 77 = .ok (.ireturn, 1) := by decide +kernel
theorem dX3_keyAt_0 : decode cX3_keyAt 0 = .ok (.aload_n 0, 1) := by decide +kernel
theorem dX3_keyAt_1 : decode cX3_keyAt 1 = .ok (.getfield 26, 3) := by decide +kernel
theorem dX3_keyAt_4 : decode cX3_keyAt 4 = .ok (.bipush 24, 2) := by decide +kernel
theorem dX3_keyAt_6 : decode cX3_keyAt 6 = .ok (.iload_n 1, 1) := by decide +kernel
theorem dX3_keyAt_7 : decode cX3_keyAt 7 = .ok (.imul, 1) := by decide +kernel
theorem dX3_keyAt_8 : decode cX3_keyAt 8 = .ok (.iload_n 2, 1) := by decide +kernel
theorem dX3_keyAt_9 : decode cX3_keyAt 9 = .ok (.iadd, 1) := by decide +kernel
theorem dX3_keyAt_10 : decode cX3_keyAt 10 = .ok (.iaload, 1) := by decide +kernel
theorem dX3_keyAt_11 : decode cX3_keyAt 11 = .ok (.ireturn, 1) := by decide +kernel
theorem dX3_valueAt_0 : decode cX3_valueAt 0 = .ok (.aload_n 0, 1) := by decide +kernel
theorem dX3_valueAt_1 : decode cX3_valueAt 1 = .ok (.getfield 29, 3) := by decide +kernel
theorem dX3_valueAt_4 : decode cX3_valueAt 4 = .ok (.bipush 24, 2) := by decide +kernel
theorem dX3_valueAt_6 : decode cX3_valueAt 6 = .ok (.iload_n 1, 1) := by decide +kernel
theorem dX3_valueAt_7 : decode cX3_valueAt 7 = .ok (.imul, 1) := by decide +kernel
theorem dX3_valueAt_8 : decode cX3_valueAt 8 = .ok (.iload_n 2, 1) := by decide +kernel
theorem dX3_valueAt_9 : decode cX3_valueAt 9 = .ok (.iadd, 1) := by decide +kernel
theorem dX3_valueAt_10 : decode cX3_valueAt 10 = .ok (.iaload, 1) := by decide +kernel
theorem dX3_valueAt_11 : decode cX3_valueAt 11 = .ok (.ireturn, 1) := by decide +kernel
theorem dX3_placeOf_0 : decode cX3_placeOf 0 = .ok (.iconst 0, 1) := by decide +kernel
theorem dX3_placeOf_1 : decode cX3_placeOf 1 = .ok (.istore_n 3, 1) := by decide +kernel
theorem dX3_placeOf_2 : decode cX3_placeOf 2 = .ok (.iload_n 3, 1) := by decide +kernel
theorem dX3_placeOf_3 : decode cX3_placeOf 3 = .ok (.aload_n 0, 1) := by decide +kernel
theorem dX3_placeOf_4 : decode cX3_placeOf 4 = .ok (.getfield 23, 3) := by decide +kernel
theorem dX3_placeOf_7 : decode cX3_placeOf 7 = .ok (.iload_n 1, 1) := by decide +kernel
theorem dX3_placeOf_8 : decode cX3_placeOf 8 = .ok (.iaload, 1) := by decide +kernel
theorem dX3_placeOf_9 : decode cX3_placeOf 9 = .ok (.if_icmp .ge 21, 3) := by decide +kernel
theorem dX3_placeOf_12 : decode cX3_placeOf 12 = .ok (.aload_n 0, 1) := by decide +kernel
theorem dX3_placeOf_13 : decode cX3_placeOf 13 = .ok (.iload_n 1, 1) := by decide +kernel
theorem dX3_placeOf_14 : decode cX3_placeOf 14 = .ok (.iload_n 3, 1) := by decide +kernel
theorem dX3_placeOf_15 : decode cX3_placeOf 15 = .ok (.invokevirtual 98, 3) := by decide +kernel
theorem dX3_placeOf_18 : decode cX3_placeOf 18 = .ok (.iload_n 2, 1) := by decide +kernel
theorem dX3_placeOf_19 : decode cX3_placeOf 19 = .ok (.if_icmp .ne 5, 3) := by decide +kernel
theorem dX3_placeOf_22 : decode cX3_placeOf 22 = .ok (.iload_n 3, 1) := by decide +kernel
theorem dX3_placeOf_23 : decode cX3_placeOf 23 = .ok (.ireturn, 1) := by decide +kernel
theorem dX3_placeOf_24 : decode cX3_placeOf 24 = .ok (.iinc 3 1, 3) := by decide +kernel
theorem dX3_placeOf_27 : decode cX3_placeOf 27 = .ok (.goto (-25), 3) := by decide +kernel
theorem dX3_placeOf_30 : decode cX3_placeOf 30 = .ok (.iconst (-1), 1) := by decide +kernel
theorem dX3_placeOf_31 : decode cX3_placeOf 31 = .ok (.ireturn, 1) := by decide +kernel
theorem dX3_copyTo_0 : decode cX3_copyTo 0 = .ok (.aload_n 0, 1) := by decide +kernel
theorem dX3_copyTo_1 : decode cX3_copyTo 1 = .ok (.getfield 23, 3) := by decide +kernel
theorem dX3_copyTo_4 : decode cX3_copyTo 4 = .ok (.iload_n 1, 1) := by decide +kernel
theorem dX3_copyTo_5 : decode cX3_copyTo 5 = .ok (.aload_n 0, 1) := by decide +kernel
theorem dX3_copyTo_6 : decode cX3_copyTo 6 = .ok (.getfield 23, 3) := by decide +kernel
theorem dX3_copyTo_9 : decode cX3_copyTo 9 = .ok (.iload_n 2, 1) := by decide +kernel
theorem dX3_copyTo_10 : decode cX3_copyTo 10 = .ok (.iaload, 1) := by decide +kernel
theorem dX3_copyTo_11 : decode cX3_copyTo 11 = .ok (.iastore, 1) := by decide +kernel
theorem dX3_copyTo_12 : decode cX3_copyTo 12 = .ok (.iconst 0, 1) := by decide +kernel
theorem dX3_copyTo_13 : decode cX3_copyTo 13 = .ok (.istore_n 3, 1) := by decide +kernel
theorem dX3_copyTo_14 : decode cX3_copyTo 14 = .ok (.iload_n 3, 1) := by decide +kernel
theorem dX3_copyTo_15 : decode cX3_copyTo 15 = .ok (.aload_n 0, 1) := by decide +kernel
theorem dX3_copyTo_16 : decode cX3_copyTo 16 = .ok (.getfield 23, 3) := by decide +kernel
theorem dX3_copyTo_19 : decode cX3_copyTo 19 = .ok (.iload_n 2, 1) := by decide +kernel
theorem dX3_copyTo_20 : decode cX3_copyTo 20 = .ok (.iaload, 1) := by decide +kernel
theorem dX3_copyTo_21 : decode cX3_copyTo 21 = .ok (.if_icmp .ge 43, 3) := by decide +kernel
theorem dX3_copyTo_24 : decode cX3_copyTo 24 = .ok (.aload_n 0, 1) := by decide +kernel
theorem dX3_copyTo_25 : decode cX3_copyTo 25 = .ok (.getfield 26, 3) := by decide +kernel
theorem dX3_copyTo_28 : decode cX3_copyTo 28 = .ok (.bipush 24, 2) := by decide +kernel
theorem dX3_copyTo_30 : decode cX3_copyTo 30 = .ok (.iload_n 1, 1) := by decide +kernel
theorem dX3_copyTo_31 : decode cX3_copyTo 31 = .ok (.imul, 1) := by decide +kernel
theorem dX3_copyTo_32 : decode cX3_copyTo 32 = .ok (.iload_n 3, 1) := by decide +kernel
theorem dX3_copyTo_33 : decode cX3_copyTo 33 = .ok (.iadd, 1) := by decide +kernel
theorem dX3_copyTo_34 : decode cX3_copyTo 34 = .ok (.aload_n 0, 1) := by decide +kernel
theorem dX3_copyTo_35 : decode cX3_copyTo 35 = .ok (.iload_n 2, 1) := by decide +kernel
theorem dX3_copyTo_36 : decode cX3_copyTo 36 = .ok (.iload_n 3, 1) := by decide +kernel
theorem dX3_copyTo_37 : decode cX3_copyTo 37 = .ok (.invokevirtual 98, 3) := by decide +kernel
theorem dX3_copyTo_40 : decode cX3_copyTo 40 = .ok (.iastore, 1) := by decide +kernel
theorem dX3_copyTo_41 : decode cX3_copyTo 41 = .ok (.aload_n 0, 1) := by decide +kernel
theorem dX3_copyTo_42 : decode cX3_copyTo 42 = .ok (.getfield 29, 3) := by decide +kernel
theorem dX3_copyTo_45 : decode cX3_copyTo 45 = .ok (.bipush 24, 2) := by decide +kernel
theorem dX3_copyTo_47 : decode cX3_copyTo 47 = .ok (.iload_n 1, 1) := by decide +kernel
theorem dX3_copyTo_48 : decode cX3_copyTo 48 = .ok (.imul, 1) := by decide +kernel
theorem dX3_copyTo_49 : decode cX3_copyTo 49 = .ok (.iload_n 3, 1) := by decide +kernel
theorem dX3_copyTo_50 : decode cX3_copyTo 50 = .ok (.iadd, 1) := by decide +kernel
theorem dX3_copyTo_51 : decode cX3_copyTo 51 = .ok (.aload_n 0, 1) := by decide +kernel
theorem dX3_copyTo_52 : decode cX3_copyTo 52 = .ok (.iload_n 2, 1) := by decide +kernel
theorem dX3_copyTo_53 : decode cX3_copyTo 53 = .ok (.iload_n 3, 1) := by decide +kernel
theorem dX3_copyTo_54 : decode cX3_copyTo 54 = .ok (.invokevirtual 101, 3) := by decide +kernel
theorem dX3_copyTo_57 : decode cX3_copyTo 57 = .ok (.iastore, 1) := by decide +kernel
theorem dX3_copyTo_58 : decode cX3_copyTo 58 = .ok (.iinc 3 1, 3) := by decide +kernel
theorem dX3_copyTo_61 : decode cX3_copyTo 61 = .ok (.goto (-47), 3) := by decide +kernel
theorem dX3_copyTo_64 : decode cX3_copyTo 64 = .ok (.return_, 1) := by decide +kernel
theorem dX3_give_0 : decode cX3_give 0 = .ok (.aload_n 0, 1) := by decide +kernel
theorem dX3_give_1 : decode cX3_give 1 = .ok (.iload_n 1, 1) := by decide +kernel
theorem dX3_give_2 : decode cX3_give 2 = .ok (.iload_n 2, 1) := by decide +kernel
theorem dX3_give_3 : decode cX3_give 3 = .ok (.invokevirtual 104, 3) := by decide +kernel
theorem dX3_give_6 : decode cX3_give 6 = .ok (.istore 4, 2) := by decide +kernel
theorem dX3_give_8 : decode cX3_give 8 = .ok (.iload 4, 2) := by decide +kernel
theorem dX3_give_10 : decode cX3_give 10 = .ok (.iconst (-1), 1) := by decide +kernel
theorem dX3_give_11 : decode cX3_give 11 = .ok (.if_icmp .ne 91, 3) := by decide +kernel
theorem dX3_give_14 : decode cX3_give 14 = .ok (.aload_n 0, 1) := by decide +kernel
theorem dX3_give_15 : decode cX3_give 15 = .ok (.getfield 23, 3) := by decide +kernel
theorem dX3_give_18 : decode cX3_give 18 = .ok (.iload_n 1, 1) := by decide +kernel
theorem dX3_give_19 : decode cX3_give 19 = .ok (.iaload, 1) := by decide +kernel
theorem dX3_give_20 : decode cX3_give 20 = .ok (.istore 4, 2) := by decide +kernel
theorem dX3_give_22 : decode cX3_give 22 = .ok (.iload 4, 2) := by decide +kernel
theorem dX3_give_24 : decode cX3_give 24 = .ok (.ifCond .le 68, 3) := by decide +kernel
theorem dX3_give_27 : decode cX3_give 27 = .ok (.aload_n 0, 1) := by decide +kernel
theorem dX3_give_28 : decode cX3_give 28 = .ok (.iload_n 2, 1) := by decide +kernel
theorem dX3_give_29 : decode cX3_give 29 = .ok (.aload_n 0, 1) := by decide +kernel
theorem dX3_give_30 : decode cX3_give 30 = .ok (.iload_n 1, 1) := by decide +kernel
theorem dX3_give_31 : decode cX3_give 31 = .ok (.iload 4, 2) := by decide +kernel
theorem dX3_give_33 : decode cX3_give 33 = .ok (.iconst 1, 1) := by decide +kernel
theorem dX3_give_34 : decode cX3_give 34 = .ok (.isub, 1) := by decide +kernel
theorem dX3_give_35 : decode cX3_give 35 = .ok (.invokevirtual 98, 3) := by decide +kernel
theorem dX3_give_38 : decode cX3_give 38 = .ok (.invokevirtual 107, 3) := by decide +kernel
theorem dX3_give_41 : decode cX3_give 41 = .ok (.ifCond .eq 51, 3) := by decide +kernel
theorem dX3_give_44 : decode cX3_give 44 = .ok (.aload_n 0, 1) := by decide +kernel
theorem dX3_give_45 : decode cX3_give 45 = .ok (.getfield 26, 3) := by decide +kernel
theorem dX3_give_48 : decode cX3_give 48 = .ok (.bipush 24, 2) := by decide +kernel
theorem dX3_give_50 : decode cX3_give 50 = .ok (.iload_n 1, 1) := by decide +kernel
theorem dX3_give_51 : decode cX3_give 51 = .ok (.imul, 1) := by decide +kernel
theorem dX3_give_52 : decode cX3_give 52 = .ok (.iload 4, 2) := by decide +kernel
theorem dX3_give_54 : decode cX3_give 54 = .ok (.iadd, 1) := by decide +kernel
theorem dX3_give_55 : decode cX3_give 55 = .ok (.aload_n 0, 1) := by decide +kernel
theorem dX3_give_56 : decode cX3_give 56 = .ok (.iload_n 1, 1) := by decide +kernel
theorem dX3_give_57 : decode cX3_give 57 = .ok (.iload 4, 2) := by decide +kernel
theorem dX3_give_59 : decode cX3_give 59 = .ok (.iconst 1, 1) := by decide +kernel
theorem dX3_give_60 : decode cX3_give 60 = .ok (.isub, 1) := by decide +kernel
theorem dX3_give_61 : decode cX3_give 61 = .ok (.invokevirtual 98, 3) := by decide +kernel
theorem dX3_give_64 : decode cX3_give 64 = .ok (.iastore, 1) := by decide +kernel
theorem dX3_give_65 : decode cX3_give 65 = .ok (.aload_n 0, 1) := by decide +kernel
theorem dX3_give_66 : decode cX3_give 66 = .ok (.getfield 29, 3) := by decide +kernel
theorem dX3_give_69 : decode cX3_give 69 = .ok (.bipush 24, 2) := by decide +kernel
theorem dX3_give_71 : decode cX3_give 71 = .ok (.iload_n 1, 1) := by decide +kernel
theorem dX3_give_72 : decode cX3_give 72 = .ok (.imul, 1) := by decide +kernel
theorem dX3_give_73 : decode cX3_give 73 = .ok (.iload 4, 2) := by decide +kernel
theorem dX3_give_75 : decode cX3_give 75 = .ok (.iadd, 1) := by decide +kernel
theorem dX3_give_76 : decode cX3_give 76 = .ok (.aload_n 0, 1) := by decide +kernel
theorem dX3_give_77 : decode cX3_give 77 = .ok (.iload_n 1, 1) := by decide +kernel
theorem dX3_give_78 : decode cX3_give 78 = .ok (.iload 4, 2) := by decide +kernel
theorem dX3_give_80 : decode cX3_give 80 = .ok (.iconst 1, 1) := by decide +kernel
theorem dX3_give_81 : decode cX3_give 81 = .ok (.isub, 1) := by decide +kernel
theorem dX3_give_82 : decode cX3_give 82 = .ok (.invokevirtual 101, 3) := by decide +kernel
theorem dX3_give_85 : decode cX3_give 85 = .ok (.iastore, 1) := by decide +kernel
theorem dX3_give_86 : decode cX3_give 86 = .ok (.iinc 4 (-1), 3) := by decide +kernel
theorem dX3_give_89 : decode cX3_give 89 = .ok (.goto (-67), 3) := by decide +kernel
theorem dX3_give_92 : decode cX3_give 92 = .ok (.aload_n 0, 1) := by decide +kernel
theorem dX3_give_93 : decode cX3_give 93 = .ok (.getfield 23, 3) := by decide +kernel
theorem dX3_give_96 : decode cX3_give 96 = .ok (.iload_n 1, 1) := by decide +kernel
theorem dX3_give_97 : decode cX3_give 97 = .ok (.dup2, 1) := by decide +kernel
theorem dX3_give_98 : decode cX3_give 98 = .ok (.iaload, 1) := by decide +kernel
theorem dX3_give_99 : decode cX3_give 99 = .ok (.iconst 1, 1) := by decide +kernel
theorem dX3_give_100 : decode cX3_give 100 = .ok (.iadd, 1) := by decide +kernel
theorem dX3_give_101 : decode cX3_give 101 = .ok (.iastore, 1) := by decide +kernel
theorem dX3_give_102 : decode cX3_give 102 = .ok (.aload_n 0, 1) := by decide +kernel
theorem dX3_give_103 : decode cX3_give 103 = .ok (.getfield 26, 3) := by decide +kernel
theorem dX3_give_106 : decode cX3_give 106 = .ok (.bipush 24, 2) := by decide +kernel
theorem dX3_give_108 : decode cX3_give 108 = .ok (.iload_n 1, 1) := by decide +kernel
theorem dX3_give_109 : decode cX3_give 109 = .ok (.imul, 1) := by decide +kernel
theorem dX3_give_110 : decode cX3_give 110 = .ok (.iload 4, 2) := by decide +kernel
theorem dX3_give_112 : decode cX3_give 112 = .ok (.iadd, 1) := by decide +kernel
theorem dX3_give_113 : decode cX3_give 113 = .ok (.iload_n 2, 1) := by decide +kernel
theorem dX3_give_114 : decode cX3_give 114 = .ok (.iastore, 1) := by decide +kernel
theorem dX3_give_115 : decode cX3_give 115 = .ok (.aload_n 0, 1) := by decide +kernel
theorem dX3_give_116 : decode cX3_give 116 = .ok (.getfield 29, 3) := by decide +kernel
theorem dX3_give_119 : decode cX3_give 119 = .ok (.bipush 24, 2) := by decide +kernel
theorem dX3_give_121 : decode cX3_give 121 = .ok (.iload_n 1, 1) := by decide +kernel
theorem dX3_give_122 : decode cX3_give 122 = .ok (.imul, 1) := by decide +kernel
theorem dX3_give_123 : decode cX3_give 123 = .ok (.iload 4, 2) := by decide +kernel
theorem dX3_give_125 : decode cX3_give 125 = .ok (.iadd, 1) := by decide +kernel
theorem dX3_give_126 : decode cX3_give 126 = .ok (.iload_n 3, 1) := by decide +kernel
theorem dX3_give_127 : decode cX3_give 127 = .ok (.iastore, 1) := by decide +kernel
theorem dX3_give_128 : decode cX3_give 128 = .ok (.return_, 1) := by decide +kernel
theorem dX3_takeFrom_0 : decode cX3_takeFrom 0 = .ok (.aload_n 0, 1) := by decide +kernel
theorem dX3_takeFrom_1 : decode cX3_takeFrom 1 = .ok (.iload_n 1, 1) := by decide +kernel
theorem dX3_takeFrom_2 : decode cX3_takeFrom 2 = .ok (.iload_n 2, 1) := by decide +kernel
theorem dX3_takeFrom_3 : decode cX3_takeFrom 3 = .ok (.invokevirtual 104, 3) := by decide +kernel
theorem dX3_takeFrom_6 : decode cX3_takeFrom 6 = .ok (.istore_n 3, 1) := by decide +kernel
theorem dX3_takeFrom_7 : decode cX3_takeFrom 7 = .ok (.iload_n 3, 1) := by decide +kernel
theorem dX3_takeFrom_8 : decode cX3_takeFrom 8 = .ok (.iconst (-1), 1) := by decide +kernel
theorem dX3_takeFrom_9 : decode cX3_takeFrom 9 = .ok (.if_icmp .eq 75, 3) := by decide +kernel
theorem dX3_takeFrom_12 : decode cX3_takeFrom 12 = .ok (.aload_n 0, 1) := by decide +kernel
theorem dX3_takeFrom_13 : decode cX3_takeFrom 13 = .ok (.getfield 23, 3) := by decide +kernel
theorem dX3_takeFrom_16 : decode cX3_takeFrom 16 = .ok (.iload_n 1, 1) := by decide +kernel
theorem dX3_takeFrom_17 : decode cX3_takeFrom 17 = .ok (.dup2, 1) := by decide +kernel
theorem dX3_takeFrom_18 : decode cX3_takeFrom 18 = .ok (.iaload, 1) := by decide +kernel
theorem dX3_takeFrom_19 : decode cX3_takeFrom 19 = .ok (.iconst 1, 1) := by decide +kernel
theorem dX3_takeFrom_20 : decode cX3_takeFrom 20 = .ok (.isub, 1) := by decide +kernel
theorem dX3_takeFrom_21 : decode cX3_takeFrom 21 = .ok (.iastore, 1) := by decide +kernel
theorem dX3_takeFrom_22 : decode cX3_takeFrom 22 = .ok (.iload_n 3, 1) := by decide +kernel
theorem dX3_takeFrom_23 : decode cX3_takeFrom 23 = .ok (.istore 4, 2) := by decide +kernel
theorem dX3_takeFrom_25 : decode cX3_takeFrom 25 = .ok (.iload 4, 2) := by decide +kernel
theorem dX3_takeFrom_27 : decode cX3_takeFrom 27 = .ok (.aload_n 0, 1) := by decide +kernel
theorem dX3_takeFrom_28 : decode cX3_takeFrom 28 = .ok (.getfield 23, 3) := by decide +kernel
theorem dX3_takeFrom_31 : decode cX3_takeFrom 31 = .ok (.iload_n 1, 1) := by decide +kernel
theorem dX3_takeFrom_32 : decode cX3_takeFrom 32 = .ok (.iaload, 1) := by decide +kernel
theorem dX3_takeFrom_33 : decode cX3_takeFrom 33 = .ok (.if_icmp .ge 51, 3) := by decide +kernel
theorem dX3_takeFrom_36 : decode cX3_takeFrom 36 = .ok (.aload_n 0, 1) := by decide +kernel
theorem dX3_takeFrom_37 : decode cX3_takeFrom 37 = .ok (.getfield 26, 3) := by decide +kernel
theorem dX3_takeFrom_40 : decode cX3_takeFrom 40 = .ok (.bipush 24, 2) := by decide +kernel
theorem dX3_takeFrom_42 : decode cX3_takeFrom 42 = .ok (.iload_n 1, 1) := by decide +kernel
theorem dX3_takeFrom_43 : decode cX3_takeFrom 43 = .ok (.imul, 1) := by decide +kernel
theorem dX3_takeFrom_44 : decode cX3_takeFrom 44 = .ok (.iload 4, 2) := by decide +kernel
theorem dX3_takeFrom_46 : decode cX3_takeFrom 46 = .ok (.iadd, 1) := by decide +kernel
theorem dX3_takeFrom_47 : decode cX3_takeFrom 47 = .ok (.aload_n 0, 1) := by decide +kernel
theorem dX3_takeFrom_48 : decode cX3_takeFrom 48 = .ok (.iload_n 1, 1) := by decide +kernel
theorem dX3_takeFrom_49 : decode cX3_takeFrom 49 = .ok (.iload 4, 2) := by decide +kernel
theorem dX3_takeFrom_51 : decode cX3_takeFrom 51 = .ok (.iconst 1, 1) := by decide +kernel
theorem dX3_takeFrom_52 : decode cX3_takeFrom 52 = .ok (.iadd, 1) := by decide +kernel
theorem dX3_takeFrom_53 : decode cX3_takeFrom 53 = .ok (.invokevirtual 98, 3) := by decide +kernel
theorem dX3_takeFrom_56 : decode cX3_takeFrom 56 = .ok (.iastore, 1) := by decide +kernel
theorem dX3_takeFrom_57 : decode cX3_takeFrom 57 = .ok (.aload_n 0, 1) := by decide +kernel
theorem dX3_takeFrom_58 : decode cX3_takeFrom 58 = .ok (.getfield 29, 3) := by decide +kernel
theorem dX3_takeFrom_61 : decode cX3_takeFrom 61 = .ok (.bipush 24, 2) := by decide +kernel
theorem dX3_takeFrom_63 : decode cX3_takeFrom 63 = .ok (.iload_n 1, 1) := by decide +kernel
theorem dX3_takeFrom_64 : decode cX3_takeFrom 64 = .ok (.imul, 1) := by decide +kernel
theorem dX3_takeFrom_65 : decode cX3_takeFrom 65 = .ok (.iload 4, 2) := by decide +kernel
theorem dX3_takeFrom_67 : decode cX3_takeFrom 67 = .ok (.iadd, 1) := by decide +kernel
theorem dX3_takeFrom_68 : decode cX3_takeFrom 68 = .ok (.aload_n 0, 1) := by decide +kernel
theorem dX3_takeFrom_69 : decode cX3_takeFrom 69 = .ok (.iload_n 1, 1) := by decide +kernel
theorem dX3_takeFrom_70 : decode cX3_takeFrom 70 = .ok (.iload 4, 2) := by decide +kernel
theorem dX3_takeFrom_72 : decode cX3_takeFrom 72 = .ok (.iconst 1, 1) := by decide +kernel
theorem dX3_takeFrom_73 : decode cX3_takeFrom 73 = .ok (.iadd, 1) := by decide +kernel
theorem dX3_takeFrom_74 : decode cX3_takeFrom 74 = .ok (.invokevirtual 101, 3) := by decide +kernel
theorem dX3_takeFrom_77 : decode cX3_takeFrom 77 = .ok (.iastore, 1) := by decide +kernel
theorem dX3_takeFrom_78 : decode cX3_takeFrom 78 = .ok (.iinc 4 1, 3) := by decide +kernel
theorem dX3_takeFrom_81 : decode cX3_takeFrom 81 = .ok (.goto (-56), 3) := by decide +kernel
theorem dX3_takeFrom_84 : decode cX3_takeFrom 84 = .ok (.return_, 1) := by decide +kernel
theorem dX3_pile_0 : decode cX3_pile 0 = .ok (.aload_n 0, 1) := by decide +kernel
theorem dX3_pile_1 : decode cX3_pile 1 = .ok (.getfield 54, 3) := by decide +kernel
theorem dX3_pile_4 : decode cX3_pile 4 = .ok (.aload_n 0, 1) := by decide +kernel
theorem dX3_pile_5 : decode cX3_pile 5 = .ok (.getfield 111, 3) := by decide +kernel
theorem dX3_pile_8 : decode cX3_pile 8 = .ok (.iload_n 1, 1) := by decide +kernel
theorem dX3_pile_9 : decode cX3_pile 9 = .ok (.iastore, 1) := by decide +kernel
theorem dX3_pile_10 : decode cX3_pile 10 = .ok (.aload_n 0, 1) := by decide +kernel
theorem dX3_pile_11 : decode cX3_pile 11 = .ok (.getfield 57, 3) := by decide +kernel
theorem dX3_pile_14 : decode cX3_pile 14 = .ok (.aload_n 0, 1) := by decide +kernel
theorem dX3_pile_15 : decode cX3_pile 15 = .ok (.getfield 111, 3) := by decide +kernel
theorem dX3_pile_18 : decode cX3_pile 18 = .ok (.iload_n 2, 1) := by decide +kernel
theorem dX3_pile_19 : decode cX3_pile 19 = .ok (.iastore, 1) := by decide +kernel
theorem dX3_pile_20 : decode cX3_pile 20 = .ok (.aload_n 0, 1) := by decide +kernel
theorem dX3_pile_21 : decode cX3_pile 21 = .ok (.getfield 60, 3) := by decide +kernel
theorem dX3_pile_24 : decode cX3_pile 24 = .ok (.aload_n 0, 1) := by decide +kernel
theorem dX3_pile_25 : decode cX3_pile 25 = .ok (.getfield 111, 3) := by decide +kernel
theorem dX3_pile_28 : decode cX3_pile 28 = .ok (.iload_n 3, 1) := by decide +kernel
theorem dX3_pile_29 : decode cX3_pile 29 = .ok (.iastore, 1) := by decide +kernel
theorem dX3_pile_30 : decode cX3_pile 30 = .ok (.aload_n 0, 1) := by decide +kernel
theorem dX3_pile_31 : decode cX3_pile 31 = .ok (.dup, 1) := by decide +kernel
theorem dX3_pile_32 : decode cX3_pile 32 = .ok (.getfield 111, 3) := by decide +kernel
theorem dX3_pile_35 : decode cX3_pile 35 = .ok (.iconst 1, 1) := by decide +kernel
theorem dX3_pile_36 : decode cX3_pile 36 = .ok (.iadd, 1) := by decide +kernel
theorem dX3_pile_37 : decode cX3_pile 37 = .ok (.putfield 111, 3) := by decide +kernel
theorem dX3_pile_40 : decode cX3_pile 40 = .ok (.return_, 1) := by decide +kernel
theorem dX3_isOneHash_0 : decode cX3_isOneHash 0 = .ok (.iconst 1, 1) := by decide +kernel
theorem dX3_isOneHash_1 : decode cX3_isOneHash 1 = .ok (.istore 4, 2) := by decide +kernel
theorem dX3_isOneHash_3 : decode cX3_isOneHash 3 = .ok (.iload_n 2, 1) := by decide +kernel
theorem dX3_isOneHash_4 : decode cX3_isOneHash 4 = .ok (.iconst 1, 1) := by decide +kernel
theorem dX3_isOneHash_5 : decode cX3_isOneHash 5 = .ok (.iadd, 1) := by decide +kernel
theorem dX3_isOneHash_6 : decode cX3_isOneHash 6 = .ok (.istore 5, 2) := by decide +kernel
theorem dX3_isOneHash_8 : decode cX3_isOneHash 8 = .ok (.iload 5, 2) := by decide +kernel
theorem dX3_isOneHash_10 : decode cX3_isOneHash 10 = .ok (.iload_n 3, 1) := by decide +kernel
theorem dX3_isOneHash_11 : decode cX3_isOneHash 11 = .ok (.if_icmp .ge 45, 3) := by decide +kernel
theorem dX3_isOneHash_14 : decode cX3_isOneHash 14 = .ok (.iload 4, 2) := by decide +kernel
theorem dX3_isOneHash_16 : decode cX3_isOneHash 16 = .ok (.ifCond .eq 31, 3) := by decide +kernel
theorem dX3_isOneHash_19 : decode cX3_isOneHash 19 = .ok (.aload_n 0, 1) := by decide +kernel
theorem dX3_isOneHash_20 : decode cX3_isOneHash 20 = .ok (.aload_n 0, 1) := by decide +kernel
theorem dX3_isOneHash_21 : decode cX3_isOneHash 21 = .ok (.iload_n 1, 1) := by decide +kernel
theorem dX3_isOneHash_22 : decode cX3_isOneHash 22 = .ok (.iload 5, 2) := by decide +kernel
theorem dX3_isOneHash_24 : decode cX3_isOneHash 24 = .ok (.invokevirtual 98, 3) := by decide +kernel
theorem dX3_isOneHash_27 : decode cX3_isOneHash 27 = .ok (.invokevirtual 85, 3) := by decide +kernel
theorem dX3_isOneHash_30 : decode cX3_isOneHash 30 = .ok (.aload_n 0, 1) := by decide +kernel
theorem dX3_isOneHash_31 : decode cX3_isOneHash 31 = .ok (.aload_n 0, 1) := by decide +kernel
theorem dX3_isOneHash_32 : decode cX3_isOneHash 32 = .ok (.iload_n 1, 1) := by decide +kernel
theorem dX3_isOneHash_33 : decode cX3_isOneHash 33 = .ok (.iload_n 2, 1) := by decide +kernel
theorem dX3_isOneHash_34 : decode cX3_isOneHash 34 = .ok (.invokevirtual 98, 3) := by decide +kernel
theorem dX3_isOneHash_37 : decode cX3_isOneHash 37 = .ok (.invokevirtual 85, 3) := by decide +kernel
theorem dX3_isOneHash_40 : decode cX3_isOneHash 40 = .ok (.if_icmp .ne 7, 3) := by decide +kernel
theorem dX3_isOneHash_43 : decode cX3_isOneHash 43 = .ok (.iconst 1, 1) := by decide +kernel
theorem dX3_isOneHash_44 : decode cX3_isOneHash 44 = .ok (.goto 4, 3) := by decide +kernel
theorem dX3_isOneHash_47 : decode cX3_isOneHash 47 = .ok (.iconst 0, 1) := by decide +kernel
theorem dX3_isOneHash_48 : decode cX3_isOneHash 48 = .ok (.istore 4, 2) := by decide +kernel
theorem dX3_isOneHash_50 : decode cX3_isOneHash 50 = .ok (.iinc 5 1, 3) := by decide +kernel
theorem dX3_isOneHash_53 : decode cX3_isOneHash 53 = .ok (.goto (-45), 3) := by decide +kernel
theorem dX3_isOneHash_56 : decode cX3_isOneHash 56 = .ok (.iload 4, 2) := by decide +kernel
theorem dX3_isOneHash_58 : decode cX3_isOneHash 58 = .ok (.ireturn, 1) := by decide +kernel
theorem dX3_partAt_0 : decode cX3_partAt 0 = .ok (.aload_n 0, 1) := by decide +kernel
theorem dX3_partAt_1 : decode cX3_partAt 1 = .ok (.aload_n 0, 1) := by decide +kernel
theorem dX3_partAt_2 : decode cX3_partAt 2 = .ok (.iload_n 1, 1) := by decide +kernel
theorem dX3_partAt_3 : decode cX3_partAt 3 = .ok (.iload_n 2, 1) := by decide +kernel
theorem dX3_partAt_4 : decode cX3_partAt 4 = .ok (.invokevirtual 98, 3) := by decide +kernel
theorem dX3_partAt_7 : decode cX3_partAt 7 = .ok (.invokevirtual 85, 3) := by decide +kernel
theorem dX3_partAt_10 : decode cX3_partAt 10 = .ok (.iload_n 3, 1) := by decide +kernel
theorem dX3_partAt_11 : decode cX3_partAt 11 = .ok (.invokestatic 94, 3) := by decide +kernel
theorem dX3_partAt_14 : decode cX3_partAt 14 = .ok (.ireturn, 1) := by decide +kernel
theorem dX3_layNodes_0 : decode cX3_layNodes 0 = .ok (.aload_n 0, 1) := by decide +kernel
theorem dX3_layNodes_1 : decode cX3_layNodes 1 = .ok (.getfield 32, 3) := by decide +kernel
theorem dX3_layNodes_4 : decode cX3_layNodes 4 = .ok (.iload_n 1, 1) := by decide +kernel
theorem dX3_layNodes_5 : decode cX3_layNodes 5 = .ok (.iconst 0, 1) := by decide +kernel
theorem dX3_layNodes_6 : decode cX3_layNodes 6 = .ok (.iastore, 1) := by decide +kernel
theorem dX3_layNodes_7 : decode cX3_layNodes 7 = .ok (.aload_n 0, 1) := by decide +kernel
theorem dX3_layNodes_8 : decode cX3_layNodes 8 = .ok (.iconst 0, 1) := by decide +kernel
theorem dX3_layNodes_9 : decode cX3_layNodes 9 = .ok (.putfield 111, 3) := by decide +kernel
theorem dX3_layNodes_12 : decode cX3_layNodes 12 = .ok (.aload_n 0, 1) := by decide +kernel
theorem dX3_layNodes_13 : decode cX3_layNodes 13 = .ok (.getfield 23, 3) := by decide +kernel
theorem dX3_layNodes_16 : decode cX3_layNodes 16 = .ok (.iload_n 1, 1) := by decide +kernel
theorem dX3_layNodes_17 : decode cX3_layNodes 17 = .ok (.iaload, 1) := by decide +kernel
theorem dX3_layNodes_18 : decode cX3_layNodes 18 = .ok (.ifCond .le 15, 3) := by decide +kernel
theorem dX3_layNodes_21 : decode cX3_layNodes 21 = .ok (.aload_n 0, 1) := by decide +kernel
theorem dX3_layNodes_22 : decode cX3_layNodes 22 = .ok (.iconst 0, 1) := by decide +kernel
theorem dX3_layNodes_23 : decode cX3_layNodes 23 = .ok (.aload_n 0, 1) := by decide +kernel
theorem dX3_layNodes_24 : decode cX3_layNodes 24 = .ok (.getfield 23, 3) := by decide +kernel
theorem dX3_layNodes_27 : decode cX3_layNodes 27 = .ok (.iload_n 1, 1) := by decide +kernel
theorem dX3_layNodes_28 : decode cX3_layNodes 28 = .ok (.iaload, 1) := by decide +kernel
theorem dX3_layNodes_29 : decode cX3_layNodes 29 = .ok (.iconst 0, 1) := by decide +kernel
theorem dX3_layNodes_30 : decode cX3_layNodes 30 = .ok (.invokevirtual 114, 3) := by decide +kernel
theorem dX3_layNodes_33 : decode cX3_layNodes 33 = .ok (.aload_n 0, 1) := by decide +kernel
theorem dX3_layNodes_34 : decode cX3_layNodes 34 = .ok (.getfield 111, 3) := by decide +kernel
theorem dX3_layNodes_37 : decode cX3_layNodes 37 = .ok (.ifCond .le 48, 3) := by decide +kernel
theorem dX3_layNodes_40 : decode cX3_layNodes 40 = .ok (.aload_n 0, 1) := by decide +kernel
theorem dX3_layNodes_41 : decode cX3_layNodes 41 = .ok (.dup, 1) := by decide +kernel
theorem dX3_layNodes_42 : decode cX3_layNodes 42 = .ok (.getfield 111, 3) := by decide +kernel
theorem dX3_layNodes_45 : decode cX3_layNodes 45 = .ok (.iconst 1, 1) := by decide +kernel
theorem dX3_layNodes_46 : decode cX3_layNodes 46 = .ok (.isub, 1) := by decide +kernel
theorem dX3_layNodes_47 : decode cX3_layNodes 47 = .ok (.putfield 111, 3) := by decide +kernel
theorem dX3_layNodes_50 : decode cX3_layNodes 50 = .ok (.aload_n 0, 1) := by decide +kernel
theorem dX3_layNodes_51 : decode cX3_layNodes 51 = .ok (.iload_n 1, 1) := by decide +kernel
theorem dX3_layNodes_52 : decode cX3_layNodes 52 = .ok (.aload_n 0, 1) := by decide +kernel
theorem dX3_layNodes_53 : decode cX3_layNodes 53 = .ok (.getfield 54, 3) := by decide +kernel
theorem dX3_layNodes_56 : decode cX3_layNodes 56 = .ok (.aload_n 0, 1) := by decide +kernel
theorem dX3_layNodes_57 : decode cX3_layNodes 57 = .ok (.getfield 111, 3) := by decide +kernel
theorem dX3_layNodes_60 : decode cX3_layNodes 60 = .ok (.iaload, 1) := by decide +kernel
theorem dX3_layNodes_61 : decode cX3_layNodes 61 = .ok (.aload_n 0, 1) := by decide +kernel
theorem dX3_layNodes_62 : decode cX3_layNodes 62 = .ok (.getfield 57, 3) := by decide +kernel
theorem dX3_layNodes_65 : decode cX3_layNodes 65 = .ok (.aload_n 0, 1) := by decide +kernel
theorem dX3_layNodes_66 : decode cX3_layNodes 66 = .ok (.getfield 111, 3) := by decide +kernel
theorem dX3_layNodes_69 : decode cX3_layNodes 69 = .ok (.iaload, 1) := by decide +kernel
theorem dX3_layNodes_70 : decode cX3_layNodes 70 = .ok (.aload_n 0, 1) := by decide +kernel
theorem dX3_layNodes_71 : decode cX3_layNodes 71 = .ok (.getfield 60, 3) := by decide +kernel
theorem dX3_layNodes_74 : decode cX3_layNodes 74 = .ok (.aload_n 0, 1) := by decide +kernel
theorem dX3_layNodes_75 : decode cX3_layNodes 75 = .ok (.getfield 111, 3) := by decide +kernel
theorem dX3_layNodes_78 : decode cX3_layNodes 78 = .ok (.iaload, 1) := by decide +kernel
theorem dX3_layNodes_79 : decode cX3_layNodes 79 = .ok (.invokevirtual 118, 3) := by decide +kernel
theorem dX3_layNodes_82 : decode cX3_layNodes 82 = .ok (.goto (-49), 3) := by decide +kernel
theorem dX3_layNodes_85 : decode cX3_layNodes 85 = .ok (.return_, 1) := by decide +kernel
theorem dX3_layNode_0 : decode cX3_layNode 0 = .ok (.bipush 96, 2) := by decide +kernel
theorem dX3_layNode_2 : decode cX3_layNode 2 = .ok (.iload_n 1, 1) := by decide +kernel
theorem dX3_layNode_3 : decode cX3_layNode 3 = .ok (.imul, 1) := by decide +kernel
theorem dX3_layNode_4 : decode cX3_layNode 4 = .ok (.aload_n 0, 1) := by decide +kernel
theorem dX3_layNode_5 : decode cX3_layNode 5 = .ok (.getfield 32, 3) := by decide +kernel
theorem dX3_layNode_8 : decode cX3_layNode 8 = .ok (.iload_n 1, 1) := by decide +kernel
theorem dX3_layNode_9 : decode cX3_layNode 9 = .ok (.iaload, 1) := by decide +kernel
theorem dX3_layNode_10 : decode cX3_layNode 10 = .ok (.iadd, 1) := by decide +kernel
theorem dX3_layNode_11 : decode cX3_layNode 11 = .ok (.istore 5, 2) := by decide +kernel
theorem dX3_layNode_13 : decode cX3_layNode 13 = .ok (.aload_n 0, 1) := by decide +kernel
theorem dX3_layNode_14 : decode cX3_layNode 14 = .ok (.getfield 35, 3) := by decide +kernel
theorem dX3_layNode_17 : decode cX3_layNode 17 = .ok (.iload 5, 2) := by decide +kernel
theorem dX3_layNode_19 : decode cX3_layNode 19 = .ok (.iload_n 3, 1) := by decide +kernel
theorem dX3_layNode_20 : decode cX3_layNode 20 = .ok (.iload_n 2, 1) := by decide +kernel
theorem dX3_layNode_21 : decode cX3_layNode 21 = .ok (.isub, 1) := by decide +kernel
theorem dX3_layNode_22 : decode cX3_layNode 22 = .ok (.iconst 1, 1) := by decide +kernel
theorem dX3_layNode_23 : decode cX3_layNode 23 = .ok (.if_icmp .ne 7, 3) := by decide +kernel
theorem dX3_layNode_26 : decode cX3_layNode 26 = .ok (.iconst 0, 1) := by decide +kernel
theorem dX3_layNode_27 : decode cX3_layNode 27 = .ok (.goto 18, 3) := by decide +kernel
theorem dX3_layNode_30 : decode cX3_layNode 30 = .ok (.aload_n 0, 1) := by decide +kernel
theorem dX3_layNode_31 : decode cX3_layNode 31 = .ok (.iload_n 1, 1) := by decide +kernel
theorem dX3_layNode_32 : decode cX3_layNode 32 = .ok (.iload_n 2, 1) := by decide +kernel
theorem dX3_layNode_33 : decode cX3_layNode 33 = .ok (.iload_n 3, 1) := by decide +kernel
theorem dX3_layNode_34 : decode cX3_layNode 34 = .ok (.invokevirtual 122, 3) := by decide +kernel
theorem dX3_layNode_37 : decode cX3_layNode 37 = .ok (.ifCond .eq 7, 3) := by decide +kernel
theorem dX3_layNode_40 : decode cX3_layNode 40 = .ok (.iconst 1, 1) := by decide +kernel
theorem dX3_layNode_41 : decode cX3_layNode 41 = .ok (.goto 4, 3) := by decide +kernel
theorem dX3_layNode_44 : decode cX3_layNode 44 = .ok (.iconst 2, 1) := by decide +kernel
theorem dX3_layNode_45 : decode cX3_layNode 45 = .ok (.iastore, 1) := by decide +kernel
theorem dX3_layNode_46 : decode cX3_layNode 46 = .ok (.aload_n 0, 1) := by decide +kernel
theorem dX3_layNode_47 : decode cX3_layNode 47 = .ok (.getfield 38, 3) := by decide +kernel
theorem dX3_layNode_50 : decode cX3_layNode 50 = .ok (.iload 5, 2) := by decide +kernel
theorem dX3_layNode_52 : decode cX3_layNode 52 = .ok (.iload 4, 2) := by decide +kernel
theorem dX3_layNode_54 : decode cX3_layNode 54 = .ok (.iastore, 1) := by decide +kernel
theorem dX3_layNode_55 : decode cX3_layNode 55 = .ok (.aload_n 0, 1) := by decide +kernel
theorem dX3_layNode_56 : decode cX3_layNode 56 = .ok (.getfield 41, 3) := by decide +kernel
theorem dX3_layNode_59 : decode cX3_layNode 59 = .ok (.iload 5, 2) := by decide +kernel
theorem dX3_layNode_61 : decode cX3_layNode 61 = .ok (.iload_n 2, 1) := by decide +kernel
theorem dX3_layNode_62 : decode cX3_layNode 62 = .ok (.iastore, 1) := by decide +kernel
theorem dX3_layNode_63 : decode cX3_layNode 63 = .ok (.aload_n 0, 1) := by decide +kernel
theorem dX3_layNode_64 : decode cX3_layNode 64 = .ok (.getfield 44, 3) := by decide +kernel
theorem dX3_layNode_67 : decode cX3_layNode 67 = .ok (.iload 5, 2) := by decide +kernel
theorem dX3_layNode_69 : decode cX3_layNode 69 = .ok (.iload_n 3, 1) := by decide +kernel
theorem dX3_layNode_70 : decode cX3_layNode 70 = .ok (.iload_n 2, 1) := by decide +kernel
theorem dX3_layNode_71 : decode cX3_layNode 71 = .ok (.isub, 1) := by decide +kernel
theorem dX3_layNode_72 : decode cX3_layNode 72 = .ok (.iastore, 1) := by decide +kernel
theorem dX3_layNode_73 : decode cX3_layNode 73 = .ok (.aload_n 0, 1) := by decide +kernel
theorem dX3_layNode_74 : decode cX3_layNode 74 = .ok (.getfield 47, 3) := by decide +kernel
theorem dX3_layNode_77 : decode cX3_layNode 77 = .ok (.iload 5, 2) := by decide +kernel
theorem dX3_layNode_79 : decode cX3_layNode 79 = .ok (.iconst (-1), 1) := by decide +kernel
theorem dX3_layNode_80 : decode cX3_layNode 80 = .ok (.iastore, 1) := by decide +kernel
theorem dX3_layNode_81 : decode cX3_layNode 81 = .ok (.aload_n 0, 1) := by decide +kernel
theorem dX3_layNode_82 : decode cX3_layNode 82 = .ok (.getfield 50, 3) := by decide +kernel
theorem dX3_layNode_85 : decode cX3_layNode 85 = .ok (.iload 5, 2) := by decide +kernel
theorem dX3_layNode_87 : decode cX3_layNode 87 = .ok (.iconst 0, 1) := by decide +kernel
theorem dX3_layNode_88 : decode cX3_layNode 88 = .ok (.bastore, 1) := by decide +kernel
theorem dX3_layNode_89 : decode cX3_layNode 89 = .ok (.aload_n 0, 1) := by decide +kernel
theorem dX3_layNode_90 : decode cX3_layNode 90 = .ok (.getfield 32, 3) := by decide +kernel
theorem dX3_layNode_93 : decode cX3_layNode 93 = .ok (.iload_n 1, 1) := by decide +kernel
theorem dX3_layNode_94 : decode cX3_layNode 94 = .ok (.dup2, 1) := by decide +kernel
theorem dX3_layNode_95 : decode cX3_layNode 95 = .ok (.iaload, 1) := by decide +kernel
theorem dX3_layNode_96 : decode cX3_layNode 96 = .ok (.iconst 1, 1) := by decide +kernel
theorem dX3_layNode_97 : decode cX3_layNode 97 = .ok (.iadd, 1) := by decide +kernel
theorem dX3_layNode_98 : decode cX3_layNode 98 = .ok (.iastore, 1) := by decide +kernel
theorem dX3_layNode_99 : decode cX3_layNode 99 = .ok (.aload_n 0, 1) := by decide +kernel
theorem dX3_layNode_100 : decode cX3_layNode 100 = .ok (.getfield 35, 3) := by decide +kernel
theorem dX3_layNode_103 : decode cX3_layNode 103 = .ok (.iload 5, 2) := by decide +kernel
theorem dX3_layNode_105 : decode cX3_layNode 105 = .ok (.iaload, 1) := by decide +kernel
theorem dX3_layNode_106 : decode cX3_layNode 106 = .ok (.iconst 2, 1) := by decide +kernel
theorem dX3_layNode_107 : decode cX3_layNode 107 = .ok (.if_icmp .ne 74, 3) := by decide +kernel
theorem dX3_layNode_110 : decode cX3_layNode 110 = .ok (.iload_n 3, 1) := by decide +kernel
theorem dX3_layNode_111 : decode cX3_layNode 111 = .ok (.istore 6, 2) := by decide +kernel
theorem dX3_layNode_113 : decode cX3_layNode 113 = .ok (.iload 6, 2) := by decide +kernel
theorem dX3_layNode_115 : decode cX3_layNode 115 = .ok (.iload_n 2, 1) := by decide +kernel
theorem dX3_layNode_116 : decode cX3_layNode 116 = .ok (.if_icmp .le 65, 3) := by decide +kernel
theorem dX3_layNode_119 : decode cX3_layNode 119 = .ok (.iload 6, 2) := by decide +kernel
theorem dX3_layNode_121 : decode cX3_layNode 121 = .ok (.iconst 1, 1) := by decide +kernel
theorem dX3_layNode_122 : decode cX3_layNode 122 = .ok (.isub, 1) := by decide +kernel
theorem dX3_layNode_123 : decode cX3_layNode 123 = .ok (.istore 7, 2) := by decide +kernel
theorem dX3_layNode_125 : decode cX3_layNode 125 = .ok (.iload 7, 2) := by decide +kernel
theorem dX3_layNode_127 : decode cX3_layNode 127 = .ok (.iload_n 2, 1) := by decide +kernel
theorem dX3_layNode_128 : decode cX3_layNode 128 = .ok (.if_icmp .le 34, 3) := by decide +kernel
theorem dX3_layNode_131 : decode cX3_layNode 131 = .ok (.aload_n 0, 1) := by decide +kernel
theorem dX3_layNode_132 : decode cX3_layNode 132 = .ok (.iload_n 1, 1) := by decide +kernel
theorem dX3_layNode_133 : decode cX3_layNode 133 = .ok (.iload 7, 2) := by decide +kernel
theorem dX3_layNode_135 : decode cX3_layNode 135 = .ok (.iconst 1, 1) := by decide +kernel
theorem dX3_layNode_136 : decode cX3_layNode 136 = .ok (.isub, 1) := by decide +kernel
theorem dX3_layNode_137 : decode cX3_layNode 137 = .ok (.iload 4, 2) := by decide +kernel
theorem dX3_layNode_139 : decode cX3_layNode 139 = .ok (.invokevirtual 125, 3) := by decide +kernel
theorem dX3_layNode_142 : decode cX3_layNode 142 = .ok (.aload_n 0, 1) := by decide +kernel
theorem dX3_layNode_143 : decode cX3_layNode 143 = .ok (.iload_n 1, 1) := by decide +kernel
theorem dX3_layNode_144 : decode cX3_layNode 144 = .ok (.iload 6, 2) := by decide +kernel
theorem dX3_layNode_146 : decode cX3_layNode 146 = .ok (.iconst 1, 1) := by decide +kernel
theorem dX3_layNode_147 : decode cX3_layNode 147 = .ok (.isub, 1) := by decide +kernel
theorem dX3_layNode_148 : decode cX3_layNode 148 = .ok (.iload 4, 2) := by decide +kernel
theorem dX3_layNode_150 : decode cX3_layNode 150 = .ok (.invokevirtual 125, 3) := by decide +kernel
theorem dX3_layNode_153 : decode cX3_layNode 153 = .ok (.if_icmp .ne 9, 3) := by decide +kernel
theorem dX3_layNode_156 : decode cX3_layNode 156 = .ok (.iinc 7 (-1), 3) := by decide +kernel
theorem dX3_layNode_159 : decode cX3_layNode 159 = .ok (.goto (-34), 3) := by decide +kernel
theorem dX3_layNode_162 : decode cX3_layNode 162 = .ok (.aload_n 0, 1) := by decide +kernel
theorem dX3_layNode_163 : decode cX3_layNode 163 = .ok (.iload 7, 2) := by decide +kernel
theorem dX3_layNode_165 : decode cX3_layNode 165 = .ok (.iload 6, 2) := by decide +kernel
theorem dX3_layNode_167 : decode cX3_layNode 167 = .ok (.iload 4, 2) := by decide +kernel
theorem dX3_layNode_169 : decode cX3_layNode 169 = .ok (.iconst 1, 1) := by decide +kernel
theorem dX3_layNode_170 : decode cX3_layNode 170 = .ok (.iadd, 1) := by decide +kernel
theorem dX3_layNode_171 : decode cX3_layNode 171 = .ok (.invokevirtual 114, 3) := by decide +kernel
theorem dX3_layNode_174 : decode cX3_layNode 174 = .ok (.iload 7, 2) := by decide +kernel
theorem dX3_layNode_176 : decode cX3_layNode 176 = .ok (.istore 6, 2) := by decide +kernel
theorem dX3_layNode_178 : decode cX3_layNode 178 = .ok (.goto (-65), 3) := by decide +kernel
theorem dX3_layNode_181 : decode cX3_layNode 181 = .ok (.return_, 1) := by decide +kernel
theorem dX3_widthOf_0 : decode cX3_widthOf 0 = .ok (.aload_n 0, 1) := by decide +kernel
theorem dX3_widthOf_1 : decode cX3_widthOf 1 = .ok (.getfield 41, 3) := by decide +kernel
theorem dX3_widthOf_4 : decode cX3_widthOf 4 = .ok (.bipush 96, 2) := by decide +kernel
theorem dX3_widthOf_6 : decode cX3_widthOf 6 = .ok (.iload_n 1, 1) := by decide +kernel
theorem dX3_widthOf_7 : decode cX3_widthOf 7 = .ok (.imul, 1) := by decide +kernel
theorem dX3_widthOf_8 : decode cX3_widthOf 8 = .ok (.iload_n 2, 1) := by decide +kernel
theorem dX3_widthOf_9 : decode cX3_widthOf 9 = .ok (.iadd, 1) := by decide +kernel
theorem dX3_widthOf_10 : decode cX3_widthOf 10 = .ok (.iaload, 1) := by decide +kernel
theorem dX3_widthOf_11 : decode cX3_widthOf 11 = .ok (.aload_n 0, 1) := by decide +kernel
theorem dX3_widthOf_12 : decode cX3_widthOf 12 = .ok (.getfield 44, 3) := by decide +kernel
theorem dX3_widthOf_15 : decode cX3_widthOf 15 = .ok (.bipush 96, 2) := by decide +kernel
theorem dX3_widthOf_17 : decode cX3_widthOf 17 = .ok (.iload_n 1, 1) := by decide +kernel
theorem dX3_widthOf_18 : decode cX3_widthOf 18 = .ok (.imul, 1) := by decide +kernel
theorem dX3_widthOf_19 : decode cX3_widthOf 19 = .ok (.iload_n 2, 1) := by decide +kernel
theorem dX3_widthOf_20 : decode cX3_widthOf 20 = .ok (.iadd, 1) := by decide +kernel
theorem dX3_widthOf_21 : decode cX3_widthOf 21 = .ok (.iaload, 1) := by decide +kernel
theorem dX3_widthOf_22 : decode cX3_widthOf 22 = .ok (.iadd, 1) := by decide +kernel
theorem dX3_widthOf_23 : decode cX3_widthOf 23 = .ok (.istore_n 3, 1) := by decide +kernel
theorem dX3_widthOf_24 : decode cX3_widthOf 24 = .ok (.iload_n 2, 1) := by decide +kernel
theorem dX3_widthOf_25 : decode cX3_widthOf 25 = .ok (.iconst 1, 1) := by decide +kernel
theorem dX3_widthOf_26 : decode cX3_widthOf 26 = .ok (.iadd, 1) := by decide +kernel
theorem dX3_widthOf_27 : decode cX3_widthOf 27 = .ok (.istore 4, 2) := by decide +kernel
theorem dX3_widthOf_29 : decode cX3_widthOf 29 = .ok (.iload 4, 2) := by decide +kernel
theorem dX3_widthOf_31 : decode cX3_widthOf 31 = .ok (.aload_n 0, 1) := by decide +kernel
theorem dX3_widthOf_32 : decode cX3_widthOf 32 = .ok (.getfield 32, 3) := by decide +kernel
theorem dX3_widthOf_35 : decode cX3_widthOf 35 = .ok (.iload_n 1, 1) := by decide +kernel
theorem dX3_widthOf_36 : decode cX3_widthOf 36 = .ok (.iaload, 1) := by decide +kernel
theorem dX3_widthOf_37 : decode cX3_widthOf 37 = .ok (.if_icmp .ge 25, 3) := by decide +kernel
theorem dX3_widthOf_40 : decode cX3_widthOf 40 = .ok (.aload_n 0, 1) := by decide +kernel
theorem dX3_widthOf_41 : decode cX3_widthOf 41 = .ok (.getfield 41, 3) := by decide +kernel
theorem dX3_widthOf_44 : decode cX3_widthOf 44 = .ok (.bipush 96, 2) := by decide +kernel
theorem dX3_widthOf_46 : decode cX3_widthOf 46 = .ok (.iload_n 1, 1) := by decide +kernel
theorem dX3_widthOf_47 : decode cX3_widthOf 47 = .ok (.imul, 1) := by decide +kernel
theorem dX3_widthOf_48 : decode cX3_widthOf 48 = .ok (.iload 4, 2) := by decide +kernel
theorem dX3_widthOf_50 : decode cX3_widthOf 50 = .ok (.iadd, 1) := by decide +kernel
theorem dX3_widthOf_51 : decode cX3_widthOf 51 = .ok (.iaload, 1) := by decide +kernel
theorem dX3_widthOf_52 : decode cX3_widthOf 52 = .ok (.iload_n 3, 1) := by decide +kernel
theorem dX3_widthOf_53 : decode cX3_widthOf 53 = .ok (.if_icmp .ge 9, 3) := by decide +kernel
theorem dX3_widthOf_56 : decode cX3_widthOf 56 = .ok (.iinc 4 1, 3) := by decide +kernel
theorem dX3_widthOf_59 : decode cX3_widthOf 59 = .ok (.goto (-30), 3) := by decide +kernel
theorem dX3_widthOf_62 : decode cX3_widthOf 62 = .ok (.iload 4, 2) := by decide +kernel
theorem dX3_widthOf_64 : decode cX3_widthOf 64 = .ok (.iload_n 2, 1) := by decide +kernel
theorem dX3_widthOf_65 : decode cX3_widthOf 65 = .ok (.isub, 1) := by decide +kernel
theorem dX3_widthOf_66 : decode cX3_widthOf 66 = .ok (.ireturn, 1) := by decide +kernel
theorem dX3_isLike_0 : decode cX3_isLike 0 = .ok (.bipush 96, 2) := by decide +kernel
theorem dX3_isLike_2 : decode cX3_isLike 2 = .ok (.iload_n 1, 1) := by decide +kernel
theorem dX3_isLike_3 : decode cX3_isLike 3 = .ok (.imul, 1) := by decide +kernel
theorem dX3_isLike_4 : decode cX3_isLike 4 = .ok (.iload_n 2, 1) := by decide +kernel
theorem dX3_isLike_5 : decode cX3_isLike 5 = .ok (.iadd, 1) := by decide +kernel
theorem dX3_isLike_6 : decode cX3_isLike 6 = .ok (.istore 5, 2) := by decide +kernel
theorem dX3_isLike_8 : decode cX3_isLike 8 = .ok (.bipush 96, 2) := by decide +kernel
theorem dX3_isLike_10 : decode cX3_isLike 10 = .ok (.iload_n 3, 1) := by decide +kernel
theorem dX3_isLike_11 : decode cX3_isLike 11 = .ok (.imul, 1) := by decide +kernel
theorem dX3_isLike_12 : decode cX3_isLike 12 = .ok (.iload 4, 2) := by decide +kernel
theorem dX3_isLike_14 : decode cX3_isLike 14 = .ok (.iadd, 1) := by decide +kernel
theorem dX3_isLike_15 : decode cX3_isLike 15 = .ok (.istore 6, 2) := by decide +kernel
theorem dX3_isLike_17 : decode cX3_isLike 17 = .ok (.aload_n 0, 1) := by decide +kernel
theorem dX3_isLike_18 : decode cX3_isLike 18 = .ok (.getfield 35, 3) := by decide +kernel
theorem dX3_isLike_21 : decode cX3_isLike 21 = .ok (.iload 5, 2) := by decide +kernel
theorem dX3_isLike_23 : decode cX3_isLike 23 = .ok (.iaload, 1) := by decide +kernel
theorem dX3_isLike_24 : decode cX3_isLike 24 = .ok (.aload_n 0, 1) := by decide +kernel
theorem dX3_isLike_25 : decode cX3_isLike 25 = .ok (.getfield 35, 3) := by decide +kernel
theorem dX3_isLike_28 : decode cX3_isLike 28 = .ok (.iload 6, 2) := by decide +kernel
theorem dX3_isLike_30 : decode cX3_isLike 30 = .ok (.iaload, 1) := by decide +kernel
theorem dX3_isLike_31 : decode cX3_isLike 31 = .ok (.if_icmp .ne 52, 3) := by decide +kernel
theorem dX3_isLike_34 : decode cX3_isLike 34 = .ok (.aload_n 0, 1) := by decide +kernel
theorem dX3_isLike_35 : decode cX3_isLike 35 = .ok (.getfield 44, 3) := by decide +kernel
theorem dX3_isLike_38 : decode cX3_isLike 38 = .ok (.iload 5, 2) := by decide +kernel
theorem dX3_isLike_40 : decode cX3_isLike 40 = .ok (.iaload, 1) := by decide +kernel
theorem dX3_isLike_41 : decode cX3_isLike 41 = .ok (.aload_n 0, 1) := by decide +kernel
theorem dX3_isLike_42 : decode cX3_isLike 42 = .ok (.getfield 44, 3) := by decide +kernel
theorem dX3_isLike_45 : decode cX3_isLike 45 = .ok (.iload 6, 2) := by decide +kernel
theorem dX3_isLike_47 : decode cX3_isLike 47 = .ok (.iaload, 1) := by decide +kernel
theorem dX3_isLike_48 : decode cX3_isLike 48 = .ok (.if_icmp .ne 35, 3) := by decide +kernel
theorem dX3_isLike_51 : decode cX3_isLike 51 = .ok (.aload_n 0, 1) := by decide +kernel
theorem dX3_isLike_52 : decode cX3_isLike 52 = .ok (.getfield 35, 3) := by decide +kernel
theorem dX3_isLike_55 : decode cX3_isLike 55 = .ok (.iload 5, 2) := by decide +kernel
theorem dX3_isLike_57 : decode cX3_isLike 57 = .ok (.iaload, 1) := by decide +kernel
theorem dX3_isLike_58 : decode cX3_isLike 58 = .ok (.iconst 2, 1) := by decide +kernel
theorem dX3_isLike_59 : decode cX3_isLike 59 = .ok (.if_icmp .ne 20, 3) := by decide +kernel
theorem dX3_isLike_62 : decode cX3_isLike 62 = .ok (.aload_n 0, 1) := by decide +kernel
theorem dX3_isLike_63 : decode cX3_isLike 63 = .ok (.getfield 38, 3) := by decide +kernel
theorem dX3_isLike_66 : decode cX3_isLike 66 = .ok (.iload 5, 2) := by decide +kernel
theorem dX3_isLike_68 : decode cX3_isLike 68 = .ok (.iaload, 1) := by decide +kernel
theorem dX3_isLike_69 : decode cX3_isLike 69 = .ok (.aload_n 0, 1) := by decide +kernel
theorem dX3_isLike_70 : decode cX3_isLike 70 = .ok (.getfield 38, 3) := by decide +kernel
theorem dX3_isLike_73 : decode cX3_isLike 73 = .ok (.iload 6, 2) := by decide +kernel
theorem dX3_isLike_75 : decode cX3_isLike 75 = .ok (.iaload, 1) := by decide +kernel
theorem dX3_isLike_76 : decode cX3_isLike 76 = .ok (.if_icmp .ne 7, 3) := by decide +kernel
theorem dX3_isLike_79 : decode cX3_isLike 79 = .ok (.iconst 1, 1) := by decide +kernel
theorem dX3_isLike_80 : decode cX3_isLike 80 = .ok (.goto 4, 3) := by decide +kernel
theorem dX3_isLike_83 : decode cX3_isLike 83 = .ok (.iconst 0, 1) := by decide +kernel
theorem dX3_isLike_84 : decode cX3_isLike 84 = .ok (.istore 7, 2) := by decide +kernel
theorem dX3_isLike_86 : decode cX3_isLike 86 = .ok (.iconst 0, 1) := by decide +kernel
theorem dX3_isLike_87 : decode cX3_isLike 87 = .ok (.istore 8, 2) := by decide +kernel
theorem dX3_isLike_89 : decode cX3_isLike 89 = .ok (.iload 8, 2) := by decide +kernel
theorem dX3_isLike_91 : decode cX3_isLike 91 = .ok (.aload_n 0, 1) := by decide +kernel
theorem dX3_isLike_92 : decode cX3_isLike 92 = .ok (.getfield 44, 3) := by decide +kernel
theorem dX3_isLike_95 : decode cX3_isLike 95 = .ok (.iload 5, 2) := by decide +kernel
theorem dX3_isLike_97 : decode cX3_isLike 97 = .ok (.iaload, 1) := by decide +kernel
theorem dX3_isLike_98 : decode cX3_isLike 98 = .ok (.if_icmp .ge 87, 3) := by decide +kernel
theorem dX3_isLike_101 : decode cX3_isLike 101 = .ok (.iload 7, 2) := by decide +kernel
theorem dX3_isLike_103 : decode cX3_isLike 103 = .ok (.ifCond .eq 82, 3) := by decide +kernel
theorem dX3_isLike_106 : decode cX3_isLike 106 = .ok (.aload_n 0, 1) := by decide +kernel
theorem dX3_isLike_107 : decode cX3_isLike 107 = .ok (.iload_n 1, 1) := by decide +kernel
theorem dX3_isLike_108 : decode cX3_isLike 108 = .ok (.aload_n 0, 1) := by decide +kernel
theorem dX3_isLike_109 : decode cX3_isLike 109 = .ok (.getfield 41, 3) := by decide +kernel
theorem dX3_isLike_112 : decode cX3_isLike 112 = .ok (.iload 5, 2) := by decide +kernel
theorem dX3_isLike_114 : decode cX3_isLike 114 = .ok (.iaload, 1) := by decide +kernel
theorem dX3_isLike_115 : decode cX3_isLike 115 = .ok (.iload 8, 2) := by decide +kernel
theorem dX3_isLike_117 : decode cX3_isLike 117 = .ok (.iadd, 1) := by decide +kernel
theorem dX3_isLike_118 : decode cX3_isLike 118 = .ok (.invokevirtual 98, 3) := by decide +kernel
theorem dX3_isLike_121 : decode cX3_isLike 121 = .ok (.aload_n 0, 1) := by decide +kernel
theorem dX3_isLike_122 : decode cX3_isLike 122 = .ok (.iload_n 3, 1) := by decide +kernel
theorem dX3_isLike_123 : decode cX3_isLike 123 = .ok (.aload_n 0, 1) := by decide +kernel
theorem dX3_isLike_124 : decode cX3_isLike 124 = .ok (.getfield 41, 3) := by decide +kernel
theorem dX3_isLike_127 : decode cX3_isLike 127 = .ok (.iload 6, 2) := by decide +kernel
theorem dX3_isLike_129 : decode cX3_isLike 129 = .ok (.iaload, 1) := by decide +kernel
theorem dX3_isLike_130 : decode cX3_isLike 130 = .ok (.iload 8, 2) := by decide +kernel
theorem dX3_isLike_132 : decode cX3_isLike 132 = .ok (.iadd, 1) := by decide +kernel
theorem dX3_isLike_133 : decode cX3_isLike 133 = .ok (.invokevirtual 98, 3) := by decide +kernel
theorem dX3_isLike_136 : decode cX3_isLike 136 = .ok (.if_icmp .ne 40, 3) := by decide +kernel
theorem dX3_isLike_139 : decode cX3_isLike 139 = .ok (.aload_n 0, 1) := by decide +kernel
theorem dX3_isLike_140 : decode cX3_isLike 140 = .ok (.iload_n 1, 1) := by decide +kernel
theorem dX3_isLike_141 : decode cX3_isLike 141 = .ok (.aload_n 0, 1) := by decide +kernel
theorem dX3_isLike_142 : decode cX3_isLike 142 = .ok (.getfield 41, 3) := by decide +kernel
theorem dX3_isLike_145 : decode cX3_isLike 145 = .ok (.iload 5, 2) := by decide +kernel
theorem dX3_isLike_147 : decode cX3_isLike 147 = .ok (.iaload, 1) := by decide +kernel
theorem dX3_isLike_148 : decode cX3_isLike 148 = .ok (.iload 8, 2) := by decide +kernel
theorem dX3_isLike_150 : decode cX3_isLike 150 = .ok (.iadd, 1) := by decide +kernel
theorem dX3_isLike_151 : decode cX3_isLike 151 = .ok (.invokevirtual 101, 3) := by decide +kernel
theorem dX3_isLike_154 : decode cX3_isLike 154 = .ok (.aload_n 0, 1) := by decide +kernel
theorem dX3_isLike_155 : decode cX3_isLike 155 = .ok (.iload_n 3, 1) := by decide +kernel
theorem dX3_isLike_156 : decode cX3_isLike 156 = .ok (.aload_n 0, 1) := by decide +kernel
theorem dX3_isLike_157 : decode cX3_isLike 157 = .ok (.getfield 41, 3) := by decide +kernel
theorem dX3_isLike_160 : decode cX3_isLike 160 = .ok (.iload 6, 2) := by decide +kernel
theorem dX3_isLike_162 : decode cX3_isLike 162 = .ok (.iaload, 1) := by decide +kernel
theorem dX3_isLike_163 : decode cX3_isLike 163 = .ok (.iload 8, 2) := by decide +kernel
theorem dX3_isLike_165 : decode cX3_isLike 165 = .ok (.iadd, 1) := by decide +kernel
theorem dX3_isLike_166 : decode cX3_isLike 166 = .ok (.invokevirtual 101, 3) := by decide +kernel
theorem dX3_isLike_169 : decode cX3_isLike 169 = .ok (.if_icmp .ne 7, 3) := by decide +kernel
theorem dX3_isLike_172 : decode cX3_isLike 172 = .ok (.iconst 1, 1) := by decide +kernel
theorem dX3_isLike_173 : decode cX3_isLike 173 = .ok (.goto 4, 3) := by decide +kernel
theorem dX3_isLike_176 : decode cX3_isLike 176 = .ok (.iconst 0, 1) := by decide +kernel
theorem dX3_isLike_177 : decode cX3_isLike 177 = .ok (.istore 7, 2) := by decide +kernel
theorem dX3_isLike_179 : decode cX3_isLike 179 = .ok (.iinc 8 1, 3) := by decide +kernel
theorem dX3_isLike_182 : decode cX3_isLike 182 = .ok (.goto (-93), 3) := by decide +kernel
theorem dX3_isLike_185 : decode cX3_isLike 185 = .ok (.iload 7, 2) := by decide +kernel
theorem dX3_isLike_187 : decode cX3_isLike 187 = .ok (.ireturn, 1) := by decide +kernel
theorem dX3_likeIn_0 : decode cX3_likeIn 0 = .ok (.iconst 0, 1) := by decide +kernel
theorem dX3_likeIn_1 : decode cX3_likeIn 1 = .ok (.istore 4, 2) := by decide +kernel
theorem dX3_likeIn_3 : decode cX3_likeIn 3 = .ok (.iload 4, 2) := by decide +kernel
theorem dX3_likeIn_5 : decode cX3_likeIn 5 = .ok (.aload_n 0, 1) := by decide +kernel
theorem dX3_likeIn_6 : decode cX3_likeIn 6 = .ok (.getfield 32, 3) := by decide +kernel
theorem dX3_likeIn_9 : decode cX3_likeIn 9 = .ok (.iload_n 3, 1) := by decide +kernel
theorem dX3_likeIn_10 : decode cX3_likeIn 10 = .ok (.iaload, 1) := by decide +kernel
theorem dX3_likeIn_11 : decode cX3_likeIn 11 = .ok (.if_icmp .ge 24, 3) := by decide +kernel
theorem dX3_likeIn_14 : decode cX3_likeIn 14 = .ok (.aload_n 0, 1) := by decide +kernel
theorem dX3_likeIn_15 : decode cX3_likeIn 15 = .ok (.iload_n 1, 1) := by decide +kernel
theorem dX3_likeIn_16 : decode cX3_likeIn 16 = .ok (.iload_n 2, 1) := by decide +kernel
theorem dX3_likeIn_17 : decode cX3_likeIn 17 = .ok (.iload_n 3, 1) := by decide +kernel
theorem dX3_likeIn_18 : decode cX3_likeIn 18 = .ok (.iload 4, 2) := by decide +kernel
theorem dX3_likeIn_20 : decode cX3_likeIn 20 = .ok (.invokevirtual 129, 3) := by decide +kernel
theorem dX3_likeIn_23 : decode cX3_likeIn 23 = .ok (.ifCond .eq 6, 3) := by decide +kernel
theorem dX3_likeIn_26 : decode cX3_likeIn 26 = .ok (.iload 4, 2) := by decide +kernel
theorem dX3_likeIn_28 : decode cX3_likeIn 28 = .ok (.ireturn, 1) := by decide +kernel
theorem dX3_likeIn_29 : decode cX3_likeIn 29 = .ok (.iinc 4 1, 3) := by decide +kernel
theorem dX3_likeIn_32 : decode cX3_likeIn 32 = .ok (.goto (-29), 3) := by decide +kernel
theorem dX3_likeIn_35 : decode cX3_likeIn 35 = .ok (.iconst (-1), 1) := by decide +kernel
theorem dX3_likeIn_36 : decode cX3_likeIn 36 = .ok (.ireturn, 1) := by decide +kernel
theorem dX3_takeAll_0 : decode cX3_takeAll 0 = .ok (.aload_n 0, 1) := by decide +kernel
theorem dX3_takeAll_1 : decode cX3_takeAll 1 = .ok (.iload_n 1, 1) := by decide +kernel
theorem dX3_takeAll_2 : decode cX3_takeAll 2 = .ok (.iload_n 2, 1) := by decide +kernel
theorem dX3_takeAll_3 : decode cX3_takeAll 3 = .ok (.invokevirtual 133, 3) := by decide +kernel
theorem dX3_takeAll_6 : decode cX3_takeAll 6 = .ok (.istore 5, 2) := by decide +kernel
theorem dX3_takeAll_8 : decode cX3_takeAll 8 = .ok (.iconst 0, 1) := by decide +kernel
theorem dX3_takeAll_9 : decode cX3_takeAll 9 = .ok (.istore 6, 2) := by decide +kernel
theorem dX3_takeAll_11 : decode cX3_takeAll 11 = .ok (.iload 6, 2) := by decide +kernel
theorem dX3_takeAll_13 : decode cX3_takeAll 13 = .ok (.iload 5, 2) := by decide +kernel
theorem dX3_takeAll_15 : decode cX3_takeAll 15 = .ok (.if_icmp .ge 67, 3) := by decide +kernel
theorem dX3_takeAll_18 : decode cX3_takeAll 18 = .ok (.aload_n 0, 1) := by decide +kernel
theorem dX3_takeAll_19 : decode cX3_takeAll 19 = .ok (.getfield 47, 3) := by decide +kernel
theorem dX3_takeAll_22 : decode cX3_takeAll 22 = .ok (.bipush 96, 2) := by decide +kernel
theorem dX3_takeAll_24 : decode cX3_takeAll 24 = .ok (.iload_n 1, 1) := by decide +kernel
theorem dX3_takeAll_25 : decode cX3_takeAll 25 = .ok (.imul, 1) := by decide +kernel
theorem dX3_takeAll_26 : decode cX3_takeAll 26 = .ok (.iload_n 2, 1) := by decide +kernel
theorem dX3_takeAll_27 : decode cX3_takeAll 27 = .ok (.iadd, 1) := by decide +kernel
theorem dX3_takeAll_28 : decode cX3_takeAll 28 = .ok (.iload 6, 2) := by decide +kernel
theorem dX3_takeAll_30 : decode cX3_takeAll 30 = .ok (.iadd, 1) := by decide +kernel
theorem dX3_takeAll_31 : decode cX3_takeAll 31 = .ok (.aload_n 0, 1) := by decide +kernel
theorem dX3_takeAll_32 : decode cX3_takeAll 32 = .ok (.getfield 47, 3) := by decide +kernel
theorem dX3_takeAll_35 : decode cX3_takeAll 35 = .ok (.bipush 96, 2) := by decide +kernel
theorem dX3_takeAll_37 : decode cX3_takeAll 37 = .ok (.iload_n 3, 1) := by decide +kernel
theorem dX3_takeAll_38 : decode cX3_takeAll 38 = .ok (.imul, 1) := by decide +kernel
theorem dX3_takeAll_39 : decode cX3_takeAll 39 = .ok (.iload 4, 2) := by decide +kernel
theorem dX3_takeAll_41 : decode cX3_takeAll 41 = .ok (.iadd, 1) := by decide +kernel
theorem dX3_takeAll_42 : decode cX3_takeAll 42 = .ok (.iload 6, 2) := by decide +kernel
theorem dX3_takeAll_44 : decode cX3_takeAll 44 = .ok (.iadd, 1) := by decide +kernel
theorem dX3_takeAll_45 : decode cX3_takeAll 45 = .ok (.iaload, 1) := by decide +kernel
theorem dX3_takeAll_46 : decode cX3_takeAll 46 = .ok (.iastore, 1) := by decide +kernel
theorem dX3_takeAll_47 : decode cX3_takeAll 47 = .ok (.aload_n 0, 1) := by decide +kernel
theorem dX3_takeAll_48 : decode cX3_takeAll 48 = .ok (.getfield 50, 3) := by decide +kernel
theorem dX3_takeAll_51 : decode cX3_takeAll 51 = .ok (.bipush 96, 2) := by decide +kernel
theorem dX3_takeAll_53 : decode cX3_takeAll 53 = .ok (.iload_n 1, 1) := by decide +kernel
theorem dX3_takeAll_54 : decode cX3_takeAll 54 = .ok (.imul, 1) := by decide +kernel
theorem dX3_takeAll_55 : decode cX3_takeAll 55 = .ok (.iload_n 2, 1) := by decide +kernel
theorem dX3_takeAll_56 : decode cX3_takeAll 56 = .ok (.iadd, 1) := by decide +kernel
theorem dX3_takeAll_57 : decode cX3_takeAll 57 = .ok (.iload 6, 2) := by decide +kernel
theorem dX3_takeAll_59 : decode cX3_takeAll 59 = .ok (.iadd, 1) := by decide +kernel
theorem dX3_takeAll_60 : decode cX3_takeAll 60 = .ok (.aload_n 0, 1) := by decide +kernel
theorem dX3_takeAll_61 : decode cX3_takeAll 61 = .ok (.getfield 50, 3) := by decide +kernel
theorem dX3_takeAll_64 : decode cX3_takeAll 64 = .ok (.bipush 96, 2) := by decide +kernel
theorem dX3_takeAll_66 : decode cX3_takeAll 66 = .ok (.iload_n 3, 1) := by decide +kernel
theorem dX3_takeAll_67 : decode cX3_takeAll 67 = .ok (.imul, 1) := by decide +kernel
theorem dX3_takeAll_68 : decode cX3_takeAll 68 = .ok (.iload 4, 2) := by decide +kernel
theorem dX3_takeAll_70 : decode cX3_takeAll 70 = .ok (.iadd, 1) := by decide +kernel
theorem dX3_takeAll_71 : decode cX3_takeAll 71 = .ok (.iload 6, 2) := by decide +kernel
theorem dX3_takeAll_73 : decode cX3_takeAll 73 = .ok (.iadd, 1) := by decide +kernel
theorem dX3_takeAll_74 : decode cX3_takeAll 74 = .ok (.baload, 1) := by decide +kernel
theorem dX3_takeAll_75 : decode cX3_takeAll 75 = .ok (.bastore, 1) := by decide +kernel
theorem dX3_takeAll_76 : decode cX3_takeAll 76 = .ok (.iinc 6 1, 3) := by decide +kernel
theorem dX3_takeAll_79 : decode cX3_takeAll 79 = .ok (.goto (-68), 3) := by decide +kernel
theorem dX3_takeAll_82 : decode cX3_takeAll 82 = .ok (.iload 5, 2) := by decide +kernel
theorem dX3_takeAll_84 : decode cX3_takeAll 84 = .ok (.ireturn, 1) := by decide +kernel
theorem dX3_make_0 : decode cX3_make 0 = .ok (.aload_n 0, 1) := by decide +kernel
theorem dX3_make_1 : decode cX3_make 1 = .ok (.getfield 47, 3) := by decide +kernel
theorem dX3_make_4 : decode cX3_make 4 = .ok (.iload_n 1, 1) := by decide +kernel
theorem dX3_make_5 : decode cX3_make 5 = .ok (.aload_n 0, 1) := by decide +kernel
theorem dX3_make_6 : decode cX3_make 6 = .ok (.getfield 136, 3) := by decide +kernel
theorem dX3_make_9 : decode cX3_make 9 = .ok (.iastore, 1) := by decide +kernel
theorem dX3_make_10 : decode cX3_make 10 = .ok (.aload_n 0, 1) := by decide +kernel
theorem dX3_make_11 : decode cX3_make 11 = .ok (.dup, 1) := by decide +kernel
theorem dX3_make_12 : decode cX3_make 12 = .ok (.getfield 136, 3) := by decide +kernel
theorem dX3_make_15 : decode cX3_make 15 = .ok (.iconst 1, 1) := by decide +kernel
theorem dX3_make_16 : decode cX3_make 16 = .ok (.iadd, 1) := by decide +kernel
theorem dX3_make_17 : decode cX3_make 17 = .ok (.putfield 136, 3) := by decide +kernel
theorem dX3_make_20 : decode cX3_make 20 = .ok (.return_, 1) := by decide +kernel
theorem dX3_tellNew_0 : decode cX3_tellNew 0 = .ok (.aload_n 0, 1) := by decide +kernel
theorem dX3_tellNew_1 : decode cX3_tellNew 1 = .ok (.bipush 21, 2) := by decide +kernel
theorem dX3_tellNew_3 : decode cX3_tellNew 3 = .ok (.invokevirtual 139, 3) := by decide +kernel
theorem dX3_tellNew_6 : decode cX3_tellNew 6 = .ok (.iconst 0, 1) := by decide +kernel
theorem dX3_tellNew_7 : decode cX3_tellNew 7 = .ok (.istore_n 3, 1) := by decide +kernel
theorem dX3_tellNew_8 : decode cX3_tellNew 8 = .ok (.iload_n 3, 1) := by decide +kernel
theorem dX3_tellNew_9 : decode cX3_tellNew 9 = .ok (.aload_n 0, 1) := by decide +kernel
theorem dX3_tellNew_10 : decode cX3_tellNew 10 = .ok (.getfield 32, 3) := by decide +kernel
theorem dX3_tellNew_13 : decode cX3_tellNew 13 = .ok (.bipush 21, 2) := by decide +kernel
theorem dX3_tellNew_15 : decode cX3_tellNew 15 = .ok (.iaload, 1) := by decide +kernel
theorem dX3_tellNew_16 : decode cX3_tellNew 16 = .ok (.if_icmp .ge 97, 3) := by decide +kernel
theorem dX3_tellNew_19 : decode cX3_tellNew 19 = .ok (.aload_n 0, 1) := by decide +kernel
theorem dX3_tellNew_20 : decode cX3_tellNew 20 = .ok (.bipush 21, 2) := by decide +kernel
theorem dX3_tellNew_22 : decode cX3_tellNew 22 = .ok (.iload_n 3, 1) := by decide +kernel
theorem dX3_tellNew_23 : decode cX3_tellNew 23 = .ok (.iload_n 1, 1) := by decide +kernel
theorem dX3_tellNew_24 : decode cX3_tellNew 24 = .ok (.invokevirtual 143, 3) := by decide +kernel
theorem dX3_tellNew_27 : decode cX3_tellNew 27 = .ok (.istore 4, 2) := by decide +kernel
theorem dX3_tellNew_29 : decode cX3_tellNew 29 = .ok (.iload 4, 2) := by decide +kernel
theorem dX3_tellNew_31 : decode cX3_tellNew 31 = .ok (.iconst (-1), 1) := by decide +kernel
theorem dX3_tellNew_32 : decode cX3_tellNew 32 = .ok (.if_icmp .ne 19, 3) := by decide +kernel
theorem dX3_tellNew_35 : decode cX3_tellNew 35 = .ok (.iload_n 2, 1) := by decide +kernel
theorem dX3_tellNew_36 : decode cX3_tellNew 36 = .ok (.iconst (-1), 1) := by decide +kernel
theorem dX3_tellNew_37 : decode cX3_tellNew 37 = .ok (.if_icmp .eq 14, 3) := by decide +kernel
theorem dX3_tellNew_40 : decode cX3_tellNew 40 = .ok (.aload_n 0, 1) := by decide +kernel
theorem dX3_tellNew_41 : decode cX3_tellNew 41 = .ok (.bipush 21, 2) := by decide +kernel
theorem dX3_tellNew_43 : decode cX3_tellNew 43 = .ok (.iload_n 3, 1) := by decide +kernel
theorem dX3_tellNew_44 : decode cX3_tellNew 44 = .ok (.iload_n 2, 1) := by decide +kernel
theorem dX3_tellNew_45 : decode cX3_tellNew 45 = .ok (.invokevirtual 143, 3) := by decide +kernel
theorem dX3_tellNew_48 : decode cX3_tellNew 48 = .ok (.goto 4, 3) := by decide +kernel
theorem dX3_tellNew_51 : decode cX3_tellNew 51 = .ok (.iconst (-1), 1) := by decide +kernel
theorem dX3_tellNew_52 : decode cX3_tellNew 52 = .ok (.istore 5, 2) := by decide +kernel
theorem dX3_tellNew_54 : decode cX3_tellNew 54 = .ok (.iload 4, 2) := by decide +kernel
theorem dX3_tellNew_56 : decode cX3_tellNew 56 = .ok (.iconst (-1), 1) := by decide +kernel
theorem dX3_tellNew_57 : decode cX3_tellNew 57 = .ok (.if_icmp .eq 19, 3) := by decide +kernel
theorem dX3_tellNew_60 : decode cX3_tellNew 60 = .ok (.iload_n 3, 1) := by decide +kernel
theorem dX3_tellNew_61 : decode cX3_tellNew 61 = .ok (.aload_n 0, 1) := by decide +kernel
theorem dX3_tellNew_62 : decode cX3_tellNew 62 = .ok (.bipush 21, 2) := by decide +kernel
theorem dX3_tellNew_64 : decode cX3_tellNew 64 = .ok (.iload_n 3, 1) := by decide +kernel
theorem dX3_tellNew_65 : decode cX3_tellNew 65 = .ok (.iload_n 1, 1) := by decide +kernel
theorem dX3_tellNew_66 : decode cX3_tellNew 66 = .ok (.iload 4, 2) := by decide +kernel
theorem dX3_tellNew_68 : decode cX3_tellNew 68 = .ok (.invokevirtual 146, 3) := by decide +kernel
theorem dX3_tellNew_71 : decode cX3_tellNew 71 = .ok (.iadd, 1) := by decide +kernel
theorem dX3_tellNew_72 : decode cX3_tellNew 72 = .ok (.istore_n 3, 1) := by decide +kernel
theorem dX3_tellNew_73 : decode cX3_tellNew 73 = .ok (.goto 37, 3) := by decide +kernel
theorem dX3_tellNew_76 : decode cX3_tellNew 76 = .ok (.iload 5, 2) := by decide +kernel
theorem dX3_tellNew_78 : decode cX3_tellNew 78 = .ok (.iconst (-1), 1) := by decide +kernel
theorem dX3_tellNew_79 : decode cX3_tellNew 79 = .ok (.if_icmp .eq 19, 3) := by decide +kernel
theorem dX3_tellNew_82 : decode cX3_tellNew 82 = .ok (.iload_n 3, 1) := by decide +kernel
theorem dX3_tellNew_83 : decode cX3_tellNew 83 = .ok (.aload_n 0, 1) := by decide +kernel
theorem dX3_tellNew_84 : decode cX3_tellNew 84 = .ok (.bipush 21, 2) := by decide +kernel
theorem dX3_tellNew_86 : decode cX3_tellNew 86 = .ok (.iload_n 3, 1) := by decide +kernel
theorem dX3_tellNew_87 : decode cX3_tellNew 87 = .ok (.iload_n 2, 1) := by decide +kernel
theorem dX3_tellNew_88 : decode cX3_tellNew 88 = .ok (.iload 5, 2) := by decide +kernel
theorem dX3_tellNew_90 : decode cX3_tellNew 90 = .ok (.invokevirtual 146, 3) := by decide +kernel
theorem dX3_tellNew_93 : decode cX3_tellNew 93 = .ok (.iadd, 1) := by decide +kernel
theorem dX3_tellNew_94 : decode cX3_tellNew 94 = .ok (.istore_n 3, 1) := by decide +kernel
theorem dX3_tellNew_95 : decode cX3_tellNew 95 = .ok (.goto 15, 3) := by decide +kernel
theorem dX3_tellNew_98 : decode cX3_tellNew 98 = .ok (.aload_n 0, 1) := by decide +kernel
theorem dX3_tellNew_99 : decode cX3_tellNew 99 = .ok (.sipush 2016, 3) := by decide +kernel
theorem dX3_tellNew_102 : decode cX3_tellNew 102 = .ok (.iload_n 3, 1) := by decide +kernel
theorem dX3_tellNew_103 : decode cX3_tellNew 103 = .ok (.iadd, 1) := by decide +kernel
theorem dX3_tellNew_104 : decode cX3_tellNew 104 = .ok (.invokevirtual 150, 3) := by decide +kernel
theorem dX3_tellNew_107 : decode cX3_tellNew 107 = .ok (.iinc 3 1, 3) := by decide +kernel
theorem dX3_tellNew_110 : decode cX3_tellNew 110 = .ok (.goto (-102), 3) := by decide +kernel
theorem dX3_tellNew_113 : decode cX3_tellNew 113 = .ok (.return_, 1) := by decide +kernel
theorem dX3_keepNew_0 : decode cX3_keepNew 0 = .ok (.aload_n 0, 1) := by decide +kernel
theorem dX3_keepNew_1 : decode cX3_keepNew 1 = .ok (.aload_n 0, 1) := by decide +kernel
theorem dX3_keepNew_2 : decode cX3_keepNew 2 = .ok (.getfield 20, 3) := by decide +kernel
theorem dX3_keepNew_5 : decode cX3_keepNew 5 = .ok (.iload_n 1, 1) := by decide +kernel
theorem dX3_keepNew_6 : decode cX3_keepNew 6 = .ok (.invokevirtual 153, 3) := by decide +kernel
theorem dX3_keepNew_9 : decode cX3_keepNew 9 = .ok (.aload_n 0, 1) := by decide +kernel
theorem dX3_keepNew_10 : decode cX3_keepNew 10 = .ok (.getfield 32, 3) := by decide +kernel
theorem dX3_keepNew_13 : decode cX3_keepNew 13 = .ok (.aload_n 0, 1) := by decide +kernel
theorem dX3_keepNew_14 : decode cX3_keepNew 14 = .ok (.getfield 20, 3) := by decide +kernel
theorem dX3_keepNew_17 : decode cX3_keepNew 17 = .ok (.aload_n 0, 1) := by decide +kernel
theorem dX3_keepNew_18 : decode cX3_keepNew 18 = .ok (.getfield 32, 3) := by decide +kernel
theorem dX3_keepNew_21 : decode cX3_keepNew 21 = .ok (.iload_n 1, 1) := by decide +kernel
theorem dX3_keepNew_22 : decode cX3_keepNew 22 = .ok (.iaload, 1) := by decide +kernel
theorem dX3_keepNew_23 : decode cX3_keepNew 23 = .ok (.iastore, 1) := by decide +kernel
theorem dX3_keepNew_24 : decode cX3_keepNew 24 = .ok (.iconst 0, 1) := by decide +kernel
theorem dX3_keepNew_25 : decode cX3_keepNew 25 = .ok (.istore_n 2, 1) := by decide +kernel
theorem dX3_keepNew_26 : decode cX3_keepNew 26 = .ok (.iload_n 2, 1) := by decide +kernel
theorem dX3_keepNew_27 : decode cX3_keepNew 27 = .ok (.aload_n 0, 1) := by decide +kernel
theorem dX3_keepNew_28 : decode cX3_keepNew 28 = .ok (.getfield 32, 3) := by decide +kernel
theorem dX3_keepNew_31 : decode cX3_keepNew 31 = .ok (.iload_n 1, 1) := by decide +kernel
theorem dX3_keepNew_32 : decode cX3_keepNew 32 = .ok (.iaload, 1) := by decide +kernel
theorem dX3_keepNew_33 : decode cX3_keepNew 33 = .ok (.if_icmp .ge 34, 3) := by decide +kernel
theorem dX3_keepNew_36 : decode cX3_keepNew 36 = .ok (.aload_n 0, 1) := by decide +kernel
theorem dX3_keepNew_37 : decode cX3_keepNew 37 = .ok (.aload_n 0, 1) := by decide +kernel
theorem dX3_keepNew_38 : decode cX3_keepNew 38 = .ok (.getfield 20, 3) := by decide +kernel
theorem dX3_keepNew_41 : decode cX3_keepNew 41 = .ok (.iload_n 2, 1) := by decide +kernel
theorem dX3_keepNew_42 : decode cX3_keepNew 42 = .ok (.iload_n 1, 1) := by decide +kernel
theorem dX3_keepNew_43 : decode cX3_keepNew 43 = .ok (.invokevirtual 157, 3) := by decide +kernel
theorem dX3_keepNew_46 : decode cX3_keepNew 46 = .ok (.aload_n 0, 1) := by decide +kernel
theorem dX3_keepNew_47 : decode cX3_keepNew 47 = .ok (.getfield 50, 3) := by decide +kernel
theorem dX3_keepNew_50 : decode cX3_keepNew 50 = .ok (.bipush 96, 2) := by decide +kernel
theorem dX3_keepNew_52 : decode cX3_keepNew 52 = .ok (.aload_n 0, 1) := by decide +kernel
theorem dX3_keepNew_53 : decode cX3_keepNew 53 = .ok (.getfield 20, 3) := by decide +kernel
theorem dX3_keepNew_56 : decode cX3_keepNew 56 = .ok (.imul, 1) := by decide +kernel
theorem dX3_keepNew_57 : decode cX3_keepNew 57 = .ok (.iload_n 2, 1) := by decide +kernel
theorem dX3_keepNew_58 : decode cX3_keepNew 58 = .ok (.iadd, 1) := by decide +kernel
theorem dX3_keepNew_59 : decode cX3_keepNew 59 = .ok (.iconst 0, 1) := by decide +kernel
theorem dX3_keepNew_60 : decode cX3_keepNew 60 = .ok (.bastore, 1) := by decide +kernel
theorem dX3_keepNew_61 : decode cX3_keepNew 61 = .ok (.iinc 2 1, 3) := by decide +kernel
theorem dX3_keepNew_64 : decode cX3_keepNew 64 = .ok (.goto (-38), 3) := by decide +kernel
theorem dX3_keepNew_67 : decode cX3_keepNew 67 = .ok (.aload_n 0, 1) := by decide +kernel
theorem dX3_keepNew_68 : decode cX3_keepNew 68 = .ok (.dup, 1) := by decide +kernel
theorem dX3_keepNew_69 : decode cX3_keepNew 69 = .ok (.getfield 20, 3) := by decide +kernel
theorem dX3_keepNew_72 : decode cX3_keepNew 72 = .ok (.iconst 1, 1) := by decide +kernel
theorem dX3_keepNew_73 : decode cX3_keepNew 73 = .ok (.iadd, 1) := by decide +kernel
theorem dX3_keepNew_74 : decode cX3_keepNew 74 = .ok (.putfield 20, 3) := by decide +kernel
theorem dX3_keepNew_77 : decode cX3_keepNew 77 = .ok (.aload_n 0, 1) := by decide +kernel
theorem dX3_keepNew_78 : decode cX3_keepNew 78 = .ok (.getfield 20, 3) := by decide +kernel
theorem dX3_keepNew_81 : decode cX3_keepNew 81 = .ok (.iconst 1, 1) := by decide +kernel
theorem dX3_keepNew_82 : decode cX3_keepNew 82 = .ok (.isub, 1) := by decide +kernel
theorem dX3_keepNew_83 : decode cX3_keepNew 83 = .ok (.ireturn, 1) := by decide +kernel
theorem dX3_copyNode_0 : decode cX3_copyNode 0 = .ok (.bipush 96, 2) := by decide +kernel
theorem dX3_copyNode_2 : decode cX3_copyNode 2 = .ok (.iload_n 1, 1) := by decide +kernel
theorem dX3_copyNode_3 : decode cX3_copyNode 3 = .ok (.imul, 1) := by decide +kernel
theorem dX3_copyNode_4 : decode cX3_copyNode 4 = .ok (.iload_n 2, 1) := by decide +kernel
theorem dX3_copyNode_5 : decode cX3_copyNode 5 = .ok (.iadd, 1) := by decide +kernel
