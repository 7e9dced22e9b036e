theorem dX0_init_0 : decode cX0_init 0 = .ok (.aload_n 0, 1) := by decide +kernel
theorem dX0_init_1 : decode cX0_init 1 = .ok (.invokespecial 3, 3) := by decide +kernel
theorem dX0_init_4 : decode cX0_init 4 = .ok (.aload_n 0, 1) := by decide +kernel
theorem dX0_init_5 : decode cX0_init 5 = .ok (.bipush 60, 2) := by decide +kernel
theorem dX0_init_7 : decode cX0_init 7 = .ok (.newarray .int, 2) := by decide +kernel
theorem dX0_init_9 : decode cX0_init 9 = .ok (.putfield 9, 3) := by decide +kernel
theorem dX0_init_12 : decode cX0_init 12 = .ok (.aload_n 0, 1) := by decide +kernel
theorem dX0_init_13 : decode cX0_init 13 = .ok (.iconst 0, 1) := by decide +kernel
theorem dX0_init_14 : decode cX0_init 14 = .ok (.putfield 15, 3) := by decide +kernel
theorem dX0_init_17 : decode cX0_init 17 = .ok (.aload_n 0, 1) := by decide +kernel
theorem dX0_init_18 : decode cX0_init 18 = .ok (.iconst 1, 1) := by decide +kernel
theorem dX0_init_19 : decode cX0_init 19 = .ok (.putfield 19, 3) := by decide +kernel
theorem dX0_init_22 : decode cX0_init 22 = .ok (.aload_n 0, 1) := by decide +kernel
theorem dX0_init_23 : decode cX0_init 23 = .ok (.iconst 0, 1) := by decide +kernel
theorem dX0_init_24 : decode cX0_init 24 = .ok (.putfield 23, 3) := by decide +kernel
theorem dX0_init_27 : decode cX0_init 27 = .ok (.aload_n 0, 1) := by decide +kernel
theorem dX0_init_28 : decode cX0_init 28 = .ok (.bipush 60, 2) := by decide +kernel
theorem dX0_init_30 : decode cX0_init 30 = .ok (.newarray .int, 2) := by decide +kernel
theorem dX0_init_32 : decode cX0_init 32 = .ok (.putfield 26, 3) := by decide +kernel
theorem dX0_init_35 : decode cX0_init 35 = .ok (.aload_n 0, 1) := by decide +kernel
theorem dX0_init_36 : decode cX0_init 36 = .ok (.bipush 60, 2) := by decide +kernel
theorem dX0_init_38 : decode cX0_init 38 = .ok (.newarray .int, 2) := by decide +kernel
theorem dX0_init_40 : decode cX0_init 40 = .ok (.putfield 29, 3) := by decide +kernel
theorem dX0_init_43 : decode cX0_init 43 = .ok (.return_, 1) := by decide +kernel
theorem dX0_scan_0 : decode cX0_scan 0 = .ok (.aload_n 0, 1) := by decide +kernel
theorem dX0_scan_1 : decode cX0_scan 1 = .ok (.iconst 0, 1) := by decide +kernel
theorem dX0_scan_2 : decode cX0_scan 2 = .ok (.putfield 23, 3) := by decide +kernel
theorem dX0_scan_5 : decode cX0_scan 5 = .ok (.aload_n 0, 1) := by decide +kernel
theorem dX0_scan_6 : decode cX0_scan 6 = .ok (.iconst 0, 1) := by decide +kernel
theorem dX0_scan_7 : decode cX0_scan 7 = .ok (.putfield 19, 3) := by decide +kernel
theorem dX0_scan_10 : decode cX0_scan 10 = .ok (.iconst 1, 1) := by decide +kernel
theorem dX0_scan_11 : decode cX0_scan 11 = .ok (.istore_n 1, 1) := by decide +kernel
theorem dX0_scan_12 : decode cX0_scan 12 = .ok (.iconst (-1), 1) := by decide +kernel
theorem dX0_scan_13 : decode cX0_scan 13 = .ok (.istore_n 2, 1) := by decide +kernel
theorem dX0_scan_14 : decode cX0_scan 14 = .ok (.iconst 0, 1) := by decide +kernel
theorem dX0_scan_15 : decode cX0_scan 15 = .ok (.istore_n 3, 1) := by decide +kernel
theorem dX0_scan_16 : decode cX0_scan 16 = .ok (.iload_n 3, 1) := by decide +kernel
theorem dX0_scan_17 : decode cX0_scan 17 = .ok (.aload_n 0, 1) := by decide +kernel
theorem dX0_scan_18 : decode cX0_scan 18 = .ok (.getfield 15, 3) := by decide +kernel
theorem dX0_scan_21 : decode cX0_scan 21 = .ok (.if_icmp .ge 106, 3) := by decide +kernel
theorem dX0_scan_24 : decode cX0_scan 24 = .ok (.aload_n 0, 1) := by decide +kernel
theorem dX0_scan_25 : decode cX0_scan 25 = .ok (.getfield 9, 3) := by decide +kernel
theorem dX0_scan_28 : decode cX0_scan 28 = .ok (.iload_n 3, 1) := by decide +kernel
theorem dX0_scan_29 : decode cX0_scan 29 = .ok (.iaload, 1) := by decide +kernel
theorem dX0_scan_30 : decode cX0_scan 30 = .ok (.istore 4, 2) := by decide +kernel
theorem dX0_scan_32 : decode cX0_scan 32 = .ok (.iload 4, 2) := by decide +kernel
theorem dX0_scan_34 : decode cX0_scan 34 = .ok (.bipush 48, 2) := by decide +kernel
theorem dX0_scan_36 : decode cX0_scan 36 = .ok (.if_icmp .lt 41, 3) := by decide +kernel
theorem dX0_scan_39 : decode cX0_scan 39 = .ok (.iload 4, 2) := by decide +kernel
theorem dX0_scan_41 : decode cX0_scan 41 = .ok (.bipush 57, 2) := by decide +kernel
theorem dX0_scan_43 : decode cX0_scan 43 = .ok (.if_icmp .gt 34, 3) := by decide +kernel
theorem dX0_scan_46 : decode cX0_scan 46 = .ok (.iload_n 2, 1) := by decide +kernel
theorem dX0_scan_47 : decode cX0_scan 47 = .ok (.iload 4, 2) := by decide +kernel
theorem dX0_scan_49 : decode cX0_scan 49 = .ok (.bipush 48, 2) := by decide +kernel
theorem dX0_scan_51 : decode cX0_scan 51 = .ok (.isub, 1) := by decide +kernel
theorem dX0_scan_52 : decode cX0_scan 52 = .ok (.iload_n 1, 1) := by decide +kernel
theorem dX0_scan_53 : decode cX0_scan 53 = .ok (.ifCond .eq 9, 3) := by decide +kernel
theorem dX0_scan_56 : decode cX0_scan 56 = .ok (.sipush 4095, 3) := by decide +kernel
theorem dX0_scan_59 : decode cX0_scan 59 = .ok (.goto 6, 3) := by decide +kernel
theorem dX0_scan_62 : decode cX0_scan 62 = .ok (.sipush 999, 3) := by decide +kernel
theorem dX0_scan_65 : decode cX0_scan 65 = .ok (.invokestatic 32, 3) := by decide +kernel
theorem dX0_scan_68 : decode cX0_scan 68 = .ok (.istore_n 2, 1) := by decide +kernel
theorem dX0_scan_69 : decode cX0_scan 69 = .ok (.iload_n 2, 1) := by decide +kernel
theorem dX0_scan_70 : decode cX0_scan 70 = .ok (.bipush (-2), 2) := by decide +kernel
theorem dX0_scan_72 : decode cX0_scan 72 = .ok (.if_icmp .ne 49, 3) := by decide +kernel
theorem dX0_scan_75 : decode cX0_scan 75 = .ok (.iload_n 3, 1) := by decide +kernel
theorem dX0_scan_76 : decode cX0_scan 76 = .ok (.ireturn, 1) := by decide +kernel
theorem dX0_scan_77 : decode cX0_scan 77 = .ok (.iload_n 2, 1) := by decide +kernel
theorem dX0_scan_78 : decode cX0_scan 78 = .ok (.iconst (-1), 1) := by decide +kernel
theorem dX0_scan_79 : decode cX0_scan 79 = .ok (.if_icmp .eq 40, 3) := by decide +kernel
theorem dX0_scan_82 : decode cX0_scan 82 = .ok (.iload 4, 2) := by decide +kernel
theorem dX0_scan_84 : decode cX0_scan 84 = .ok (.iload_n 1, 1) := by decide +kernel
theorem dX0_scan_85 : decode cX0_scan 85 = .ok (.ifCond .eq 8, 3) := by decide +kernel
theorem dX0_scan_88 : decode cX0_scan 88 = .ok (.bipush 61, 2) := by decide +kernel
theorem dX0_scan_90 : decode cX0_scan 90 = .ok (.goto 5, 3) := by decide +kernel
theorem dX0_scan_93 : decode cX0_scan 93 = .ok (.bipush 59, 2) := by decide +kernel
theorem dX0_scan_95 : decode cX0_scan 95 = .ok (.if_icmp .ne 24, 3) := by decide +kernel
theorem dX0_scan_98 : decode cX0_scan 98 = .ok (.aload_n 0, 1) := by decide +kernel
theorem dX0_scan_99 : decode cX0_scan 99 = .ok (.iload_n 1, 1) := by decide +kernel
theorem dX0_scan_100 : decode cX0_scan 100 = .ok (.iload_n 2, 1) := by decide +kernel
theorem dX0_scan_101 : decode cX0_scan 101 = .ok (.invokevirtual 36, 3) := by decide +kernel
theorem dX0_scan_104 : decode cX0_scan 104 = .ok (.iload_n 1, 1) := by decide +kernel
theorem dX0_scan_105 : decode cX0_scan 105 = .ok (.ifCond .ne 7, 3) := by decide +kernel
theorem dX0_scan_108 : decode cX0_scan 108 = .ok (.iconst 1, 1) := by decide +kernel
theorem dX0_scan_109 : decode cX0_scan 109 = .ok (.goto 4, 3) := by decide +kernel
theorem dX0_scan_112 : decode cX0_scan 112 = .ok (.iconst 0, 1) := by decide +kernel
theorem dX0_scan_113 : decode cX0_scan 113 = .ok (.istore_n 1, 1) := by decide +kernel
theorem dX0_scan_114 : decode cX0_scan 114 = .ok (.iconst (-1), 1) := by decide +kernel
theorem dX0_scan_115 : decode cX0_scan 115 = .ok (.istore_n 2, 1) := by decide +kernel
theorem dX0_scan_116 : decode cX0_scan 116 = .ok (.goto 5, 3) := by decide +kernel
theorem dX0_scan_119 : decode cX0_scan 119 = .ok (.iload_n 3, 1) := by decide +kernel
theorem dX0_scan_120 : decode cX0_scan 120 = .ok (.ireturn, 1) := by decide +kernel
theorem dX0_scan_121 : decode cX0_scan 121 = .ok (.iinc 3 1, 3) := by decide +kernel
theorem dX0_scan_124 : decode cX0_scan 124 = .ok (.goto (-108), 3) := by decide +kernel
theorem dX0_scan_127 : decode cX0_scan 127 = .ok (.iload_n 1, 1) := by decide +kernel
theorem dX0_scan_128 : decode cX0_scan 128 = .ok (.ifCond .ne 19, 3) := by decide +kernel
theorem dX0_scan_131 : decode cX0_scan 131 = .ok (.iload_n 2, 1) := by decide +kernel
theorem dX0_scan_132 : decode cX0_scan 132 = .ok (.iconst (-1), 1) := by decide +kernel
theorem dX0_scan_133 : decode cX0_scan 133 = .ok (.if_icmp .eq 14, 3) := by decide +kernel
theorem dX0_scan_136 : decode cX0_scan 136 = .ok (.aload_n 0, 1) := by decide +kernel
theorem dX0_scan_137 : decode cX0_scan 137 = .ok (.iconst 0, 1) := by decide +kernel
theorem dX0_scan_138 : decode cX0_scan 138 = .ok (.iload_n 2, 1) := by decide +kernel
theorem dX0_scan_139 : decode cX0_scan 139 = .ok (.invokevirtual 36, 3) := by decide +kernel
theorem dX0_scan_142 : decode cX0_scan 142 = .ok (.aload_n 0, 1) := by decide +kernel
theorem dX0_scan_143 : decode cX0_scan 143 = .ok (.iconst 1, 1) := by decide +kernel
theorem dX0_scan_144 : decode cX0_scan 144 = .ok (.putfield 19, 3) := by decide +kernel
theorem dX0_scan_147 : decode cX0_scan 147 = .ok (.aload_n 0, 1) := by decide +kernel
theorem dX0_scan_148 : decode cX0_scan 148 = .ok (.aload_n 0, 1) := by decide +kernel
theorem dX0_scan_149 : decode cX0_scan 149 = .ok (.getfield 19, 3) := by decide +kernel
theorem dX0_scan_152 : decode cX0_scan 152 = .ok (.ifCond .ne 10, 3) := by decide +kernel
theorem dX0_scan_155 : decode cX0_scan 155 = .ok (.aload_n 0, 1) := by decide +kernel
theorem dX0_scan_156 : decode cX0_scan 156 = .ok (.getfield 15, 3) := by decide +kernel
theorem dX0_scan_159 : decode cX0_scan 159 = .ok (.ifCond .ne 7, 3) := by decide +kernel
theorem dX0_scan_162 : decode cX0_scan 162 = .ok (.iconst 1, 1) := by decide +kernel
theorem dX0_scan_163 : decode cX0_scan 163 = .ok (.goto 4, 3) := by decide +kernel
theorem dX0_scan_166 : decode cX0_scan 166 = .ok (.iconst 0, 1) := by decide +kernel
theorem dX0_scan_167 : decode cX0_scan 167 = .ok (.putfield 19, 3) := by decide +kernel
theorem dX0_scan_170 : decode cX0_scan 170 = .ok (.aload_n 0, 1) := by decide +kernel
theorem dX0_scan_171 : decode cX0_scan 171 = .ok (.getfield 15, 3) := by decide +kernel
theorem dX0_scan_174 : decode cX0_scan 174 = .ok (.ireturn, 1) := by decide +kernel
theorem dX0_keep_0 : decode cX0_keep 0 = .ok (.aload_n 0, 1) := by decide +kernel
theorem dX0_keep_1 : decode cX0_keep 1 = .ok (.getfield 23, 3) := by decide +kernel
theorem dX0_keep_4 : decode cX0_keep 4 = .ok (.bipush 60, 2) := by decide +kernel
theorem dX0_keep_6 : decode cX0_keep 6 = .ok (.if_icmp .lt 4, 3) := by decide +kernel
theorem dX0_keep_9 : decode cX0_keep 9 = .ok (.return_, 1) := by decide +kernel
theorem dX0_keep_10 : decode cX0_keep 10 = .ok (.iload_n 1, 1) := by decide +kernel
theorem dX0_keep_11 : decode cX0_keep 11 = .ok (.ifCond .eq 16, 3) := by decide +kernel
theorem dX0_keep_14 : decode cX0_keep 14 = .ok (.aload_n 0, 1) := by decide +kernel
theorem dX0_keep_15 : decode cX0_keep 15 = .ok (.getfield 26, 3) := by decide +kernel
theorem dX0_keep_18 : decode cX0_keep 18 = .ok (.aload_n 0, 1) := by decide +kernel
theorem dX0_keep_19 : decode cX0_keep 19 = .ok (.getfield 23, 3) := by decide +kernel
theorem dX0_keep_22 : decode cX0_keep 22 = .ok (.iload_n 2, 1) := by decide +kernel
theorem dX0_keep_23 : decode cX0_keep 23 = .ok (.iastore, 1) := by decide +kernel
theorem dX0_keep_24 : decode cX0_keep 24 = .ok (.goto 23, 3) := by decide +kernel
theorem dX0_keep_27 : decode cX0_keep 27 = .ok (.aload_n 0, 1) := by decide +kernel
theorem dX0_keep_28 : decode cX0_keep 28 = .ok (.getfield 29, 3) := by decide +kernel
theorem dX0_keep_31 : decode cX0_keep 31 = .ok (.aload_n 0, 1) := by decide +kernel
theorem dX0_keep_32 : decode cX0_keep 32 = .ok (.getfield 23, 3) := by decide +kernel
theorem dX0_keep_35 : decode cX0_keep 35 = .ok (.iload_n 2, 1) := by decide +kernel
theorem dX0_keep_36 : decode cX0_keep 36 = .ok (.iastore, 1) := by decide +kernel
theorem dX0_keep_37 : decode cX0_keep 37 = .ok (.aload_n 0, 1) := by decide +kernel
theorem dX0_keep_38 : decode cX0_keep 38 = .ok (.dup, 1) := by decide +kernel
theorem dX0_keep_39 : decode cX0_keep 39 = .ok (.getfield 23, 3) := by decide +kernel
theorem dX0_keep_42 : decode cX0_keep 42 = .ok (.iconst 1, 1) := by decide +kernel
theorem dX0_keep_43 : decode cX0_keep 43 = .ok (.iadd, 1) := by decide +kernel
theorem dX0_keep_44 : decode cX0_keep 44 = .ok (.putfield 23, 3) := by decide +kernel
theorem dX0_keep_47 : decode cX0_keep 47 = .ok (.return_, 1) := by decide +kernel
theorem dX0_grown_0 : decode cX0_grown 0 = .ok (.iload_n 0, 1) := by decide +kernel
theorem dX0_grown_1 : decode cX0_grown 1 = .ok (.iconst (-1), 1) := by decide +kernel
theorem dX0_grown_2 : decode cX0_grown 2 = .ok (.if_icmp .ne 5, 3) := by decide +kernel
theorem dX0_grown_5 : decode cX0_grown 5 = .ok (.iload_n 1, 1) := by decide +kernel
theorem dX0_grown_6 : decode cX0_grown 6 = .ok (.ireturn, 1) := by decide +kernel
theorem dX0_grown_7 : decode cX0_grown 7 = .ok (.iload_n 0, 1) := by decide +kernel
theorem dX0_grown_8 : decode cX0_grown 8 = .ok (.bipush 10, 2) := by decide +kernel
theorem dX0_grown_10 : decode cX0_grown 10 = .ok (.imul, 1) := by decide +kernel
theorem dX0_grown_11 : decode cX0_grown 11 = .ok (.iload_n 1, 1) := by decide +kernel
theorem dX0_grown_12 : decode cX0_grown 12 = .ok (.iadd, 1) := by decide +kernel
theorem dX0_grown_13 : decode cX0_grown 13 = .ok (.istore_n 3, 1) := by decide +kernel
theorem dX0_grown_14 : decode cX0_grown 14 = .ok (.iload_n 0, 1) := by decide +kernel
theorem dX0_grown_15 : decode cX0_grown 15 = .ok (.ifCond .eq 8, 3) := by decide +kernel
theorem dX0_grown_18 : decode cX0_grown 18 = .ok (.iload_n 3, 1) := by decide +kernel
theorem dX0_grown_19 : decode cX0_grown 19 = .ok (.iload_n 2, 1) := by decide +kernel
theorem dX0_grown_20 : decode cX0_grown 20 = .ok (.if_icmp .le 8, 3) := by decide +kernel
theorem dX0_grown_23 : decode cX0_grown 23 = .ok (.bipush (-2), 2) := by decide +kernel
theorem dX0_grown_25 : decode cX0_grown 25 = .ok (.goto 4, 3) := by decide +kernel
theorem dX0_grown_28 : decode cX0_grown 28 = .ok (.iload_n 3, 1) := by decide +kernel
theorem dX0_grown_29 : decode cX0_grown 29 = .ok (.ireturn, 1) := by decide +kernel
theorem dX1_init_0 : decode cX1_init 0 = .ok (.aload_n 0, 1) := by decide +kernel
theorem dX1_init_1 : decode cX1_init 1 = .ok (.invokespecial 3, 3) := by decide +kernel
theorem dX1_init_4 : decode cX1_init 4 = .ok (.aload_n 0, 1) := by decide +kernel
theorem dX1_init_5 : decode cX1_init 5 = .ok (.iconst 0, 1) := by decide +kernel
theorem dX1_init_6 : decode cX1_init 6 = .ok (.putfield 9, 3) := by decide +kernel
theorem dX1_init_9 : decode cX1_init 9 = .ok (.aload_n 0, 1) := by decide +kernel
theorem dX1_init_10 : decode cX1_init 10 = .ok (.bipush 24, 2) := by decide +kernel
theorem dX1_init_12 : decode cX1_init 12 = .ok (.newarray .int, 2) := by decide +kernel
theorem dX1_init_14 : decode cX1_init 14 = .ok (.putfield 15, 3) := by decide +kernel
theorem dX1_init_17 : decode cX1_init 17 = .ok (.aload_n 0, 1) := by decide +kernel
theorem dX1_init_18 : decode cX1_init 18 = .ok (.bipush 24, 2) := by decide +kernel
theorem dX1_init_20 : decode cX1_init 20 = .ok (.newarray .int, 2) := by decide +kernel
theorem dX1_init_22 : decode cX1_init 22 = .ok (.putfield 19, 3) := by decide +kernel
theorem dX1_init_25 : decode cX1_init 25 = .ok (.aload_n 0, 1) := by decide +kernel
theorem dX1_init_26 : decode cX1_init 26 = .ok (.bipush 24, 2) := by decide +kernel
theorem dX1_init_28 : decode cX1_init 28 = .ok (.newarray .int, 2) := by decide +kernel
theorem dX1_init_30 : decode cX1_init 30 = .ok (.putfield 22, 3) := by decide +kernel
theorem dX1_init_33 : decode cX1_init 33 = .ok (.aload_n 0, 1) := by decide +kernel
theorem dX1_init_34 : decode cX1_init 34 = .ok (.bipush 24, 2) := by decide +kernel
theorem dX1_init_36 : decode cX1_init 36 = .ok (.newarray .int, 2) := by decide +kernel
theorem dX1_init_38 : decode cX1_init 38 = .ok (.putfield 25, 3) := by decide +kernel
theorem dX1_init_41 : decode cX1_init 41 = .ok (.aload_n 0, 1) := by decide +kernel
theorem dX1_init_42 : decode cX1_init 42 = .ok (.iconst 0, 1) := by decide +kernel
theorem dX1_init_43 : decode cX1_init 43 = .ok (.putfield 28, 3) := by decide +kernel
theorem dX1_init_46 : decode cX1_init 46 = .ok (.aload_n 0, 1) := by decide +kernel
theorem dX1_init_47 : decode cX1_init 47 = .ok (.bipush 96, 2) := by decide +kernel
theorem dX1_init_49 : decode cX1_init 49 = .ok (.newarray .int, 2) := by decide +kernel
theorem dX1_init_51 : decode cX1_init 51 = .ok (.putfield 31, 3) := by decide +kernel
theorem dX1_init_54 : decode cX1_init 54 = .ok (.aload_n 0, 1) := by decide +kernel
theorem dX1_init_55 : decode cX1_init 55 = .ok (.bipush 96, 2) := by decide +kernel
theorem dX1_init_57 : decode cX1_init 57 = .ok (.newarray .int, 2) := by decide +kernel
theorem dX1_init_59 : decode cX1_init 59 = .ok (.putfield 34, 3) := by decide +kernel
theorem dX1_init_62 : decode cX1_init 62 = .ok (.aload_n 0, 1) := by decide +kernel
theorem dX1_init_63 : decode cX1_init 63 = .ok (.bipush 96, 2) := by decide +kernel
theorem dX1_init_65 : decode cX1_init 65 = .ok (.newarray .int, 2) := by decide +kernel
theorem dX1_init_67 : decode cX1_init 67 = .ok (.putfield 37, 3) := by decide +kernel
theorem dX1_init_70 : decode cX1_init 70 = .ok (.aload_n 0, 1) := by decide +kernel
theorem dX1_init_71 : decode cX1_init 71 = .ok (.bipush 96, 2) := by decide +kernel
theorem dX1_init_73 : decode cX1_init 73 = .ok (.newarray .int, 2) := by decide +kernel
theorem dX1_init_75 : decode cX1_init 75 = .ok (.putfield 40, 3) := by decide +kernel
theorem dX1_init_78 : decode cX1_init 78 = .ok (.aload_n 0, 1) := by decide +kernel
theorem dX1_init_79 : decode cX1_init 79 = .ok (.bipush 96, 2) := by decide +kernel
theorem dX1_init_81 : decode cX1_init 81 = .ok (.newarray .int, 2) := by decide +kernel
theorem dX1_init_83 : decode cX1_init 83 = .ok (.putfield 43, 3) := by decide +kernel
theorem dX1_init_86 : decode cX1_init 86 = .ok (.aload_n 0, 1) := by decide +kernel
theorem dX1_init_87 : decode cX1_init 87 = .ok (.bipush 96, 2) := by decide +kernel
theorem dX1_init_89 : decode cX1_init 89 = .ok (.newarray .int, 2) := by decide +kernel
theorem dX1_init_91 : decode cX1_init 91 = .ok (.putfield 46, 3) := by decide +kernel
theorem dX1_init_94 : decode cX1_init 94 = .ok (.aload_n 0, 1) := by decide +kernel
theorem dX1_init_95 : decode cX1_init 95 = .ok (.bipush 96, 2) := by decide +kernel
theorem dX1_init_97 : decode cX1_init 97 = .ok (.newarray .int, 2) := by decide +kernel
theorem dX1_init_99 : decode cX1_init 99 = .ok (.putfield 49, 3) := by decide +kernel
theorem dX1_init_102 : decode cX1_init 102 = .ok (.aload_n 0, 1) := by decide +kernel
theorem dX1_init_103 : decode cX1_init 103 = .ok (.bipush 96, 2) := by decide +kernel
theorem dX1_init_105 : decode cX1_init 105 = .ok (.newarray .long, 2) := by decide +kernel
theorem dX1_init_107 : decode cX1_init 107 = .ok (.putfield 52, 3) := by decide +kernel
theorem dX1_init_110 : decode cX1_init 110 = .ok (.aload_n 0, 1) := by decide +kernel
theorem dX1_init_111 : decode cX1_init 111 = .ok (.iconst 0, 1) := by decide +kernel
theorem dX1_init_112 : decode cX1_init 112 = .ok (.putfield 56, 3) := by decide +kernel
theorem dX1_init_115 : decode cX1_init 115 = .ok (.return_, 1) := by decide +kernel
theorem dX1_empty_0 : decode cX1_empty 0 = .ok (.aload_n 0, 1) := by decide +kernel
theorem dX1_empty_1 : decode cX1_empty 1 = .ok (.iconst 0, 1) := by decide +kernel
theorem dX1_empty_2 : decode cX1_empty 2 = .ok (.putfield 9, 3) := by decide +kernel
theorem dX1_empty_5 : decode cX1_empty 5 = .ok (.aload_n 0, 1) := by decide +kernel
theorem dX1_empty_6 : decode cX1_empty 6 = .ok (.iconst 0, 1) := by decide +kernel
theorem dX1_empty_7 : decode cX1_empty 7 = .ok (.putfield 28, 3) := by decide +kernel
theorem dX1_empty_10 : decode cX1_empty 10 = .ok (.return_, 1) := by decide +kernel
theorem dX1_copyEntries_0 : decode cX1_copyEntries 0 = .ok (.aload_n 1, 1) := by decide +kernel
theorem dX1_copyEntries_1 : decode cX1_copyEntries 1 = .ok (.getfield 15, 3) := by decide +kernel
theorem dX1_copyEntries_4 : decode cX1_copyEntries 4 = .ok (.iconst 0, 1) := by decide +kernel
theorem dX1_copyEntries_5 : decode cX1_copyEntries 5 = .ok (.aload_n 0, 1) := by decide +kernel
theorem dX1_copyEntries_6 : decode cX1_copyEntries 6 = .ok (.getfield 15, 3) := by decide +kernel
theorem dX1_copyEntries_9 : decode cX1_copyEntries 9 = .ok (.iconst 0, 1) := by decide +kernel
theorem dX1_copyEntries_10 : decode cX1_copyEntries 10 = .ok (.bipush 24, 2) := by decide +kernel
theorem dX1_copyEntries_12 : decode cX1_copyEntries 12 = .ok (.invokestatic 59, 3) := by decide +kernel
theorem dX1_copyEntries_15 : decode cX1_copyEntries 15 = .ok (.aload_n 1, 1) := by decide +kernel
theorem dX1_copyEntries_16 : decode cX1_copyEntries 16 = .ok (.getfield 19, 3) := by decide +kernel
theorem dX1_copyEntries_19 : decode cX1_copyEntries 19 = .ok (.iconst 0, 1) := by decide +kernel
theorem dX1_copyEntries_20 : decode cX1_copyEntries 20 = .ok (.aload_n 0, 1) := by decide +kernel
theorem dX1_copyEntries_21 : decode cX1_copyEntries 21 = .ok (.getfield 19, 3) := by decide +kernel
theorem dX1_copyEntries_24 : decode cX1_copyEntries 24 = .ok (.iconst 0, 1) := by decide +kernel
theorem dX1_copyEntries_25 : decode cX1_copyEntries 25 = .ok (.bipush 24, 2) := by decide +kernel
theorem dX1_copyEntries_27 : decode cX1_copyEntries 27 = .ok (.invokestatic 59, 3) := by decide +kernel
theorem dX1_copyEntries_30 : decode cX1_copyEntries 30 = .ok (.aload_n 1, 1) := by decide +kernel
theorem dX1_copyEntries_31 : decode cX1_copyEntries 31 = .ok (.getfield 22, 3) := by decide +kernel
theorem dX1_copyEntries_34 : decode cX1_copyEntries 34 = .ok (.iconst 0, 1) := by decide +kernel
theorem dX1_copyEntries_35 : decode cX1_copyEntries 35 = .ok (.aload_n 0, 1) := by decide +kernel
theorem dX1_copyEntries_36 : decode cX1_copyEntries 36 = .ok (.getfield 22, 3) := by decide +kernel
theorem dX1_copyEntries_39 : decode cX1_copyEntries 39 = .ok (.iconst 0, 1) := by decide +kernel
theorem dX1_copyEntries_40 : decode cX1_copyEntries 40 = .ok (.bipush 24, 2) := by decide +kernel
theorem dX1_copyEntries_42 : decode cX1_copyEntries 42 = .ok (.invokestatic 59, 3) := by decide +kernel
theorem dX1_copyEntries_45 : decode cX1_copyEntries 45 = .ok (.aload_n 0, 1) := by decide +kernel
theorem dX1_copyEntries_46 : decode cX1_copyEntries 46 = .ok (.aload_n 1, 1) := by decide +kernel
theorem dX1_copyEntries_47 : decode cX1_copyEntries 47 = .ok (.getfield 9, 3) := by decide +kernel
theorem dX1_copyEntries_50 : decode cX1_copyEntries 50 = .ok (.putfield 9, 3) := by decide +kernel
theorem dX1_copyEntries_53 : decode cX1_copyEntries 53 = .ok (.return_, 1) := by decide +kernel
theorem dX1_copyAll_0 : decode cX1_copyAll 0 = .ok (.aload_n 0, 1) := by decide +kernel
theorem dX1_copyAll_1 : decode cX1_copyAll 1 = .ok (.aload_n 1, 1) := by decide +kernel
theorem dX1_copyAll_2 : decode cX1_copyAll 2 = .ok (.invokevirtual 65, 3) := by decide +kernel
theorem dX1_copyAll_5 : decode cX1_copyAll 5 = .ok (.aload_n 0, 1) := by decide +kernel
theorem dX1_copyAll_6 : decode cX1_copyAll 6 = .ok (.invokevirtual 69, 3) := by decide +kernel
theorem dX1_copyAll_9 : decode cX1_copyAll 9 = .ok (.aload_n 1, 1) := by decide +kernel
theorem dX1_copyAll_10 : decode cX1_copyAll 10 = .ok (.getfield 31, 3) := by decide +kernel
theorem dX1_copyAll_13 : decode cX1_copyAll 13 = .ok (.iconst 0, 1) := by decide +kernel
theorem dX1_copyAll_14 : decode cX1_copyAll 14 = .ok (.aload_n 0, 1) := by decide +kernel
theorem dX1_copyAll_15 : decode cX1_copyAll 15 = .ok (.getfield 31, 3) := by decide +kernel
theorem dX1_copyAll_18 : decode cX1_copyAll 18 = .ok (.iconst 0, 1) := by decide +kernel
theorem dX1_copyAll_19 : decode cX1_copyAll 19 = .ok (.bipush 96, 2) := by decide +kernel
theorem dX1_copyAll_21 : decode cX1_copyAll 21 = .ok (.invokestatic 59, 3) := by decide +kernel
theorem dX1_copyAll_24 : decode cX1_copyAll 24 = .ok (.return_, 1) := by decide +kernel
theorem dX1_unite_0 : decode cX1_unite 0 = .ok (.aload_n 0, 1) := by decide +kernel
theorem dX1_unite_1 : decode cX1_unite 1 = .ok (.aload_n 1, 1) := by decide +kernel
theorem dX1_unite_2 : decode cX1_unite 2 = .ok (.invokevirtual 65, 3) := by decide +kernel
theorem dX1_unite_5 : decode cX1_unite 5 = .ok (.iconst 0, 1) := by decide +kernel
theorem dX1_unite_6 : decode cX1_unite 6 = .ok (.istore_n 3, 1) := by decide +kernel
theorem dX1_unite_7 : decode cX1_unite 7 = .ok (.iload_n 3, 1) := by decide +kernel
theorem dX1_unite_8 : decode cX1_unite 8 = .ok (.aload_n 2, 1) := by decide +kernel
theorem dX1_unite_9 : decode cX1_unite 9 = .ok (.getfield 9, 3) := by decide +kernel
theorem dX1_unite_12 : decode cX1_unite 12 = .ok (.if_icmp .ge 44, 3) := by decide +kernel
theorem dX1_unite_15 : decode cX1_unite 15 = .ok (.aload_n 1, 1) := by decide +kernel
theorem dX1_unite_16 : decode cX1_unite 16 = .ok (.aload_n 2, 1) := by decide +kernel
theorem dX1_unite_17 : decode cX1_unite 17 = .ok (.getfield 15, 3) := by decide +kernel
theorem dX1_unite_20 : decode cX1_unite 20 = .ok (.iload_n 3, 1) := by decide +kernel
theorem dX1_unite_21 : decode cX1_unite 21 = .ok (.iaload, 1) := by decide +kernel
theorem dX1_unite_22 : decode cX1_unite 22 = .ok (.invokevirtual 72, 3) := by decide +kernel
theorem dX1_unite_25 : decode cX1_unite 25 = .ok (.ifCond .ge 25, 3) := by decide +kernel
theorem dX1_unite_28 : decode cX1_unite 28 = .ok (.aload_n 0, 1) := by decide +kernel
theorem dX1_unite_29 : decode cX1_unite 29 = .ok (.aload_n 2, 1) := by decide +kernel
theorem dX1_unite_30 : decode cX1_unite 30 = .ok (.getfield 15, 3) := by decide +kernel
theorem dX1_unite_33 : decode cX1_unite 33 = .ok (.iload_n 3, 1) := by decide +kernel
theorem dX1_unite_34 : decode cX1_unite 34 = .ok (.iaload, 1) := by decide +kernel
theorem dX1_unite_35 : decode cX1_unite 35 = .ok (.aload_n 2, 1) := by decide +kernel
theorem dX1_unite_36 : decode cX1_unite 36 = .ok (.getfield 19, 3) := by decide +kernel
theorem dX1_unite_39 : decode cX1_unite 39 = .ok (.iload_n 3, 1) := by decide +kernel
theorem dX1_unite_40 : decode cX1_unite 40 = .ok (.iaload, 1) := by decide +kernel
theorem dX1_unite_41 : decode cX1_unite 41 = .ok (.aload_n 2, 1) := by decide +kernel
theorem dX1_unite_42 : decode cX1_unite 42 = .ok (.getfield 22, 3) := by decide +kernel
theorem dX1_unite_45 : decode cX1_unite 45 = .ok (.iload_n 3, 1) := by decide +kernel
theorem dX1_unite_46 : decode cX1_unite 46 = .ok (.iaload, 1) := by decide +kernel
theorem dX1_unite_47 : decode cX1_unite 47 = .ok (.invokevirtual 76, 3) := by decide +kernel
theorem dX1_unite_50 : decode cX1_unite 50 = .ok (.iinc 3 1, 3) := by decide +kernel
theorem dX1_unite_53 : decode cX1_unite 53 = .ok (.goto (-46), 3) := by decide +kernel
theorem dX1_unite_56 : decode cX1_unite 56 = .ok (.return_, 1) := by decide +kernel
theorem dX1_select_0 : decode cX1_select 0 = .ok (.aload_n 0, 1) := by decide +kernel
theorem dX1_select_1 : decode cX1_select 1 = .ok (.iconst 0, 1) := by decide +kernel
theorem dX1_select_2 : decode cX1_select 2 = .ok (.putfield 9, 3) := by decide +kernel
theorem dX1_select_5 : decode cX1_select 5 = .ok (.iconst 0, 1) := by decide +kernel
theorem dX1_select_6 : decode cX1_select 6 = .ok (.istore 4, 2) := by decide +kernel
theorem dX1_select_8 : decode cX1_select 8 = .ok (.iload 4, 2) := by decide +kernel
theorem dX1_select_10 : decode cX1_select 10 = .ok (.aload_n 1, 1) := by decide +kernel
theorem dX1_select_11 : decode cX1_select 11 = .ok (.getfield 9, 3) := by decide +kernel
theorem dX1_select_14 : decode cX1_select 14 = .ok (.if_icmp .ge 39, 3) := by decide +kernel
theorem dX1_select_17 : decode cX1_select 17 = .ok (.aload_n 2, 1) := by decide +kernel
theorem dX1_select_18 : decode cX1_select 18 = .ok (.aload_n 1, 1) := by decide +kernel
theorem dX1_select_19 : decode cX1_select 19 = .ok (.getfield 15, 3) := by decide +kernel
theorem dX1_select_22 : decode cX1_select 22 = .ok (.iload 4, 2) := by decide +kernel
theorem dX1_select_24 : decode cX1_select 24 = .ok (.iaload, 1) := by decide +kernel
theorem dX1_select_25 : decode cX1_select 25 = .ok (.invokevirtual 72, 3) := by decide +kernel
theorem dX1_select_28 : decode cX1_select 28 = .ok (.ifCond .lt 7, 3) := by decide +kernel
theorem dX1_select_31 : decode cX1_select 31 = .ok (.iconst 1, 1) := by decide +kernel
theorem dX1_select_32 : decode cX1_select 32 = .ok (.goto 4, 3) := by decide +kernel
theorem dX1_select_35 : decode cX1_select 35 = .ok (.iconst 0, 1) := by decide +kernel
theorem dX1_select_36 : decode cX1_select 36 = .ok (.iload_n 3, 1) := by decide +kernel
theorem dX1_select_37 : decode cX1_select 37 = .ok (.if_icmp .ne 10, 3) := by decide +kernel
theorem dX1_select_40 : decode cX1_select 40 = .ok (.aload_n 0, 1) := by decide +kernel
theorem dX1_select_41 : decode cX1_select 41 = .ok (.aload_n 1, 1) := by decide +kernel
theorem dX1_select_42 : decode cX1_select 42 = .ok (.iload 4, 2) := by decide +kernel
theorem dX1_select_44 : decode cX1_select 44 = .ok (.invokevirtual 80, 3) := by decide +kernel
theorem dX1_select_47 : decode cX1_select 47 = .ok (.iinc 4 1, 3) := by decide +kernel
theorem dX1_select_50 : decode cX1_select 50 = .ok (.goto (-42), 3) := by decide +kernel
theorem dX1_select_53 : decode cX1_select 53 = .ok (.return_, 1) := by decide +kernel
theorem dX1_choose_0 : decode cX1_choose 0 = .ok (.aload_n 0, 1) := by decide +kernel
theorem dX1_choose_1 : decode cX1_choose 1 = .ok (.iconst 0, 1) := by decide +kernel
theorem dX1_choose_2 : decode cX1_choose 2 = .ok (.putfield 9, 3) := by decide +kernel
theorem dX1_choose_5 : decode cX1_choose 5 = .ok (.iconst 0, 1) := by decide +kernel
theorem dX1_choose_6 : decode cX1_choose 6 = .ok (.istore 4, 2) := by decide +kernel
theorem dX1_choose_8 : decode cX1_choose 8 = .ok (.iload 4, 2) := by decide +kernel
theorem dX1_choose_10 : decode cX1_choose 10 = .ok (.aload_n 1, 1) := by decide +kernel
theorem dX1_choose_11 : decode cX1_choose 11 = .ok (.getfield 9, 3) := by decide +kernel
theorem dX1_choose_14 : decode cX1_choose 14 = .ok (.if_icmp .ge 33, 3) := by decide +kernel
theorem dX1_choose_17 : decode cX1_choose 17 = .ok (.iload_n 2, 1) := by decide +kernel
theorem dX1_choose_18 : decode cX1_choose 18 = .ok (.ifCond .le 23, 3) := by decide +kernel
theorem dX1_choose_21 : decode cX1_choose 21 = .ok (.aload_n 1, 1) := by decide +kernel
theorem dX1_choose_22 : decode cX1_choose 22 = .ok (.getfield 19, 3) := by decide +kernel
theorem dX1_choose_25 : decode cX1_choose 25 = .ok (.iload 4, 2) := by decide +kernel
theorem dX1_choose_27 : decode cX1_choose 27 = .ok (.iaload, 1) := by decide +kernel
theorem dX1_choose_28 : decode cX1_choose 28 = .ok (.iload_n 2, 1) := by decide +kernel
theorem dX1_choose_29 : decode cX1_choose 29 = .ok (.irem, 1) := by decide +kernel
theorem dX1_choose_30 : decode cX1_choose 30 = .ok (.iload_n 3, 1) := by decide +kernel
theorem dX1_choose_31 : decode cX1_choose 31 = .ok (.if_icmp .ne 10, 3) := by decide +kernel
theorem dX1_choose_34 : decode cX1_choose 34 = .ok (.aload_n 0, 1) := by decide +kernel
theorem dX1_choose_35 : decode cX1_choose 35 = .ok (.aload_n 1, 1) := by decide +kernel
theorem dX1_choose_36 : decode cX1_choose 36 = .ok (.iload 4, 2) := by decide +kernel
theorem dX1_choose_38 : decode cX1_choose 38 = .ok (.invokevirtual 80, 3) := by decide +kernel
theorem dX1_choose_41 : decode cX1_choose 41 = .ok (.iinc 4 1, 3) := by decide +kernel
theorem dX1_choose_44 : decode cX1_choose 44 = .ok (.goto (-36), 3) := by decide +kernel
theorem dX1_choose_47 : decode cX1_choose 47 = .ok (.return_, 1) := by decide +kernel
theorem dX1_append_0 : decode cX1_append 0 = .ok (.aload_n 0, 1) := by decide +kernel
theorem dX1_append_1 : decode cX1_append 1 = .ok (.getfield 9, 3) := by decide +kernel
theorem dX1_append_4 : decode cX1_append 4 = .ok (.bipush 24, 2) := by decide +kernel
theorem dX1_append_6 : decode cX1_append 6 = .ok (.if_icmp .ge 58, 3) := by decide +kernel
theorem dX1_append_9 : decode cX1_append 9 = .ok (.aload_n 0, 1) := by decide +kernel
theorem dX1_append_10 : decode cX1_append 10 = .ok (.getfield 15, 3) := by decide +kernel
theorem dX1_append_13 : decode cX1_append 13 = .ok (.aload_n 0, 1) := by decide +kernel
theorem dX1_append_14 : decode cX1_append 14 = .ok (.getfield 9, 3) := by decide +kernel
theorem dX1_append_17 : decode cX1_append 17 = .ok (.aload_n 1, 1) := by decide +kernel
theorem dX1_append_18 : decode cX1_append 18 = .ok (.getfield 15, 3) := by decide +kernel
theorem dX1_append_21 : decode cX1_append 21 = .ok (.iload_n 2, 1) := by decide +kernel
theorem dX1_append_22 : decode cX1_append 22 = .ok (.iaload, 1) := by decide +kernel
theorem dX1_append_23 : decode cX1_append 23 = .ok (.iastore, 1) := by decide +kernel
theorem dX1_append_24 : decode cX1_append 24 = .ok (.aload_n 0, 1) := by decide +kernel
theorem dX1_append_25 : decode cX1_append 25 = .ok (.getfield 19, 3) := by decide +kernel
theorem dX1_append_28 : decode cX1_append 28 = .ok (.aload_n 0, 1) := by decide +kernel
theorem dX1_append_29 : decode cX1_append 29 = .ok (.getfield 9, 3) := by decide +kernel
theorem dX1_append_32 : decode cX1_append 32 = .ok (.aload_n 1, 1) := by decide +kernel
theorem dX1_append_33 : decode cX1_append 33 = .ok (.getfield 19, 3) := by decide +kernel
theorem dX1_append_36 : decode cX1_append 36 = .ok (.iload_n 2, 1) := by decide +kernel
theorem dX1_append_37 : decode cX1_append 37 = .ok (.iaload, 1) := by decide +kernel
theorem dX1_append_38 : decode cX1_append 38 = .ok (.iastore, 1) := by decide +kernel
theorem dX1_append_39 : decode cX1_append 39 = .ok (.aload_n 0, 1) := by decide +kernel
theorem dX1_append_40 : decode cX1_append 40 = .ok (.getfield 22, 3) := by decide +kernel
theorem dX1_append_43 : decode cX1_append 43 = .ok (.aload_n 0, 1) := by decide +kernel
theorem dX1_append_44 : decode cX1_append 44 = .ok (.getfield 9, 3) := by decide +kernel
theorem dX1_append_47 : decode cX1_append 47 = .ok (.aload_n 1, 1) := by decide +kernel
theorem dX1_append_48 : decode cX1_append 48 = .ok (.getfield 22, 3) := by decide +kernel
theorem dX1_append_51 : decode cX1_append 51 = .ok (.iload_n 2, 1) := by decide +kernel
theorem dX1_append_52 : decode cX1_append 52 = .ok (.iaload, 1) := by decide +kernel
theorem dX1_append_53 : decode cX1_append 53 = .ok (.iastore, 1) := by decide +kernel
theorem dX1_append_54 : decode cX1_append 54 = .ok (.aload_n 0, 1) := by decide +kernel
theorem dX1_append_55 : decode cX1_append 55 = .ok (.dup, 1) := by decide +kernel
theorem dX1_append_56 : decode cX1_append 56 = .ok (.getfield 9, 3) := by decide +kernel
theorem dX1_append_59 : decode cX1_append 59 = .ok (.iconst 1, 1) := by decide +kernel
theorem dX1_append_60 : decode cX1_append 60 = .ok (.iadd, 1) := by decide +kernel
theorem dX1_append_61 : decode cX1_append 61 = .ok (.putfield 9, 3) := by decide +kernel
theorem dX1_append_64 : decode cX1_append 64 = .ok (.return_, 1) := by decide +kernel
theorem dX1_give_0 : decode cX1_give 0 = .ok (.aload_n 0, 1) := by decide +kernel
theorem dX1_give_1 : decode cX1_give 1 = .ok (.iload_n 1, 1) := by decide +kernel
theorem dX1_give_2 : decode cX1_give 2 = .ok (.invokevirtual 72, 3) := by decide +kernel
theorem dX1_give_5 : decode cX1_give 5 = .ok (.istore 4, 2) := by decide +kernel
theorem dX1_give_7 : decode cX1_give 7 = .ok (.iload 4, 2) := by decide +kernel
theorem dX1_give_9 : decode cX1_give 9 = .ok (.ifCond .lt 14, 3) := by decide +kernel
theorem dX1_give_12 : decode cX1_give 12 = .ok (.aload_n 0, 1) := by decide +kernel
theorem dX1_give_13 : decode cX1_give 13 = .ok (.getfield 19, 3) := by decide +kernel
theorem dX1_give_16 : decode cX1_give 16 = .ok (.iload 4, 2) := by decide +kernel
theorem dX1_give_18 : decode cX1_give 18 = .ok (.iload_n 2, 1) := by decide +kernel
theorem dX1_give_19 : decode cX1_give 19 = .ok (.iastore, 1) := by decide +kernel
theorem dX1_give_20 : decode cX1_give 20 = .ok (.goto 19, 3) := by decide +kernel
theorem dX1_give_23 : decode cX1_give 23 = .ok (.aload_n 0, 1) := by decide +kernel
theorem dX1_give_24 : decode cX1_give 24 = .ok (.getfield 9, 3) := by decide +kernel
theorem dX1_give_27 : decode cX1_give 27 = .ok (.bipush 24, 2) := by decide +kernel
theorem dX1_give_29 : decode cX1_give 29 = .ok (.if_icmp .ge 10, 3) := by decide +kernel
theorem dX1_give_32 : decode cX1_give 32 = .ok (.aload_n 0, 1) := by decide +kernel
theorem dX1_give_33 : decode cX1_give 33 = .ok (.iload_n 1, 1) := by decide +kernel
theorem dX1_give_34 : decode cX1_give 34 = .ok (.iload_n 2, 1) := by decide +kernel
theorem dX1_give_35 : decode cX1_give 35 = .ok (.iload_n 3, 1) := by decide +kernel
theorem dX1_give_36 : decode cX1_give 36 = .ok (.invokevirtual 84, 3) := by decide +kernel
theorem dX1_give_39 : decode cX1_give 39 = .ok (.return_, 1) := by decide +kernel
theorem dX1_insert_0 : decode cX1_insert 0 = .ok (.aload_n 0, 1) := by decide +kernel
theorem dX1_insert_1 : decode cX1_insert 1 = .ok (.getfield 9, 3) := by decide +kernel
theorem dX1_insert_4 : decode cX1_insert 4 = .ok (.istore 4, 2) := by decide +kernel
theorem dX1_insert_6 : decode cX1_insert 6 = .ok (.iload 4, 2) := by decide +kernel
theorem dX1_insert_8 : decode cX1_insert 8 = .ok (.ifCond .le 70, 3) := by decide +kernel
theorem dX1_insert_11 : decode cX1_insert 11 = .ok (.aload_n 0, 1) := by decide +kernel
theorem dX1_insert_12 : decode cX1_insert 12 = .ok (.iload 4, 2) := by decide +kernel
theorem dX1_insert_14 : decode cX1_insert 14 = .ok (.iconst 1, 1) := by decide +kernel
theorem dX1_insert_15 : decode cX1_insert 15 = .ok (.isub, 1) := by decide +kernel
theorem dX1_insert_16 : decode cX1_insert 16 = .ok (.iload_n 1, 1) := by decide +kernel
theorem dX1_insert_17 : decode cX1_insert 17 = .ok (.iload_n 3, 1) := by decide +kernel
theorem dX1_insert_18 : decode cX1_insert 18 = .ok (.invokevirtual 87, 3) := by decide +kernel
theorem dX1_insert_21 : decode cX1_insert 21 = .ok (.ifCond .eq 57, 3) := by decide +kernel
theorem dX1_insert_24 : decode cX1_insert 24 = .ok (.aload_n 0, 1) := by decide +kernel
theorem dX1_insert_25 : decode cX1_insert 25 = .ok (.getfield 15, 3) := by decide +kernel
theorem dX1_insert_28 : decode cX1_insert 28 = .ok (.iload 4, 2) := by decide +kernel
theorem dX1_insert_30 : decode cX1_insert 30 = .ok (.aload_n 0, 1) := by decide +kernel
theorem dX1_insert_31 : decode cX1_insert 31 = .ok (.getfield 15, 3) := by decide +kernel
theorem dX1_insert_34 : decode cX1_insert 34 = .ok (.iload 4, 2) := by decide +kernel
theorem dX1_insert_36 : decode cX1_insert 36 = .ok (.iconst 1, 1) := by decide +kernel
theorem dX1_insert_37 : decode cX1_insert 37 = .ok (.isub, 1) := by decide +kernel
theorem dX1_insert_38 : decode cX1_insert 38 = .ok (.iaload, 1) := by decide +kernel
theorem dX1_insert_39 : decode cX1_insert 39 = .ok (.iastore, 1) := by decide +kernel
theorem dX1_insert_40 : decode cX1_insert 40 = .ok (.aload_n 0, 1) := by decide +kernel
theorem dX1_insert_41 : decode cX1_insert 41 = .ok (.getfield 19, 3) := by decide +kernel
theorem dX1_insert_44 : decode cX1_insert 44 = .ok (.iload 4, 2) := by decide +kernel
theorem dX1_insert_46 : decode cX1_insert 46 = .ok (.aload_n 0, 1) := by decide +kernel
theorem dX1_insert_47 : decode cX1_insert 47 = .ok (.getfield 19, 3) := by decide +kernel
theorem dX1_insert_50 : decode cX1_insert 50 = .ok (.iload 4, 2) := by decide +kernel
theorem dX1_insert_52 : decode cX1_insert 52 = .ok (.iconst 1, 1) := by decide +kernel
theorem dX1_insert_53 : decode cX1_insert 53 = .ok (.isub, 1) := by decide +kernel
theorem dX1_insert_54 : decode cX1_insert 54 = .ok (.iaload, 1) := by decide +kernel
theorem dX1_insert_55 : decode cX1_insert 55 = .ok (.iastore, 1) := by decide +kernel
theorem dX1_insert_56 : decode cX1_insert 56 = .ok (.aload_n 0, 1) := by decide +kernel
theorem dX1_insert_57 : decode cX1_insert 57 = .ok (.getfield 22, 3) := by decide +kernel
theorem dX1_insert_60 : decode cX1_insert 60 = .ok (.iload 4, 2) := by decide +kernel
theorem dX1_insert_62 : decode cX1_insert 62 = .ok (.aload_n 0, 1) := by decide +kernel
theorem dX1_insert_63 : decode cX1_insert 63 = .ok (.getfield 22, 3) := by decide +kernel
theorem dX1_insert_66 : decode cX1_insert 66 = .ok (.iload 4, 2) := by decide +kernel
theorem dX1_insert_68 : decode cX1_insert 68 = .ok (.iconst 1, 1) := by decide +kernel
theorem dX1_insert_69 : decode cX1_insert 69 = .ok (.isub, 1) := by decide +kernel
theorem dX1_insert_70 : decode cX1_insert 70 = .ok (.iaload, 1) := by decide +kernel
theorem dX1_insert_71 : decode cX1_insert 71 = .ok (.iastore, 1) := by decide +kernel
theorem dX1_insert_72 : decode cX1_insert 72 = .ok (.iinc 4 (-1), 3) := by decide +kernel
theorem dX1_insert_75 : decode cX1_insert 75 = .ok (.goto (-69), 3) := by decide +kernel
theorem dX1_insert_78 : decode cX1_insert 78 = .ok (.aload_n 0, 1) := by decide +kernel
theorem dX1_insert_79 : decode cX1_insert 79 = .ok (.getfield 15, 3) := by decide +kernel
theorem dX1_insert_82 : decode cX1_insert 82 = .ok (.iload 4, 2) := by decide +kernel
theorem dX1_insert_84 : decode cX1_insert 84 = .ok (.iload_n 1, 1) := by decide +kernel
theorem dX1_insert_85 : decode cX1_insert 85 = .ok (.iastore, 1) := by decide +kernel
theorem dX1_insert_86 : decode cX1_insert 86 = .ok (.aload_n 0, 1) := by decide +kernel
theorem dX1_insert_87 : decode cX1_insert 87 = .ok (.getfield 19, 3) := by decide +kernel
theorem dX1_insert_90 : decode cX1_insert 90 = .ok (.iload 4, 2) := by decide +kernel
theorem dX1_insert_92 : decode cX1_insert 92 = .ok (.iload_n 2, 1) := by decide +kernel
theorem dX1_insert_93 : decode cX1_insert 93 = .ok (.iastore, 1) := by decide +kernel
theorem dX1_insert_94 : decode cX1_insert 94 = .ok (.aload_n 0, 1) := by decide +kernel
theorem dX1_insert_95 : decode cX1_insert 95 = .ok (.getfield 22, 3) := by decide +kernel
theorem dX1_insert_98 : decode cX1_insert 98 = .ok (.iload 4, 2) := by decide +kernel
theorem dX1_insert_100 : decode cX1_insert 100 = .ok (.iload_n 3, 1) := by decide +kernel
theorem dX1_insert_101 : decode cX1_insert 101 = .ok (.iastore, 1) := by decide +kernel
theorem dX1_insert_102 : decode cX1_insert 102 = .ok (.aload_n 0, 1) := by decide +kernel
theorem dX1_insert_103 : decode cX1_insert 103 = .ok (.dup, 1) := by decide +kernel
theorem dX1_insert_104 : decode cX1_insert 104 = .ok (.getfield 9, 3) := by decide +kernel
theorem dX1_insert_107 : decode cX1_insert 107 = .ok (.iconst 1, 1) := by decide +kernel
theorem dX1_insert_108 : decode cX1_insert 108 = .ok (.iadd, 1) := by decide +kernel
theorem dX1_insert_109 : decode cX1_insert 109 = .ok (.putfield 9, 3) := by decide +kernel
theorem dX1_insert_112 : decode cX1_insert 112 = .ok (.return_, 1) := by decide +kernel
theorem dX1_isBehind_0 : decode cX1_isBehind 0 = .ok (.aload_n 0, 1) := by decide +kernel
theorem dX1_isBehind_1 : decode cX1_isBehind 1 = .ok (.getfield 22, 3) := by decide +kernel
theorem dX1_isBehind_4 : decode cX1_isBehind 4 = .ok (.iload_n 1, 1) := by decide +kernel
theorem dX1_isBehind_5 : decode cX1_isBehind 5 = .ok (.iaload, 1) := by decide +kernel
theorem dX1_isBehind_6 : decode cX1_isBehind 6 = .ok (.iload_n 3, 1) := by decide +kernel
theorem dX1_isBehind_7 : decode cX1_isBehind 7 = .ok (.if_icmp .gt 23, 3) := by decide +kernel
theorem dX1_isBehind_10 : decode cX1_isBehind 10 = .ok (.aload_n 0, 1) := by decide +kernel
theorem dX1_isBehind_11 : decode cX1_isBehind 11 = .ok (.getfield 22, 3) := by decide +kernel
theorem dX1_isBehind_14 : decode cX1_isBehind 14 = .ok (.iload_n 1, 1) := by decide +kernel
theorem dX1_isBehind_15 : decode cX1_isBehind 15 = .ok (.iaload, 1) := by decide +kernel
theorem dX1_isBehind_16 : decode cX1_isBehind 16 = .ok (.iload_n 3, 1) := by decide +kernel
theorem dX1_isBehind_17 : decode cX1_isBehind 17 = .ok (.if_icmp .ne 17, 3) := by decide +kernel
theorem dX1_isBehind_20 : decode cX1_isBehind 20 = .ok (.aload_n 0, 1) := by decide +kernel
theorem dX1_isBehind_21 : decode cX1_isBehind 21 = .ok (.getfield 15, 3) := by decide +kernel
theorem dX1_isBehind_24 : decode cX1_isBehind 24 = .ok (.iload_n 1, 1) := by decide +kernel
theorem dX1_isBehind_25 : decode cX1_isBehind 25 = .ok (.iaload, 1) := by decide +kernel
theorem dX1_isBehind_26 : decode cX1_isBehind 26 = .ok (.iload_n 2, 1) := by decide +kernel
theorem dX1_isBehind_27 : decode cX1_isBehind 27 = .ok (.if_icmp .le 7, 3) := by decide +kernel
theorem dX1_isBehind_30 : decode cX1_isBehind 30 = .ok (.iconst 1, 1) := by decide +kernel
theorem dX1_isBehind_31 : decode cX1_isBehind 31 = .ok (.goto 4, 3) := by decide +kernel
theorem dX1_isBehind_34 : decode cX1_isBehind 34 = .ok (.iconst 0, 1) := by decide +kernel
theorem dX1_isBehind_35 : decode cX1_isBehind 35 = .ok (.ireturn, 1) := by decide +kernel
theorem dX1_drop_0 : decode cX1_drop 0 = .ok (.aload_n 0, 1) := by decide +kernel
theorem dX1_drop_1 : decode cX1_drop 1 = .ok (.iload_n 1, 1) := by decide +kernel
theorem dX1_drop_2 : decode cX1_drop 2 = .ok (.invokevirtual 72, 3) := by decide +kernel
theorem dX1_drop_5 : decode cX1_drop 5 = .ok (.istore_n 2, 1) := by decide +kernel
theorem dX1_drop_6 : decode cX1_drop 6 = .ok (.iload_n 2, 1) := by decide +kernel
theorem dX1_drop_7 : decode cX1_drop 7 = .ok (.ifCond .ge 4, 3) := by decide +kernel
theorem dX1_drop_10 : decode cX1_drop 10 = .ok (.return_, 1) := by decide +kernel
theorem dX1_drop_11 : decode cX1_drop 11 = .ok (.iload_n 2, 1) := by decide +kernel
theorem dX1_drop_12 : decode cX1_drop 12 = .ok (.iconst 1, 1) := by decide +kernel
theorem dX1_drop_13 : decode cX1_drop 13 = .ok (.iadd, 1) := by decide +kernel
theorem dX1_drop_14 : decode cX1_drop 14 = .ok (.istore_n 3, 1) := by decide +kernel
theorem dX1_drop_15 : decode cX1_drop 15 = .ok (.iload_n 3, 1) := by decide +kernel
theorem dX1_drop_16 : decode cX1_drop 16 = .ok (.aload_n 0, 1) := by decide +kernel
theorem dX1_drop_17 : decode cX1_drop 17 = .ok (.getfield 9, 3) := by decide +kernel
theorem dX1_drop_20 : decode cX1_drop 20 = .ok (.if_icmp .ge 51, 3) := by decide +kernel
theorem dX1_drop_23 : decode cX1_drop 23 = .ok (.aload_n 0, 1) := by decide +kernel
theorem dX1_drop_24 : decode cX1_drop 24 = .ok (.getfield 15, 3) := by decide +kernel
theorem dX1_drop_27 : decode cX1_drop 27 = .ok (.iload_n 3, 1) := by decide +kernel
theorem dX1_drop_28 : decode cX1_drop 28 = .ok (.iconst 1, 1) := by decide +kernel
theorem dX1_drop_29 : decode cX1_drop 29 = .ok (.isub, 1) := by decide +kernel
theorem dX1_drop_30 : decode cX1_drop 30 = .ok (.aload_n 0, 1) := by decide +kernel
theorem dX1_drop_31 : decode cX1_drop 31 = .ok (.getfield 15, 3) := by decide +kernel
theorem dX1_drop_34 : decode cX1_drop 34 = .ok (.iload_n 3, 1) := by decide +kernel
theorem dX1_drop_35 : decode cX1_drop 35 = .ok (.iaload, 1) := by decide +kernel
theorem dX1_drop_36 : decode cX1_drop 36 = .ok (.iastore, 1) := by decide +kernel
theorem dX1_drop_37 : decode cX1_drop 37 = .ok (.aload_n 0, 1) := by decide +kernel
theorem dX1_drop_38 : decode cX1_drop 38 = .ok (.getfield 19, 3) := by decide +kernel
theorem dX1_drop_41 : decode cX1_drop 41 = .ok (.iload_n 3, 1) := by decide +kernel
theorem dX1_drop_42 : decode cX1_drop 42 = .ok (.iconst 1, 1) := by decide +kernel
theorem dX1_drop_43 : decode cX1_drop 43 = .ok (.isub, 1) := by decide +kernel
theorem dX1_drop_44 : decode cX1_drop 44 = .ok (.aload_n 0, 1) := by decide +kernel
theorem dX1_drop_45 : decode cX1_drop 45 = .ok (.getfield 19, 3) := by decide +kernel
theorem dX1_drop_48 : decode cX1_drop 48 = .ok (.iload_n 3, 1) := by decide +kernel
theorem dX1_drop_49 : decode cX1_drop 49 = .ok (.iaload, 1) := by decide +kernel
theorem dX1_drop_50 : decode cX1_drop 50 = .ok (.iastore, 1) := by decide +kernel
theorem dX1_drop_51 : decode cX1_drop 51 = .ok (.aload_n 0, 1) := by decide +kernel
theorem dX1_drop_52 : decode cX1_drop 52 = .ok (.getfield 22, 3) := by decide +kernel
theorem dX1_drop_55 : decode cX1_drop 55 = .ok (.iload_n 3, 1) := by decide +kernel
theorem dX1_drop_56 : decode cX1_drop 56 = .ok (.iconst 1, 1) := by decide +kernel
theorem dX1_drop_57 : decode cX1_drop 57 = .ok (.isub, 1) := by decide +kernel
theorem dX1_drop_58 : decode cX1_drop 58 = .ok (.aload_n 0, 1) := by decide +kernel
theorem dX1_drop_59 : decode cX1_drop 59 = .ok (.getfield 22, 3) := by decide +kernel
theorem dX1_drop_62 : decode cX1_drop 62 = .ok (.iload_n 3, 1) := by decide +kernel
theorem dX1_drop_63 : decode cX1_drop 63 = .ok (.iaload, 1) := by decide +kernel
theorem dX1_drop_64 : decode cX1_drop 64 = .ok (.iastore, 1) := by decide +kernel
theorem dX1_drop_65 : decode cX1_drop 65 = .ok (.iinc 3 1, 3) := by decide +kernel
theorem dX1_drop_68 : decode cX1_drop 68 = .ok (.goto (-53), 3) := by decide +kernel
theorem dX1_drop_71 : decode cX1_drop 71 = .ok (.aload_n 0, 1) := by decide +kernel
theorem dX1_drop_72 : decode cX1_drop 72 = .ok (.dup, 1) := by decide +kernel
theorem dX1_drop_73 : decode cX1_drop 73 = .ok (.getfield 9, 3) := by decide +kernel
theorem dX1_drop_76 : decode cX1_drop 76 = .ok (.iconst 1, 1) := by decide +kernel
theorem dX1_drop_77 : decode cX1_drop 77 = .ok (.isub, 1) := by decide +kernel
theorem dX1_drop_78 : decode cX1_drop 78 = .ok (.putfield 9, 3) := by decide +kernel
theorem dX1_drop_81 : decode cX1_drop 81 = .ok (.return_, 1) := by decide +kernel
theorem dX1_indexOfKey_0 : decode cX1_indexOfKey 0 = .ok (.iconst 0, 1) := by decide +kernel
theorem dX1_indexOfKey_1 : decode cX1_indexOfKey 1 = .ok (.istore_n 2, 1) := by decide +kernel
theorem dX1_indexOfKey_2 : decode cX1_indexOfKey 2 = .ok (.iload_n 2, 1) := by decide +kernel
theorem dX1_indexOfKey_3 : decode cX1_indexOfKey 3 = .ok (.aload_n 0, 1) := by decide +kernel
theorem dX1_indexOfKey_4 : decode cX1_indexOfKey 4 = .ok (.getfield 9, 3) := by decide +kernel
theorem dX1_indexOfKey_7 : decode cX1_indexOfKey 7 = .ok (.if_icmp .ge 21, 3) := by decide +kernel
theorem dX1_indexOfKey_10 : decode cX1_indexOfKey 10 = .ok (.aload_n 0, 1) := by decide +kernel
theorem dX1_indexOfKey_11 : decode cX1_indexOfKey 11 = .ok (.getfield 15, 3) := by decide +kernel
theorem dX1_indexOfKey_14 : decode cX1_indexOfKey 14 = .ok (.iload_n 2, 1) := by decide +kernel
theorem dX1_indexOfKey_15 : decode cX1_indexOfKey 15 = .ok (.iaload, 1) := by decide +kernel
theorem dX1_indexOfKey_16 : decode cX1_indexOfKey 16 = .ok (.iload_n 1, 1) := by decide +kernel
theorem dX1_indexOfKey_17 : decode cX1_indexOfKey 17 = .ok (.if_icmp .ne 5, 3) := by decide +kernel
theorem dX1_indexOfKey_20 : decode cX1_indexOfKey 20 = .ok (.iload_n 2, 1) := by decide +kernel
theorem dX1_indexOfKey_21 : decode cX1_indexOfKey 21 = .ok (.ireturn, 1) := by decide +kernel
theorem dX1_indexOfKey_22 : decode cX1_indexOfKey 22 = .ok (.iinc 2 1, 3) := by decide +kernel
theorem dX1_indexOfKey_25 : decode cX1_indexOfKey 25 = .ok (.goto (-23), 3) := by decide +kernel
theorem dX1_indexOfKey_28 : decode cX1_indexOfKey 28 = .ok (.iconst (-1), 1) := by decide +kernel
theorem dX1_indexOfKey_29 : decode cX1_indexOfKey 29 = .ok (.ireturn, 1) := by decide +kernel
theorem dX1_hasRoomFor_0 : decode cX1_hasRoomFor 0 = .ok (.aload_n 0, 1) := by decide +kernel
theorem dX1_hasRoomFor_1 : decode cX1_hasRoomFor 1 = .ok (.getfield 9, 3) := by decide +kernel
theorem dX1_hasRoomFor_4 : decode cX1_hasRoomFor 4 = .ok (.bipush 24, 2) := by decide +kernel
theorem dX1_hasRoomFor_6 : decode cX1_hasRoomFor 6 = .ok (.if_icmp .lt 11, 3) := by decide +kernel
theorem dX1_hasRoomFor_9 : decode cX1_hasRoomFor 9 = .ok (.aload_n 0, 1) := by decide +kernel
theorem dX1_hasRoomFor_10 : decode cX1_hasRoomFor 10 = .ok (.iload_n 1, 1) := by decide +kernel
theorem dX1_hasRoomFor_11 : decode cX1_hasRoomFor 11 = .ok (.invokevirtual 72, 3) := by decide +kernel
theorem dX1_hasRoomFor_14 : decode cX1_hasRoomFor 14 = .ok (.ifCond .lt 7, 3) := by decide +kernel
theorem dX1_hasRoomFor_17 : decode cX1_hasRoomFor 17 = .ok (.iconst 1, 1) := by decide +kernel
theorem dX1_hasRoomFor_18 : decode cX1_hasRoomFor 18 = .ok (.goto 4, 3) := by decide +kernel
theorem dX1_hasRoomFor_21 : decode cX1_hasRoomFor 21 = .ok (.iconst 0, 1) := by decide +kernel
theorem dX1_hasRoomFor_22 : decode cX1_hasRoomFor 22 = .ok (.ireturn, 1) := by decide +kernel
theorem dX1_keysAlsoIn_0 : decode cX1_keysAlsoIn 0 = .ok (.iconst 0, 1) := by decide +kernel
theorem dX1_keysAlsoIn_1 : decode cX1_keysAlsoIn 1 = .ok (.istore_n 2, 1) := by decide +kernel
theorem dX1_keysAlsoIn_2 : decode cX1_keysAlsoIn 2 = .ok (.iconst 0, 1) := by decide +kernel
theorem dX1_keysAlsoIn_3 : decode cX1_keysAlsoIn 3 = .ok (.istore_n 3, 1) := by decide +kernel
theorem dX1_keysAlsoIn_4 : decode cX1_keysAlsoIn 4 = .ok (.iload_n 3, 1) := by decide +kernel
theorem dX1_keysAlsoIn_5 : decode cX1_keysAlsoIn 5 = .ok (.aload_n 0, 1) := by decide +kernel
theorem dX1_keysAlsoIn_6 : decode cX1_keysAlsoIn 6 = .ok (.getfield 9, 3) := by decide +kernel
theorem dX1_keysAlsoIn_9 : decode cX1_keysAlsoIn 9 = .ok (.if_icmp .ge 25, 3) := by decide +kernel
theorem dX1_keysAlsoIn_12 : decode cX1_keysAlsoIn 12 = .ok (.aload_n 1, 1) := by decide +kernel
theorem dX1_keysAlsoIn_13 : decode cX1_keysAlsoIn 13 = .ok (.aload_n 0, 1) := by decide +kernel
theorem dX1_keysAlsoIn_14 : decode cX1_keysAlsoIn 14 = .ok (.getfield 15, 3) := by decide +kernel
theorem dX1_keysAlsoIn_17 : decode cX1_keysAlsoIn 17 = .ok (.iload_n 3, 1) := by decide +kernel
theorem dX1_keysAlsoIn_18 : decode cX1_keysAlsoIn 18 = .ok (.iaload, 1) := by decide +kernel
theorem dX1_keysAlsoIn_19 : decode cX1_keysAlsoIn 19 = .ok (.invokevirtual 72, 3) := by decide +kernel
theorem dX1_keysAlsoIn_22 : decode cX1_keysAlsoIn 22 = .ok (.ifCond .lt 6, 3) := by decide +kernel
theorem dX1_keysAlsoIn_25 : decode cX1_keysAlsoIn 25 = .ok (.iinc 2 1, 3) := by decide +kernel
theorem dX1_keysAlsoIn_28 : decode cX1_keysAlsoIn 28 = .ok (.iinc 3 1, 3) := by decide +kernel
theorem dX1_keysAlsoIn_31 : decode cX1_keysAlsoIn 31 = .ok (.goto (-27), 3) := by decide +kernel
theorem dX1_keysAlsoIn_34 : decode cX1_keysAlsoIn 34 = .ok (.iload_n 2, 1) := by decide +kernel
theorem dX1_keysAlsoIn_35 : decode cX1_keysAlsoIn 35 = .ok (.ireturn, 1) := by decide +kernel
theorem dX1_pairsAlsoIn_0 : decode cX1_pairsAlsoIn 0 = .ok (.iconst 0, 1) := by decide +kernel
theorem dX1_pairsAlsoIn_1 : decode cX1_pairsAlsoIn 1 = .ok (.istore_n 2, 1) := by decide +kernel
theorem dX1_pairsAlsoIn_2 : decode cX1_pairsAlsoIn 2 = .ok (.iconst 0, 1) := by decide +kernel
theorem dX1_pairsAlsoIn_3 : decode cX1_pairsAlsoIn 3 = .ok (.istore_n 3, 1) := by decide +kernel
theorem dX1_pairsAlsoIn_4 : decode cX1_pairsAlsoIn 4 = .ok (.iload_n 3, 1) := by decide +kernel
theorem dX1_pairsAlsoIn_5 : decode cX1_pairsAlsoIn 5 = .ok (.aload_n 0, 1) := by decide +kernel
theorem dX1_pairsAlsoIn_6 : decode cX1_pairsAlsoIn 6 = .ok (.getfield 9, 3) := by decide +kernel
theorem dX1_pairsAlsoIn_9 : decode cX1_pairsAlsoIn 9 = .ok (.if_icmp .ge 45, 3) := by decide +kernel
theorem dX1_pairsAlsoIn_12 : decode cX1_pairsAlsoIn 12 = .ok (.aload_n 1, 1) := by decide +kernel
theorem dX1_pairsAlsoIn_13 : decode cX1_pairsAlsoIn 13 = .ok (.aload_n 0, 1) := by decide +kernel
theorem dX1_pairsAlsoIn_14 : decode cX1_pairsAlsoIn 14 = .ok (.getfield 15, 3) := by decide +kernel
theorem dX1_pairsAlsoIn_17 : decode cX1_pairsAlsoIn 17 = .ok (.iload_n 3, 1) := by decide +kernel
theorem dX1_pairsAlsoIn_18 : decode cX1_pairsAlsoIn 18 = .ok (.iaload, 1) := by decide +kernel
theorem dX1_pairsAlsoIn_19 : decode cX1_pairsAlsoIn 19 = .ok (.invokevirtual 72, 3) := by decide +kernel
theorem dX1_pairsAlsoIn_22 : decode cX1_pairsAlsoIn 22 = .ok (.istore 4, 2) := by decide +kernel
theorem dX1_pairsAlsoIn_24 : decode cX1_pairsAlsoIn 24 = .ok (.iload 4, 2) := by decide +kernel
theorem dX1_pairsAlsoIn_26 : decode cX1_pairsAlsoIn 26 = .ok (.ifCond .lt 22, 3) := by decide +kernel
theorem dX1_pairsAlsoIn_29 : decode cX1_pairsAlsoIn 29 = .ok (.aload_n 1, 1) := by decide +kernel
theorem dX1_pairsAlsoIn_30 : decode cX1_pairsAlsoIn 30 = .ok (.getfield 19, 3) := by decide +kernel
theorem dX1_pairsAlsoIn_33 : decode cX1_pairsAlsoIn 33 = .ok (.iload 4, 2) := by decide +kernel
theorem dX1_pairsAlsoIn_35 : decode cX1_pairsAlsoIn 35 = .ok (.iaload, 1) := by decide +kernel
theorem dX1_pairsAlsoIn_36 : decode cX1_pairsAlsoIn 36 = .ok (.aload_n 0, 1) := by decide +kernel
theorem dX1_pairsAlsoIn_37 : decode cX1_pairsAlsoIn 37 = .ok (.getfield 19, 3) := by decide +kernel
theorem dX1_pairsAlsoIn_40 : decode cX1_pairsAlsoIn 40 = .ok (.iload_n 3, 1) := by decide +kernel
theorem dX1_pairsAlsoIn_41 : decode cX1_pairsAlsoIn 41 = .ok (.iaload, 1) := by decide +kernel
theorem dX1_pairsAlsoIn_42 : decode cX1_pairsAlsoIn 42 = .ok (.if_icmp .ne 6, 3) := by decide +kernel
theorem dX1_pairsAlsoIn_45 : decode cX1_pairsAlsoIn 45 = .ok (.iinc 2 1, 3) := by decide +kernel
theorem dX1_pairsAlsoIn_48 : decode cX1_pairsAlsoIn 48 = .ok (.iinc 3 1, 3) := by decide +kernel
theorem dX1_pairsAlsoIn_51 : decode cX1_pairsAlsoIn 51 = .ok (.goto (-47), 3) := by decide +kernel
theorem dX1_pairsAlsoIn_54 : decode cX1_pairsAlsoIn 54 = .ok (.iload_n 2, 1) := by decide +kernel
theorem dX1_pairsAlsoIn_55 : decode cX1_pairsAlsoIn 55 = .ok (.ireturn, 1) := by decide +kernel
theorem dX1_layNodes_0 : decode cX1_layNodes 0 = .ok (.aload_n 0, 1) := by decide +kernel
theorem dX1_layNodes_1 : decode cX1_layNodes 1 = .ok (.iconst 0, 1) := by decide +kernel
theorem dX1_layNodes_2 : decode cX1_layNodes 2 = .ok (.putfield 28, 3) := by decide +kernel
theorem dX1_layNodes_5 : decode cX1_layNodes 5 = .ok (.aload_n 0, 1) := by decide +kernel
theorem dX1_layNodes_6 : decode cX1_layNodes 6 = .ok (.iconst 0, 1) := by decide +kernel
theorem dX1_layNodes_7 : decode cX1_layNodes 7 = .ok (.iconst 0, 1) := by decide +kernel
theorem dX1_layNodes_8 : decode cX1_layNodes 8 = .ok (.aload_n 0, 1) := by decide +kernel
theorem dX1_layNodes_9 : decode cX1_layNodes 9 = .ok (.getfield 9, 3) := by decide +kernel
theorem dX1_layNodes_12 : decode cX1_layNodes 12 = .ok (.invokestatic 91, 3) := by decide +kernel
theorem dX1_layNodes_15 : decode cX1_layNodes 15 = .ok (.return_, 1) := by decide +kernel
theorem dX1_layTree_0 : decode cX1_layTree 0 = .ok (.iload_n 2, 1) := by decide +kernel
theorem dX1_layTree_1 : decode cX1_layTree 1 = .ok (.iload_n 3, 1) := by decide +kernel
theorem dX1_layTree_2 : decode cX1_layTree 2 = .ok (.if_icmp .ge 12, 3) := by decide +kernel
theorem dX1_layTree_5 : decode cX1_layTree 5 = .ok (.aload_n 0, 1) := by decide +kernel
theorem dX1_layTree_6 : decode cX1_layTree 6 = .ok (.getfield 28, 3) := by decide +kernel
theorem dX1_layTree_9 : decode cX1_layTree 9 = .ok (.bipush 96, 2) := by decide +kernel
theorem dX1_layTree_11 : decode cX1_layTree 11 = .ok (.if_icmp .lt 4, 3) := by decide +kernel
theorem dX1_layTree_14 : decode cX1_layTree 14 = .ok (.return_, 1) := by decide +kernel
theorem dX1_layTree_15 : decode cX1_layTree 15 = .ok (.aload_n 0, 1) := by decide +kernel
theorem dX1_layTree_16 : decode cX1_layTree 16 = .ok (.getfield 28, 3) := by decide +kernel
theorem dX1_layTree_19 : decode cX1_layTree 19 = .ok (.istore 4, 2) := by decide +kernel
theorem dX1_layTree_21 : decode cX1_layTree 21 = .ok (.aload_n 0, 1) := by decide +kernel
theorem dX1_layTree_22 : decode cX1_layTree 22 = .ok (.dup, 1) := by decide +kernel
theorem dX1_layTree_23 : decode cX1_layTree 23 = .ok (.getfield 28, 3) := by decide +kernel
theorem dX1_layTree_26 : decode cX1_layTree 26 = .ok (.iconst 1, 1) := by decide +kernel
theorem dX1_layTree_27 : decode cX1_layTree 27 = .ok (.iadd, 1) := by decide +kernel
theorem dX1_layTree_28 : decode cX1_layTree 28 = .ok (.putfield 28, 3) := by decide +kernel
theorem dX1_layTree_31 : decode cX1_layTree 31 = .ok (.aload_n 0, 1) := by decide +kernel
theorem dX1_layTree_32 : decode cX1_layTree 32 = .ok (.iload_n 1, 1) := by decide +kernel
theorem dX1_layTree_33 : decode cX1_layTree 33 = .ok (.iload_n 2, 1) := by decide +kernel
theorem dX1_layTree_34 : decode cX1_layTree 34 = .ok (.iload_n 3, 1) := by decide +kernel
theorem dX1_layTree_35 : decode cX1_layTree 35 = .ok (.invokevirtual 95, 3) := by decide +kernel
theorem dX1_layTree_38 : decode cX1_layTree 38 = .ok (.istore 5, 2) := by decide +kernel
theorem dX1_layTree_40 : decode cX1_layTree 40 = .ok (.aload_n 0, 1) := by decide +kernel
theorem dX1_layTree_41 : decode cX1_layTree 41 = .ok (.getfield 34, 3) := by decide +kernel
theorem dX1_layTree_44 : decode cX1_layTree 44 = .ok (.iload 4, 2) := by decide +kernel
theorem dX1_layTree_46 : decode cX1_layTree 46 = .ok (.iload 5, 2) := by decide +kernel
theorem dX1_layTree_48 : decode cX1_layTree 48 = .ok (.iastore, 1) := by decide +kernel
theorem dX1_layTree_49 : decode cX1_layTree 49 = .ok (.aload_n 0, 1) := by decide +kernel
theorem dX1_layTree_50 : decode cX1_layTree 50 = .ok (.getfield 37, 3) := by decide +kernel
theorem dX1_layTree_53 : decode cX1_layTree 53 = .ok (.iload 4, 2) := by decide +kernel
theorem dX1_layTree_55 : decode cX1_layTree 55 = .ok (.iload_n 1, 1) := by decide +kernel
theorem dX1_layTree_56 : decode cX1_layTree 56 = .ok (.iastore, 1) := by decide +kernel
theorem dX1_layTree_57 : decode cX1_layTree 57 = .ok (.aload_n 0, 1) := by decide +kernel
theorem dX1_layTree_58 : decode cX1_layTree 58 = .ok (.getfield 40, 3) := by decide +kernel
theorem dX1_layTree_61 : decode cX1_layTree 61 = .ok (.iload 4, 2) := by decide +kernel
theorem dX1_layTree_63 : decode cX1_layTree 63 = .ok (.iload_n 2, 1) := by decide +kernel
theorem dX1_layTree_64 : decode cX1_layTree 64 = .ok (.iastore, 1) := by decide +kernel
theorem dX1_layTree_65 : decode cX1_layTree 65 = .ok (.aload_n 0, 1) := by decide +kernel
theorem dX1_layTree_66 : decode cX1_layTree 66 = .ok (.getfield 43, 3) := by decide +kernel
theorem dX1_layTree_69 : decode cX1_layTree 69 = .ok (.iload 4, 2) := by decide +kernel
theorem dX1_layTree_71 : decode cX1_layTree 71 = .ok (.iload_n 3, 1) := by decide +kernel
theorem dX1_layTree_72 : decode cX1_layTree 72 = .ok (.iload_n 2, 1) := by decide +kernel
theorem dX1_layTree_73 : decode cX1_layTree 73 = .ok (.isub, 1) := by decide +kernel
theorem dX1_layTree_74 : decode cX1_layTree 74 = .ok (.iastore, 1) := by decide +kernel
theorem dX1_layTree_75 : decode cX1_layTree 75 = .ok (.aload_n 0, 1) := by decide +kernel
theorem dX1_layTree_76 : decode cX1_layTree 76 = .ok (.getfield 52, 3) := by decide +kernel
theorem dX1_layTree_79 : decode cX1_layTree 79 = .ok (.iload 4, 2) := by decide +kernel
theorem dX1_layTree_81 : decode cX1_layTree 81 = .ok (.iload 5, 2) := by decide +kernel
theorem dX1_layTree_83 : decode cX1_layTree 83 = .ok (.iload_n 1, 1) := by decide +kernel
theorem dX1_layTree_84 : decode cX1_layTree 84 = .ok (.aload_n 0, 1) := by decide +kernel
theorem dX1_layTree_85 : decode cX1_layTree 85 = .ok (.getfield 22, 3) := by decide +kernel
theorem dX1_layTree_88 : decode cX1_layTree 88 = .ok (.iload_n 2, 1) := by decide +kernel
theorem dX1_layTree_89 : decode cX1_layTree 89 = .ok (.iaload, 1) := by decide +kernel
theorem dX1_layTree_90 : decode cX1_layTree 90 = .ok (.aload_n 0, 1) := by decide +kernel
theorem dX1_layTree_91 : decode cX1_layTree 91 = .ok (.getfield 15, 3) := by decide +kernel
theorem dX1_layTree_94 : decode cX1_layTree 94 = .ok (.iload_n 2, 1) := by decide +kernel
theorem dX1_layTree_95 : decode cX1_layTree 95 = .ok (.iaload, 1) := by decide +kernel
theorem dX1_layTree_96 : decode cX1_layTree 96 = .ok (.invokestatic 99, 3) := by decide +kernel
theorem dX1_layTree_99 : decode cX1_layTree 99 = .ok (.lastore, 1) := by decide +kernel
theorem dX1_layTree_100 : decode cX1_layTree 100 = .ok (.iload 5, 2) := by decide +kernel
theorem dX1_layTree_102 : decode cX1_layTree 102 = .ok (.iconst 2, 1) := by decide +kernel
theorem dX1_layTree_103 : decode cX1_layTree 103 = .ok (.if_icmp .ne 20, 3) := by decide +kernel
theorem dX1_layTree_106 : decode cX1_layTree 106 = .ok (.aload_n 0, 1) := by decide +kernel
theorem dX1_layTree_107 : decode cX1_layTree 107 = .ok (.getfield 46, 3) := by decide +kernel
theorem dX1_layTree_110 : decode cX1_layTree 110 = .ok (.iload 4, 2) := by decide +kernel
theorem dX1_layTree_112 : decode cX1_layTree 112 = .ok (.aload_n 0, 1) := by decide +kernel
theorem dX1_layTree_113 : decode cX1_layTree 113 = .ok (.iload_n 1, 1) := by decide +kernel
theorem dX1_layTree_114 : decode cX1_layTree 114 = .ok (.iload_n 2, 1) := by decide +kernel
theorem dX1_layTree_115 : decode cX1_layTree 115 = .ok (.iload_n 3, 1) := by decide +kernel
theorem dX1_layTree_116 : decode cX1_layTree 116 = .ok (.invokestatic 103, 3) := by decide +kernel
theorem dX1_layTree_119 : decode cX1_layTree 119 = .ok (.iastore, 1) := by decide +kernel
theorem dX1_layTree_120 : decode cX1_layTree 120 = .ok (.goto 18, 3) := by decide +kernel
theorem dX1_layTree_123 : decode cX1_layTree 123 = .ok (.aload_n 0, 1) := by decide +kernel
theorem dX1_layTree_124 : decode cX1_layTree 124 = .ok (.getfield 46, 3) := by decide +kernel
theorem dX1_layTree_127 : decode cX1_layTree 127 = .ok (.iload 4, 2) := by decide +kernel
theorem dX1_layTree_129 : decode cX1_layTree 129 = .ok (.iconst (-1), 1) := by decide +kernel
theorem dX1_layTree_130 : decode cX1_layTree 130 = .ok (.iastore, 1) := by decide +kernel
theorem dX1_layTree_131 : decode cX1_layTree 131 = .ok (.aload_n 0, 1) := by decide +kernel
theorem dX1_layTree_132 : decode cX1_layTree 132 = .ok (.iload_n 1, 1) := by decide +kernel
theorem dX1_layTree_133 : decode cX1_layTree 133 = .ok (.iload_n 2, 1) := by decide +kernel
theorem dX1_layTree_134 : decode cX1_layTree 134 = .ok (.iload_n 3, 1) := by decide +kernel
theorem dX1_layTree_135 : decode cX1_layTree 135 = .ok (.invokevirtual 107, 3) := by decide +kernel
theorem dX1_layTree_138 : decode cX1_layTree 138 = .ok (.aload_n 0, 1) := by decide +kernel
theorem dX1_layTree_139 : decode cX1_layTree 139 = .ok (.getfield 49, 3) := by decide +kernel
theorem dX1_layTree_142 : decode cX1_layTree 142 = .ok (.iload 4, 2) := by decide +kernel
theorem dX1_layTree_144 : decode cX1_layTree 144 = .ok (.aload_n 0, 1) := by decide +kernel
theorem dX1_layTree_145 : decode cX1_layTree 145 = .ok (.getfield 28, 3) := by decide +kernel
theorem dX1_layTree_148 : decode cX1_layTree 148 = .ok (.iload 4, 2) := by decide +kernel
theorem dX1_layTree_150 : decode cX1_layTree 150 = .ok (.isub, 1) := by decide +kernel
theorem dX1_layTree_151 : decode cX1_layTree 151 = .ok (.iastore, 1) := by decide +kernel
theorem dX1_layTree_152 : decode cX1_layTree 152 = .ok (.return_, 1) := by decide +kernel
theorem dX1_levelEntries_0 : decode cX1_levelEntries 0 = .ok (.iload_n 2, 1) := by decide +kernel
theorem dX1_levelEntries_1 : decode cX1_levelEntries 1 = .ok (.istore 4, 2) := by decide +kernel
theorem dX1_levelEntries_3 : decode cX1_levelEntries 3 = .ok (.iload 4, 2) := by decide +kernel
theorem dX1_levelEntries_5 : decode cX1_levelEntries 5 = .ok (.iload_n 3, 1) := by decide +kernel
theorem dX1_levelEntries_6 : decode cX1_levelEntries 6 = .ok (.if_icmp .ge 17, 3) := by decide +kernel
theorem dX1_levelEntries_9 : decode cX1_levelEntries 9 = .ok (.aload_n 0, 1) := by decide +kernel
theorem dX1_levelEntries_10 : decode cX1_levelEntries 10 = .ok (.getfield 25, 3) := by decide +kernel
theorem dX1_levelEntries_13 : decode cX1_levelEntries 13 = .ok (.iload 4, 2) := by decide +kernel
theorem dX1_levelEntries_15 : decode cX1_levelEntries 15 = .ok (.iload_n 1, 1) := by decide +kernel
theorem dX1_levelEntries_16 : decode cX1_levelEntries 16 = .ok (.iastore, 1) := by decide +kernel
theorem dX1_levelEntries_17 : decode cX1_levelEntries 17 = .ok (.iinc 4 1, 3) := by decide +kernel
theorem dX1_levelEntries_20 : decode cX1_levelEntries 20 = .ok (.goto (-17), 3) := by decide +kernel
theorem dX1_levelEntries_23 : decode cX1_levelEntries 23 = .ok (.return_, 1) := by decide +kernel
theorem dX1_layBelow_0 : decode cX1_layBelow 0 = .ok (.iconst 0, 1) := by decide +kernel
theorem dX1_layBelow_1 : decode cX1_layBelow 1 = .ok (.istore 4, 2) := by decide +kernel
theorem dX1_layBelow_3 : decode cX1_layBelow 3 = .ok (.iload_n 2, 1) := by decide +kernel
theorem dX1_layBelow_4 : decode cX1_layBelow 4 = .ok (.istore 5, 2) := by decide +kernel
theorem dX1_layBelow_6 : decode cX1_layBelow 6 = .ok (.iload_n 2, 1) := by decide +kernel
theorem dX1_layBelow_7 : decode cX1_layBelow 7 = .ok (.iconst 1, 1) := by decide +kernel
theorem dX1_layBelow_8 : decode cX1_layBelow 8 = .ok (.iadd, 1) := by decide +kernel
theorem dX1_layBelow_9 : decode cX1_layBelow 9 = .ok (.istore 6, 2) := by decide +kernel
theorem dX1_layBelow_11 : decode cX1_layBelow 11 = .ok (.iload 6, 2) := by decide +kernel
theorem dX1_layBelow_13 : decode cX1_layBelow 13 = .ok (.iload_n 3, 1) := by decide +kernel
theorem dX1_layBelow_14 : decode cX1_layBelow 14 = .ok (.if_icmp .gt 68, 3) := by decide +kernel
theorem dX1_layBelow_17 : decode cX1_layBelow 17 = .ok (.aload_n 0, 1) := by decide +kernel
theorem dX1_layBelow_18 : decode cX1_layBelow 18 = .ok (.getfield 22, 3) := by decide +kernel
theorem dX1_layBelow_21 : decode cX1_layBelow 21 = .ok (.iload 5, 2) := by decide +kernel
theorem dX1_layBelow_23 : decode cX1_layBelow 23 = .ok (.iaload, 1) := by decide +kernel
theorem dX1_layBelow_24 : decode cX1_layBelow 24 = .ok (.iload_n 1, 1) := by decide +kernel
theorem dX1_layBelow_25 : decode cX1_layBelow 25 = .ok (.invokestatic 110, 3) := by decide +kernel
theorem dX1_layBelow_28 : decode cX1_layBelow 28 = .ok (.istore 7, 2) := by decide +kernel
theorem dX1_layBelow_30 : decode cX1_layBelow 30 = .ok (.iload 6, 2) := by decide +kernel
theorem dX1_layBelow_32 : decode cX1_layBelow 32 = .ok (.iload_n 3, 1) := by decide +kernel
theorem dX1_layBelow_33 : decode cX1_layBelow 33 = .ok (.if_icmp .eq 19, 3) := by decide +kernel
theorem dX1_layBelow_36 : decode cX1_layBelow 36 = .ok (.aload_n 0, 1) := by decide +kernel
theorem dX1_layBelow_37 : decode cX1_layBelow 37 = .ok (.getfield 22, 3) := by decide +kernel
theorem dX1_layBelow_40 : decode cX1_layBelow 40 = .ok (.iload 6, 2) := by decide +kernel
theorem dX1_layBelow_42 : decode cX1_layBelow 42 = .ok (.iaload, 1) := by decide +kernel
theorem dX1_layBelow_43 : decode cX1_layBelow 43 = .ok (.iload_n 1, 1) := by decide +kernel
theorem dX1_layBelow_44 : decode cX1_layBelow 44 = .ok (.invokestatic 110, 3) := by decide +kernel
theorem dX1_layBelow_47 : decode cX1_layBelow 47 = .ok (.iload 7, 2) := by decide +kernel
theorem dX1_layBelow_49 : decode cX1_layBelow 49 = .ok (.if_icmp .eq 27, 3) := by decide +kernel
theorem dX1_layBelow_52 : decode cX1_layBelow 52 = .ok (.iload 4, 2) := by decide +kernel
theorem dX1_layBelow_54 : decode cX1_layBelow 54 = .ok (.iconst 1, 1) := by decide +kernel
theorem dX1_layBelow_55 : decode cX1_layBelow 55 = .ok (.iload 7, 2) := by decide +kernel
theorem dX1_layBelow_57 : decode cX1_layBelow 57 = .ok (.ishl, 1) := by decide +kernel
theorem dX1_layBelow_58 : decode cX1_layBelow 58 = .ok (.ior, 1) := by decide +kernel
theorem dX1_layBelow_59 : decode cX1_layBelow 59 = .ok (.istore 4, 2) := by decide +kernel
theorem dX1_layBelow_61 : decode cX1_layBelow 61 = .ok (.aload_n 0, 1) := by decide +kernel
theorem dX1_layBelow_62 : decode cX1_layBelow 62 = .ok (.iload_n 1, 1) := by decide +kernel
theorem dX1_layBelow_63 : decode cX1_layBelow 63 = .ok (.iconst 1, 1) := by decide +kernel
theorem dX1_layBelow_64 : decode cX1_layBelow 64 = .ok (.iadd, 1) := by decide +kernel
theorem dX1_layBelow_65 : decode cX1_layBelow 65 = .ok (.iload 5, 2) := by decide +kernel
theorem dX1_layBelow_67 : decode cX1_layBelow 67 = .ok (.iload 6, 2) := by decide +kernel
theorem dX1_layBelow_69 : decode cX1_layBelow 69 = .ok (.invokestatic 91, 3) := by decide +kernel
theorem dX1_layBelow_72 : decode cX1_layBelow 72 = .ok (.iload 6, 2) := by decide +kernel
theorem dX1_layBelow_74 : decode cX1_layBelow 74 = .ok (.istore 5, 2) := by decide +kernel
theorem dX1_layBelow_76 : decode cX1_layBelow 76 = .ok (.iinc 6 1, 3) := by decide +kernel
theorem dX1_layBelow_79 : decode cX1_layBelow 79 = .ok (.goto (-68), 3) := by decide +kernel
theorem dX1_layBelow_82 : decode cX1_layBelow 82 = .ok (.iload 4, 2) := by decide +kernel
theorem dX1_layBelow_84 : decode cX1_layBelow 84 = .ok (.ireturn, 1) := by decide +kernel
theorem dX1_kindOfTree_0 : decode cX1_kindOfTree 0 = .ok (.iload_n 3, 1) := by decide +kernel
theorem dX1_kindOfTree_1 : decode cX1_kindOfTree 1 = .ok (.iload_n 2, 1) := by decide +kernel
theorem dX1_kindOfTree_2 : decode cX1_kindOfTree 2 = .ok (.isub, 1) := by decide +kernel
theorem dX1_kindOfTree_3 : decode cX1_kindOfTree 3 = .ok (.iconst 1, 1) := by decide +kernel
theorem dX1_kindOfTree_4 : decode cX1_kindOfTree 4 = .ok (.if_icmp .ne 5, 3) := by decide +kernel
theorem dX1_kindOfTree_7 : decode cX1_kindOfTree 7 = .ok (.iconst 0, 1) := by decide +kernel
theorem dX1_kindOfTree_8 : decode cX1_kindOfTree 8 = .ok (.ireturn, 1) := by decide +kernel
theorem dX1_kindOfTree_9 : decode cX1_kindOfTree 9 = .ok (.aload_n 0, 1) := by decide +kernel
theorem dX1_kindOfTree_10 : decode cX1_kindOfTree 10 = .ok (.getfield 22, 3) := by decide +kernel
theorem dX1_kindOfTree_13 : decode cX1_kindOfTree 13 = .ok (.iload_n 2, 1) := by decide +kernel
theorem dX1_kindOfTree_14 : decode cX1_kindOfTree 14 = .ok (.iaload, 1) := by decide +kernel
theorem dX1_kindOfTree_15 : decode cX1_kindOfTree 15 = .ok (.aload_n 0, 1) := by decide +kernel
theorem dX1_kindOfTree_16 : decode cX1_kindOfTree 16 = .ok (.getfield 22, 3) := by decide +kernel
theorem dX1_kindOfTree_19 : decode cX1_kindOfTree 19 = .ok (.iload_n 3, 1) := by decide +kernel
theorem dX1_kindOfTree_20 : decode cX1_kindOfTree 20 = .ok (.iconst 1, 1) := by decide +kernel
theorem dX1_kindOfTree_21 : decode cX1_kindOfTree 21 = .ok (.isub, 1) := by decide +kernel
theorem dX1_kindOfTree_22 : decode cX1_kindOfTree 22 = .ok (.iaload, 1) := by decide +kernel
theorem dX1_kindOfTree_23 : decode cX1_kindOfTree 23 = .ok (.if_icmp .eq 9, 3) := by decide +kernel
theorem dX1_kindOfTree_26 : decode cX1_kindOfTree 26 = .ok (.iload_n 1, 1) := by decide +kernel
theorem dX1_kindOfTree_27 : decode cX1_kindOfTree 27 = .ok (.bipush 6, 2) := by decide +kernel
theorem dX1_kindOfTree_29 : decode cX1_kindOfTree 29 = .ok (.if_icmp .lt 7, 3) := by decide +kernel
theorem dX1_kindOfTree_32 : decode cX1_kindOfTree 32 = .ok (.iconst 1, 1) := by decide +kernel
theorem dX1_kindOfTree_33 : decode cX1_kindOfTree 33 = .ok (.goto 4, 3) := by decide +kernel
theorem dX1_kindOfTree_36 : decode cX1_kindOfTree 36 = .ok (.iconst 2, 1) := by decide +kernel
theorem dX1_kindOfTree_37 : decode cX1_kindOfTree 37 = .ok (.ireturn, 1) := by decide +kernel
theorem dX1_bitsBelow_0 : decode cX1_bitsBelow 0 = .ok (.bipush 30, 2) := by decide +kernel
theorem dX1_bitsBelow_2 : decode cX1_bitsBelow 2 = .ok (.iconst 5, 1) := by decide +kernel
theorem dX1_bitsBelow_3 : decode cX1_bitsBelow 3 = .ok (.iload_n 0, 1) := by decide +kernel
theorem dX1_bitsBelow_4 : decode cX1_bitsBelow 4 = .ok (.imul, 1) := by decide +kernel
theorem dX1_bitsBelow_5 : decode cX1_bitsBelow 5 = .ok (.isub, 1) := by decide +kernel
theorem dX1_bitsBelow_6 : decode cX1_bitsBelow 6 = .ok (.ireturn, 1) := by decide +kernel
theorem dX1_partOf_0 : decode cX1_partOf 0 = .ok (.iload_n 0, 1) := by decide +kernel
theorem dX1_partOf_1 : decode cX1_partOf 1 = .ok (.iload_n 1, 1) := by decide +kernel
theorem dX1_partOf_2 : decode cX1_partOf 2 = .ok (.iconst 1, 1) := by decide +kernel
theorem dX1_partOf_3 : decode cX1_partOf 3 = .ok (.iadd, 1) := by decide +kernel
theorem dX1_partOf_4 : decode cX1_partOf 4 = .ok (.invokestatic 114, 3) := by decide +kernel
theorem dX1_partOf_7 : decode cX1_partOf 7 = .ok (.ishr, 1) := by decide +kernel
theorem dX1_partOf_8 : decode cX1_partOf 8 = .ok (.bipush 31, 2) := by decide +kernel
theorem dX1_partOf_10 : decode cX1_partOf 10 = .ok (.iand, 1) := by decide +kernel
theorem dX1_partOf_11 : decode cX1_partOf 11 = .ok (.ireturn, 1) := by decide +kernel
theorem dX1_placeOf_0 : decode cX1_placeOf 0 = .ok (.iload_n 0, 1) := by decide +kernel
theorem dX1_placeOf_1 : decode cX1_placeOf 1 = .ok (.ifCond .ne 11, 3) := by decide +kernel
theorem dX1_placeOf_4 : decode cX1_placeOf 4 = .ok (.iload_n 2, 1) := by decide +kernel
theorem dX1_placeOf_5 : decode cX1_placeOf 5 = .ok (.bipush 7, 2) := by decide +kernel
theorem dX1_placeOf_7 : decode cX1_placeOf 7 = .ok (.iload_n 3, 1) := by decide +kernel
theorem dX1_placeOf_8 : decode cX1_placeOf 8 = .ok (.invokestatic 117, 3) := by decide +kernel
theorem dX1_placeOf_11 : decode cX1_placeOf 11 = .ok (.lreturn, 1) := by decide +kernel
theorem dX1_placeOf_12 : decode cX1_placeOf 12 = .ok (.iload_n 0, 1) := by decide +kernel
theorem dX1_placeOf_13 : decode cX1_placeOf 13 = .ok (.iconst 1, 1) := by decide +kernel
theorem dX1_placeOf_14 : decode cX1_placeOf 14 = .ok (.if_icmp .ne 11, 3) := by decide +kernel
theorem dX1_placeOf_17 : decode cX1_placeOf 17 = .ok (.iload_n 2, 1) := by decide +kernel
theorem dX1_placeOf_18 : decode cX1_placeOf 18 = .ok (.bipush 6, 2) := by decide +kernel
theorem dX1_placeOf_20 : decode cX1_placeOf 20 = .ok (.iconst 0, 1) := by decide +kernel
theorem dX1_placeOf_21 : decode cX1_placeOf 21 = .ok (.invokestatic 117, 3) := by decide +kernel
theorem dX1_placeOf_24 : decode cX1_placeOf 24 = .ok (.lreturn, 1) := by decide +kernel
theorem dX1_placeOf_25 : decode cX1_placeOf 25 = .ok (.iload_n 1, 1) := by decide +kernel
theorem dX1_placeOf_26 : decode cX1_placeOf 26 = .ok (.invokestatic 114, 3) := by decide +kernel
theorem dX1_placeOf_29 : decode cX1_placeOf 29 = .ok (.istore 4, 2) := by decide +kernel
theorem dX1_placeOf_31 : decode cX1_placeOf 31 = .ok (.iload_n 2, 1) := by decide +kernel
theorem dX1_placeOf_32 : decode cX1_placeOf 32 = .ok (.iload 4, 2) := by decide +kernel
theorem dX1_placeOf_34 : decode cX1_placeOf 34 = .ok (.ishr, 1) := by decide +kernel
theorem dX1_placeOf_35 : decode cX1_placeOf 35 = .ok (.iload 4, 2) := by decide +kernel
theorem dX1_placeOf_37 : decode cX1_placeOf 37 = .ok (.ishl, 1) := by decide +kernel
theorem dX1_placeOf_38 : decode cX1_placeOf 38 = .ok (.iload_n 1, 1) := by decide +kernel
theorem dX1_placeOf_39 : decode cX1_placeOf 39 = .ok (.iconst 0, 1) := by decide +kernel
theorem dX1_placeOf_40 : decode cX1_placeOf 40 = .ok (.invokestatic 117, 3) := by decide +kernel
theorem dX1_placeOf_43 : decode cX1_placeOf 43 = .ok (.lreturn, 1) := by decide +kernel
theorem dX1_packed_0 : decode cX1_packed 0 = .ok (.iload_n 0, 1) := by decide +kernel
theorem dX1_packed_1 : decode cX1_packed 1 = .ok (.i2l, 1) := by decide +kernel
theorem dX1_packed_2 : decode cX1_packed 2 = .ok (.bipush 15, 2) := by decide +kernel
theorem dX1_packed_4 : decode cX1_packed 4 = .ok (.lshl, 1) := by decide +kernel
theorem dX1_packed_5 : decode cX1_packed 5 = .ok (.iload_n 1, 1) := by decide +kernel
theorem dX1_packed_6 : decode cX1_packed 6 = .ok (.bipush 12, 2) := by decide +kernel
theorem dX1_packed_8 : decode cX1_packed 8 = .ok (.ishl, 1) := by decide +kernel
theorem dX1_packed_9 : decode cX1_packed 9 = .ok (.i2l, 1) := by decide +kernel
theorem dX1_packed_10 : decode cX1_packed 10 = .ok (.lor, 1) := by decide +kernel
theorem dX1_packed_11 : decode cX1_packed 11 = .ok (.iload_n 2, 1) := by decide +kernel
theorem dX1_packed_12 : decode cX1_packed 12 = .ok (.i2l, 1) := by decide +kernel
theorem dX1_packed_13 : decode cX1_packed 13 = .ok (.lor, 1) := by decide +kernel
theorem dX1_packed_14 : decode cX1_packed 14 = .ok (.lreturn, 1) := by decide +kernel
theorem dX1_indexOfPlace_0 : decode cX1_indexOfPlace 0 = .ok (.iconst (-1), 1) := by decide +kernel
theorem dX1_indexOfPlace_1 : decode cX1_indexOfPlace 1 = .ok (.istore_n 3, 1) := by decide +kernel
theorem dX1_indexOfPlace_2 : decode cX1_indexOfPlace 2 = .ok (.bipush 64, 2) := by decide +kernel
theorem dX1_indexOfPlace_4 : decode cX1_indexOfPlace 4 = .ok (.istore 4, 2) := by decide +kernel
theorem dX1_indexOfPlace_6 : decode cX1_indexOfPlace 6 = .ok (.iload 4, 2) := by decide +kernel
theorem dX1_indexOfPlace_8 : decode cX1_indexOfPlace 8 = .ok (.ifCond .le 42, 3) := by decide +kernel
theorem dX1_indexOfPlace_11 : decode cX1_indexOfPlace 11 = .ok (.iload_n 3, 1) := by decide +kernel
theorem dX1_indexOfPlace_12 : decode cX1_indexOfPlace 12 = .ok (.iload 4, 2) := by decide +kernel
theorem dX1_indexOfPlace_14 : decode cX1_indexOfPlace 14 = .ok (.iadd, 1) := by decide +kernel
theorem dX1_indexOfPlace_15 : decode cX1_indexOfPlace 15 = .ok (.aload_n 0, 1) := by decide +kernel
theorem dX1_indexOfPlace_16 : decode cX1_indexOfPlace 16 = .ok (.getfield 28, 3) := by decide +kernel
theorem dX1_indexOfPlace_19 : decode cX1_indexOfPlace 19 = .ok (.if_icmp .ge 22, 3) := by decide +kernel
theorem dX1_indexOfPlace_22 : decode cX1_indexOfPlace 22 = .ok (.aload_n 0, 1) := by decide +kernel
theorem dX1_indexOfPlace_23 : decode cX1_indexOfPlace 23 = .ok (.getfield 52, 3) := by decide +kernel
theorem dX1_indexOfPlace_26 : decode cX1_indexOfPlace 26 = .ok (.iload_n 3, 1) := by decide +kernel
theorem dX1_indexOfPlace_27 : decode cX1_indexOfPlace 27 = .ok (.iload 4, 2) := by decide +kernel
theorem dX1_indexOfPlace_29 : decode cX1_indexOfPlace 29 = .ok (.iadd, 1) := by decide +kernel
theorem dX1_indexOfPlace_30 : decode cX1_indexOfPlace 30 = .ok (.laload, 1) := by decide +kernel
theorem dX1_indexOfPlace_31 : decode cX1_indexOfPlace 31 = .ok (.lload_n 1, 1) := by decide +kernel
theorem dX1_indexOfPlace_32 : decode cX1_indexOfPlace 32 = .ok (.lcmp, 1) := by decide +kernel
theorem dX1_indexOfPlace_33 : decode cX1_indexOfPlace 33 = .ok (.ifCond .gt 8, 3) := by decide +kernel
theorem dX1_indexOfPlace_36 : decode cX1_indexOfPlace 36 = .ok (.iload_n 3, 1) := by decide +kernel
theorem dX1_indexOfPlace_37 : decode cX1_indexOfPlace 37 = .ok (.iload 4, 2) := by decide +kernel
theorem dX1_indexOfPlace_39 : decode cX1_indexOfPlace 39 = .ok (.iadd, 1) := by decide +kernel
theorem dX1_indexOfPlace_40 : decode cX1_indexOfPlace 40 = .ok (.istore_n 3, 1) := by decide +kernel
theorem dX1_indexOfPlace_41 : decode cX1_indexOfPlace 41 = .ok (.iload 4, 2) := by decide +kernel
theorem dX1_indexOfPlace_43 : decode cX1_indexOfPlace 43 = .ok (.iconst 2, 1) := by decide +kernel
theorem dX1_indexOfPlace_44 : decode cX1_indexOfPlace 44 = .ok (.idiv, 1) := by decide +kernel
theorem dX1_indexOfPlace_45 : decode cX1_indexOfPlace 45 = .ok (.istore 4, 2) := by decide +kernel
theorem dX1_indexOfPlace_47 : decode cX1_indexOfPlace 47 = .ok (.goto (-41), 3) := by decide +kernel
theorem dX1_indexOfPlace_50 : decode cX1_indexOfPlace 50 = .ok (.iload_n 3, 1) := by decide +kernel
theorem dX1_indexOfPlace_51 : decode cX1_indexOfPlace 51 = .ok (.ifCond .lt 18, 3) := by decide +kernel
theorem dX1_indexOfPlace_54 : decode cX1_indexOfPlace 54 = .ok (.aload_n 0, 1) := by decide +kernel
theorem dX1_indexOfPlace_55 : decode cX1_indexOfPlace 55 = .ok (.getfield 52, 3) := by decide +kernel
theorem dX1_indexOfPlace_58 : decode cX1_indexOfPlace 58 = .ok (.iload_n 3, 1) := by decide +kernel
theorem dX1_indexOfPlace_59 : decode cX1_indexOfPlace 59 = .ok (.laload, 1) := by decide +kernel
theorem dX1_indexOfPlace_60 : decode cX1_indexOfPlace 60 = .ok (.lload_n 1, 1) := by decide +kernel
theorem dX1_indexOfPlace_61 : decode cX1_indexOfPlace 61 = .ok (.lcmp, 1) := by decide +kernel
theorem dX1_indexOfPlace_62 : decode cX1_indexOfPlace 62 = .ok (.ifCond .ne 7, 3) := by decide +kernel
theorem dX1_indexOfPlace_65 : decode cX1_indexOfPlace 65 = .ok (.iload_n 3, 1) := by decide +kernel
theorem dX1_indexOfPlace_66 : decode cX1_indexOfPlace 66 = .ok (.goto 4, 3) := by decide +kernel
theorem dX1_indexOfPlace_69 : decode cX1_indexOfPlace 69 = .ok (.iconst (-1), 1) := by decide +kernel
theorem dX1_indexOfPlace_70 : decode cX1_indexOfPlace 70 = .ok (.ireturn, 1) := by decide +kernel
theorem dX1_isEqualNode_0 : decode cX1_isEqualNode 0 = .ok (.aload_n 0, 1) := by decide +kernel
theorem dX1_isEqualNode_1 : decode cX1_isEqualNode 1 = .ok (.getfield 52, 3) := by decide +kernel
theorem dX1_isEqualNode_4 : decode cX1_isEqualNode 4 = .ok (.iload_n 1, 1) := by decide +kernel
theorem dX1_isEqualNode_5 : decode cX1_isEqualNode 5 = .ok (.laload, 1) := by decide +kernel
theorem dX1_isEqualNode_6 : decode cX1_isEqualNode 6 = .ok (.aload_n 2, 1) := by decide +kernel
theorem dX1_isEqualNode_7 : decode cX1_isEqualNode 7 = .ok (.getfield 52, 3) := by decide +kernel
theorem dX1_isEqualNode_10 : decode cX1_isEqualNode 10 = .ok (.iload_n 3, 1) := by decide +kernel
theorem dX1_isEqualNode_11 : decode cX1_isEqualNode 11 = .ok (.laload, 1) := by decide +kernel
theorem dX1_isEqualNode_12 : decode cX1_isEqualNode 12 = .ok (.lcmp, 1) := by decide +kernel
theorem dX1_isEqualNode_13 : decode cX1_isEqualNode 13 = .ok (.ifCond .ne 18, 3) := by decide +kernel
theorem dX1_isEqualNode_16 : decode cX1_isEqualNode 16 = .ok (.aload_n 0, 1) := by decide +kernel
theorem dX1_isEqualNode_17 : decode cX1_isEqualNode 17 = .ok (.getfield 43, 3) := by decide +kernel
theorem dX1_isEqualNode_20 : decode cX1_isEqualNode 20 = .ok (.iload_n 1, 1) := by decide +kernel
theorem dX1_isEqualNode_21 : decode cX1_isEqualNode 21 = .ok (.iaload, 1) := by decide +kernel
theorem dX1_isEqualNode_22 : decode cX1_isEqualNode 22 = .ok (.aload_n 2, 1) := by decide +kernel
theorem dX1_isEqualNode_23 : decode cX1_isEqualNode 23 = .ok (.getfield 43, 3) := by decide +kernel
theorem dX1_isEqualNode_26 : decode cX1_isEqualNode 26 = .ok (.iload_n 3, 1) := by decide +kernel
theorem dX1_isEqualNode_27 : decode cX1_isEqualNode 27 = .ok (.iaload, 1) := by decide +kernel
theorem dX1_isEqualNode_28 : decode cX1_isEqualNode 28 = .ok (.if_icmp .eq 5, 3) := by decide +kernel
theorem dX1_isEqualNode_31 : decode cX1_isEqualNode 31 = .ok (.iconst 0, 1) := by decide +kernel
theorem dX1_isEqualNode_32 : decode cX1_isEqualNode 32 = .ok (.ireturn, 1) := by decide +kernel
theorem dX1_isEqualNode_33 : decode cX1_isEqualNode 33 = .ok (.iconst 0, 1) := by decide +kernel
theorem dX1_isEqualNode_34 : decode cX1_isEqualNode 34 = .ok (.istore 4, 2) := by decide +kernel
theorem dX1_isEqualNode_36 : decode cX1_isEqualNode 36 = .ok (.iload 4, 2) := by decide +kernel
theorem dX1_isEqualNode_38 : decode cX1_isEqualNode 38 = .ok (.aload_n 0, 1) := by decide +kernel
theorem dX1_isEqualNode_39 : decode cX1_isEqualNode 39 = .ok (.getfield 43, 3) := by decide +kernel
theorem dX1_isEqualNode_42 : decode cX1_isEqualNode 42 = .ok (.iload_n 1, 1) := by decide +kernel
theorem dX1_isEqualNode_43 : decode cX1_isEqualNode 43 = .ok (.iaload, 1) := by decide +kernel
theorem dX1_isEqualNode_44 : decode cX1_isEqualNode 44 = .ok (.if_icmp .ge 67, 3) := by decide +kernel
theorem dX1_isEqualNode_47 : decode cX1_isEqualNode 47 = .ok (.aload_n 0, 1) := by decide +kernel
theorem dX1_isEqualNode_48 : decode cX1_isEqualNode 48 = .ok (.getfield 40, 3) := by decide +kernel
theorem dX1_isEqualNode_51 : decode cX1_isEqualNode 51 = .ok (.iload_n 1, 1) := by decide +kernel
theorem dX1_isEqualNode_52 : decode cX1_isEqualNode 52 = .ok (.iaload, 1) := by decide +kernel
theorem dX1_isEqualNode_53 : decode cX1_isEqualNode 53 = .ok (.iload 4, 2) := by decide +kernel
theorem dX1_isEqualNode_55 : decode cX1_isEqualNode 55 = .ok (.iadd, 1) := by decide +kernel
theorem dX1_isEqualNode_56 : decode cX1_isEqualNode 56 = .ok (.istore 5, 2) := by decide +kernel
theorem dX1_isEqualNode_58 : decode cX1_isEqualNode 58 = .ok (.aload_n 2, 1) := by decide +kernel
theorem dX1_isEqualNode_59 : decode cX1_isEqualNode 59 = .ok (.getfield 40, 3) := by decide +kernel
theorem dX1_isEqualNode_62 : decode cX1_isEqualNode 62 = .ok (.iload_n 3, 1) := by decide +kernel
theorem dX1_isEqualNode_63 : decode cX1_isEqualNode 63 = .ok (.iaload, 1) := by decide +kernel
theorem dX1_isEqualNode_64 : decode cX1_isEqualNode 64 = .ok (.iload 4, 2) := by decide +kernel
theorem dX1_isEqualNode_66 : decode cX1_isEqualNode 66 = .ok (.iadd, 1) := by decide +kernel
theorem dX1_isEqualNode_67 : decode cX1_isEqualNode 67 = .ok (.istore 6, 2) := by decide +kernel
theorem dX1_isEqualNode_69 : decode cX1_isEqualNode 69 = .ok (.aload_n 0, 1) := by decide +kernel
theorem dX1_isEqualNode_70 : decode cX1_isEqualNode 70 = .ok (.getfield 15, 3) := by decide +kernel
theorem dX1_isEqualNode_73 : decode cX1_isEqualNode 73 = .ok (.iload 5, 2) := by decide +kernel
theorem dX1_isEqualNode_75 : decode cX1_isEqualNode 75 = .ok (.iaload, 1) := by decide +kernel
theorem dX1_isEqualNode_76 : decode cX1_isEqualNode 76 = .ok (.aload_n 2, 1) := by decide +kernel
theorem dX1_isEqualNode_77 : decode cX1_isEqualNode 77 = .ok (.getfield 15, 3) := by decide +kernel
theorem dX1_isEqualNode_80 : decode cX1_isEqualNode 80 = .ok (.iload 6, 2) := by decide +kernel
theorem dX1_isEqualNode_82 : decode cX1_isEqualNode 82 = .ok (.iaload, 1) := by decide +kernel
theorem dX1_isEqualNode_83 : decode cX1_isEqualNode 83 = .ok (.if_icmp .ne 20, 3) := by decide +kernel
theorem dX1_isEqualNode_86 : decode cX1_isEqualNode 86 = .ok (.aload_n 0, 1) := by decide +kernel
theorem dX1_isEqualNode_87 : decode cX1_isEqualNode 87 = .ok (.getfield 19, 3) := by decide +kernel
theorem dX1_isEqualNode_90 : decode cX1_isEqualNode 90 = .ok (.iload 5, 2) := by decide +kernel
theorem dX1_isEqualNode_92 : decode cX1_isEqualNode 92 = .ok (.iaload, 1) := by decide +kernel
theorem dX1_isEqualNode_93 : decode cX1_isEqualNode 93 = .ok (.aload_n 2, 1) := by decide +kernel
theorem dX1_isEqualNode_94 : decode cX1_isEqualNode 94 = .ok (.getfield 19, 3) := by decide +kernel
theorem dX1_isEqualNode_97 : decode cX1_isEqualNode 97 = .ok (.iload 6, 2) := by decide +kernel
theorem dX1_isEqualNode_99 : decode cX1_isEqualNode 99 = .ok (.iaload, 1) := by decide +kernel
theorem dX1_isEqualNode_100 : decode cX1_isEqualNode 100 = .ok (.if_icmp .eq 5, 3) := by decide +kernel
theorem dX1_isEqualNode_103 : decode cX1_isEqualNode 103 = .ok (.iconst 0, 1) := by decide +kernel
theorem dX1_isEqualNode_104 : decode cX1_isEqualNode 104 = .ok (.ireturn, 1) := by decide +kernel
theorem dX1_isEqualNode_105 : decode cX1_isEqualNode 105 = .ok (.iinc 4 1, 3) := by decide +kernel
theorem dX1_isEqualNode_108 : decode cX1_isEqualNode 108 = .ok (.goto (-72), 3) := by decide +kernel
theorem dX1_isEqualNode_111 : decode cX1_isEqualNode 111 = .ok (.iconst 1, 1) := by decide +kernel
theorem dX1_isEqualNode_112 : decode cX1_isEqualNode 112 = .ok (.ireturn, 1) := by decide +kernel
theorem dX1_takeNodes_0 : decode cX1_takeNodes 0 = .ok (.aload_n 2, 1) := by decide +kernel
theorem dX1_takeNodes_1 : decode cX1_takeNodes 1 = .ok (.aload_n 0, 1) := by decide +kernel
theorem dX1_takeNodes_2 : decode cX1_takeNodes 2 = .ok (.getfield 52, 3) := by decide +kernel
theorem dX1_takeNodes_5 : decode cX1_takeNodes 5 = .ok (.iload_n 1, 1) := by decide +kernel
theorem dX1_takeNodes_6 : decode cX1_takeNodes 6 = .ok (.laload, 1) := by decide +kernel
theorem dX1_takeNodes_7 : decode cX1_takeNodes 7 = .ok (.invokevirtual 121, 3) := by decide +kernel
theorem dX1_takeNodes_10 : decode cX1_takeNodes 10 = .ok (.istore_n 3, 1) := by decide +kernel
theorem dX1_takeNodes_11 : decode cX1_takeNodes 11 = .ok (.iload_n 3, 1) := by decide +kernel
theorem dX1_takeNodes_12 : decode cX1_takeNodes 12 = .ok (.ifCond .lt 13, 3) := by decide +kernel
theorem dX1_takeNodes_15 : decode cX1_takeNodes 15 = .ok (.aload_n 0, 1) := by decide +kernel
theorem dX1_takeNodes_16 : decode cX1_takeNodes 16 = .ok (.iload_n 1, 1) := by decide +kernel
theorem dX1_takeNodes_17 : decode cX1_takeNodes 17 = .ok (.aload_n 2, 1) := by decide +kernel
theorem dX1_takeNodes_18 : decode cX1_takeNodes 18 = .ok (.iload_n 3, 1) := by decide +kernel
theorem dX1_takeNodes_19 : decode cX1_takeNodes 19 = .ok (.invokevirtual 125, 3) := by decide +kernel
theorem dX1_takeNodes_22 : decode cX1_takeNodes 22 = .ok (.ifCond .ne 5, 3) := by decide +kernel
theorem dX1_takeNodes_25 : decode cX1_takeNodes 25 = .ok (.iconst 0, 1) := by decide +kernel
theorem dX1_takeNodes_26 : decode cX1_takeNodes 26 = .ok (.ireturn, 1) := by decide +kernel
theorem dX1_takeNodes_27 : decode cX1_takeNodes 27 = .ok (.aload_n 2, 1) := by decide +kernel
theorem dX1_takeNodes_28 : decode cX1_takeNodes 28 = .ok (.getfield 31, 3) := by decide +kernel
theorem dX1_takeNodes_31 : decode cX1_takeNodes 31 = .ok (.iload_n 3, 1) := by decide +kernel
theorem dX1_takeNodes_32 : decode cX1_takeNodes 32 = .ok (.aload_n 0, 1) := by decide +kernel
theorem dX1_takeNodes_33 : decode cX1_takeNodes 33 = .ok (.getfield 31, 3) := by decide +kernel
theorem dX1_takeNodes_36 : decode cX1_takeNodes 36 = .ok (.iload_n 1, 1) := by decide +kernel
theorem dX1_takeNodes_37 : decode cX1_takeNodes 37 = .ok (.aload_n 0, 1) := by decide +kernel
theorem dX1_takeNodes_38 : decode cX1_takeNodes 38 = .ok (.getfield 49, 3) := by decide +kernel
theorem dX1_takeNodes_41 : decode cX1_takeNodes 41 = .ok (.iload_n 1, 1) := by decide +kernel
theorem dX1_takeNodes_42 : decode cX1_takeNodes 42 = .ok (.iaload, 1) := by decide +kernel
theorem dX1_takeNodes_43 : decode cX1_takeNodes 43 = .ok (.invokestatic 59, 3) := by decide +kernel
theorem dX1_takeNodes_46 : decode cX1_takeNodes 46 = .ok (.aload_n 0, 1) := by decide +kernel
theorem dX1_takeNodes_47 : decode cX1_takeNodes 47 = .ok (.getfield 49, 3) := by decide +kernel
theorem dX1_takeNodes_50 : decode cX1_takeNodes 50 = .ok (.iload_n 1, 1) := by decide +kernel
theorem dX1_takeNodes_51 : decode cX1_takeNodes 51 = .ok (.iaload, 1) := by decide +kernel
theorem dX1_takeNodes_52 : decode cX1_takeNodes 52 = .ok (.ireturn, 1) := by decide +kernel
theorem dX1_hasNodeOf_0 : decode cX1_hasNodeOf 0 = .ok (.aload_n 0, 1) := by decide +kernel
theorem dX1_hasNodeOf_1 : decode cX1_hasNodeOf 1 = .ok (.aload_n 1, 1) := by decide +kernel
theorem dX1_hasNodeOf_2 : decode cX1_hasNodeOf 2 = .ok (.getfield 52, 3) := by decide +kernel
theorem dX1_hasNodeOf_5 : decode cX1_hasNodeOf 5 = .ok (.iload_n 2, 1) := by decide +kernel
theorem dX1_hasNodeOf_6 : decode cX1_hasNodeOf 6 = .ok (.laload, 1) := by decide +kernel
theorem dX1_hasNodeOf_7 : decode cX1_hasNodeOf 7 = .ok (.invokevirtual 121, 3) := by decide +kernel
theorem dX1_hasNodeOf_10 : decode cX1_hasNodeOf 10 = .ok (.istore_n 3, 1) := by decide +kernel
theorem dX1_hasNodeOf_11 : decode cX1_hasNodeOf 11 = .ok (.iload_n 3, 1) := by decide +kernel
theorem dX1_hasNodeOf_12 : decode cX1_hasNodeOf 12 = .ok (.ifCond .lt 22, 3) := by decide +kernel
theorem dX1_hasNodeOf_15 : decode cX1_hasNodeOf 15 = .ok (.aload_n 0, 1) := by decide +kernel
theorem dX1_hasNodeOf_16 : decode cX1_hasNodeOf 16 = .ok (.getfield 31, 3) := by decide +kernel
theorem dX1_hasNodeOf_19 : decode cX1_hasNodeOf 19 = .ok (.iload_n 3, 1) := by decide +kernel
theorem dX1_hasNodeOf_20 : decode cX1_hasNodeOf 20 = .ok (.iaload, 1) := by decide +kernel
theorem dX1_hasNodeOf_21 : decode cX1_hasNodeOf 21 = .ok (.aload_n 1, 1) := by decide +kernel
theorem dX1_hasNodeOf_22 : decode cX1_hasNodeOf 22 = .ok (.getfield 31, 3) := by decide +kernel
theorem dX1_hasNodeOf_25 : decode cX1_hasNodeOf 25 = .ok (.iload_n 2, 1) := by decide +kernel
theorem dX1_hasNodeOf_26 : decode cX1_hasNodeOf 26 = .ok (.iaload, 1) := by decide +kernel
theorem dX1_hasNodeOf_27 : decode cX1_hasNodeOf 27 = .ok (.if_icmp .ne 7, 3) := by decide +kernel
theorem dX1_hasNodeOf_30 : decode cX1_hasNodeOf 30 = .ok (.iconst 1, 1) := by decide +kernel
theorem dX1_hasNodeOf_31 : decode cX1_hasNodeOf 31 = .ok (.goto 4, 3) := by decide +kernel
theorem dX1_hasNodeOf_34 : decode cX1_hasNodeOf 34 = .ok (.iconst 0, 1) := by decide +kernel
theorem dX1_hasNodeOf_35 : decode cX1_hasNodeOf 35 = .ok (.ireturn, 1) := by decide +kernel
theorem dX1_nodesFrom_0 : decode cX1_nodesFrom 0 = .ok (.iconst 0, 1) := by decide +kernel
theorem dX1_nodesFrom_1 : decode cX1_nodesFrom 1 = .ok (.istore_n 2, 1) := by decide +kernel
theorem dX1_nodesFrom_2 : decode cX1_nodesFrom 2 = .ok (.iconst 0, 1) := by decide +kernel
theorem dX1_nodesFrom_3 : decode cX1_nodesFrom 3 = .ok (.istore_n 3, 1) := by decide +kernel
theorem dX1_nodesFrom_4 : decode cX1_nodesFrom 4 = .ok (.iload_n 3, 1) := by decide +kernel
theorem dX1_nodesFrom_5 : decode cX1_nodesFrom 5 = .ok (.aload_n 0, 1) := by decide +kernel
theorem dX1_nodesFrom_6 : decode cX1_nodesFrom 6 = .ok (.getfield 28, 3) := by decide +kernel
theorem dX1_nodesFrom_9 : decode cX1_nodesFrom 9 = .ok (.if_icmp .ge 22, 3) := by decide +kernel
theorem dX1_nodesFrom_12 : decode cX1_nodesFrom 12 = .ok (.aload_n 0, 1) := by decide +kernel
theorem dX1_nodesFrom_13 : decode cX1_nodesFrom 13 = .ok (.getfield 31, 3) := by decide +kernel
theorem dX1_nodesFrom_16 : decode cX1_nodesFrom 16 = .ok (.iload_n 3, 1) := by decide +kernel
theorem dX1_nodesFrom_17 : decode cX1_nodesFrom 17 = .ok (.iaload, 1) := by decide +kernel
theorem dX1_nodesFrom_18 : decode cX1_nodesFrom 18 = .ok (.iload_n 1, 1) := by decide +kernel
theorem dX1_nodesFrom_19 : decode cX1_nodesFrom 19 = .ok (.if_icmp .lt 6, 3) := by decide +kernel
theorem dX1_nodesFrom_22 : decode cX1_nodesFrom 22 = .ok (.iinc 2 1, 3) := by decide +kernel
theorem dX1_nodesFrom_25 : decode cX1_nodesFrom 25 = .ok (.iinc 3 1, 3) := by decide +kernel
theorem dX1_nodesFrom_28 : decode cX1_nodesFrom 28 = .ok (.goto (-24), 3) := by decide +kernel
theorem dX1_nodesFrom_31 : decode cX1_nodesFrom 31 = .ok (.iload_n 2, 1) := by decide +kernel
theorem dX1_nodesFrom_32 : decode cX1_nodesFrom 32 = .ok (.ireturn, 1) := by decide +kernel
theorem dX1_nodesOfKind_0 : decode cX1_nodesOfKind 0 = .ok (.iconst 0, 1) := by decide +kernel
theorem dX1_nodesOfKind_1 : decode cX1_nodesOfKind 1 = .ok (.istore_n 2, 1) := by decide +kernel
theorem dX1_nodesOfKind_2 : decode cX1_nodesOfKind 2 = .ok (.iconst 0, 1) := by decide +kernel
theorem dX1_nodesOfKind_3 : decode cX1_nodesOfKind 3 = .ok (.istore_n 3, 1) := by decide +kernel
theorem dX1_nodesOfKind_4 : decode cX1_nodesOfKind 4 = .ok (.iload_n 3, 1) := by decide +kernel
theorem dX1_nodesOfKind_5 : decode cX1_nodesOfKind 5 = .ok (.aload_n 0, 1) := by decide +kernel
theorem dX1_nodesOfKind_6 : decode cX1_nodesOfKind 6 = .ok (.getfield 28, 3) := by decide +kernel
theorem dX1_nodesOfKind_9 : decode cX1_nodesOfKind 9 = .ok (.if_icmp .ge 22, 3) := by decide +kernel
theorem dX1_nodesOfKind_12 : decode cX1_nodesOfKind 12 = .ok (.aload_n 0, 1) := by decide +kernel
theorem dX1_nodesOfKind_13 : decode cX1_nodesOfKind 13 = .ok (.getfield 34, 3) := by decide +kernel
theorem dX1_nodesOfKind_16 : decode cX1_nodesOfKind 16 = .ok (.iload_n 3, 1) := by decide +kernel
theorem dX1_nodesOfKind_17 : decode cX1_nodesOfKind 17 = .ok (.iaload, 1) := by decide +kernel
theorem dX1_nodesOfKind_18 : decode cX1_nodesOfKind 18 = .ok (.iload_n 1, 1) := by decide +kernel
theorem dX1_nodesOfKind_19 : decode cX1_nodesOfKind 19 = .ok (.if_icmp .ne 6, 3) := by decide +kernel
theorem dX1_nodesOfKind_22 : decode cX1_nodesOfKind 22 = .ok (.iinc 2 1, 3) := by decide +kernel
theorem dX1_nodesOfKind_25 : decode cX1_nodesOfKind 25 = .ok (.iinc 3 1, 3) := by decide +kernel
theorem dX1_nodesOfKind_28 : decode cX1_nodesOfKind 28 = .ok (.goto (-24), 3) := by decide +kernel
theorem dX1_nodesOfKind_31 : decode cX1_nodesOfKind 31 = .ok (.iload_n 2, 1) := by decide +kernel
theorem dX1_nodesOfKind_32 : decode cX1_nodesOfKind 32 = .ok (.ireturn, 1) := by decide +kernel
theorem dX1_greatestLevel_0 : decode cX1_greatestLevel 0 = .ok (.iconst (-1), 1) := by decide +kernel
theorem dX1_greatestLevel_1 : decode cX1_greatestLevel 1 = .ok (.istore_n 1, 1) := by decide +kernel
theorem dX1_greatestLevel_2 : decode cX1_greatestLevel 2 = .ok (.iconst 0, 1) := by decide +kernel
theorem dX1_greatestLevel_3 : decode cX1_greatestLevel 3 = .ok (.istore_n 2, 1) := by decide +kernel
theorem dX1_greatestLevel_4 : decode cX1_greatestLevel 4 = .ok (.iload_n 2, 1) := by decide +kernel
theorem dX1_greatestLevel_5 : decode cX1_greatestLevel 5 = .ok (.aload_n 0, 1) := by decide +kernel
theorem dX1_greatestLevel_6 : decode cX1_greatestLevel 6 = .ok (.getfield 28, 3) := by decide +kernel
theorem dX1_greatestLevel_9 : decode cX1_greatestLevel 9 = .ok (.if_icmp .ge 20, 3) := by decide +kernel
theorem dX1_greatestLevel_12 : decode cX1_greatestLevel 12 = .ok (.iload_n 1, 1) := by decide +kernel
theorem dX1_greatestLevel_13 : decode cX1_greatestLevel 13 = .ok (.aload_n 0, 1) := by decide +kernel
theorem dX1_greatestLevel_14 : decode cX1_greatestLevel 14 = .ok (.getfield 37, 3) := by decide +kernel
theorem dX1_greatestLevel_17 : decode cX1_greatestLevel 17 = .ok (.iload_n 2, 1) := by decide +kernel
theorem dX1_greatestLevel_18 : decode cX1_greatestLevel 18 = .ok (.iaload, 1) := by decide +kernel
theorem dX1_greatestLevel_19 : decode cX1_greatestLevel 19 = .ok (.invokestatic 129, 3) := by decide +kernel
theorem dX1_greatestLevel_22 : decode cX1_greatestLevel 22 = .ok (.istore_n 1, 1) := by decide +kernel
theorem dX1_greatestLevel_23 : decode cX1_greatestLevel 23 = .ok (.iinc 2 1, 3) := by decide +kernel
theorem dX1_greatestLevel_26 : decode cX1_greatestLevel 26 = .ok (.goto (-22), 3) := by decide +kernel
theorem dX1_greatestLevel_29 : decode cX1_greatestLevel 29 = .ok (.iload_n 1, 1) := by decide +kernel
theorem dX1_greatestLevel_30 : decode cX1_greatestLevel 30 = .ok (.ireturn, 1) := by decide +kernel
