theorem dX2_init_0 : decode cX2_init 0 = .ok (.aload_n 0, 1) := by decide +kernel
theorem dX2_init_1 : decode cX2_init 1 = .ok (.invokespecial 3, 3) := by decide +kernel
theorem dX2_init_4 : decode cX2_init 4 = .ok (.aload_n 0, 1) := by decide +kernel
theorem dX2_init_5 : decode cX2_init 5 = .ok (.bipush 20, 2) := by decide +kernel
theorem dX2_init_7 : decode cX2_init 7 = .ok (.anewarray 9, 3) := by decide +kernel
theorem dX2_init_10 : decode cX2_init 10 = .ok (.putfield 11, 3) := by decide +kernel
theorem dX2_init_13 : decode cX2_init 13 = .ok (.aload_n 0, 1) := by decide +kernel
theorem dX2_init_14 : decode cX2_init 14 = .ok (.iconst 1, 1) := by decide +kernel
theorem dX2_init_15 : decode cX2_init 15 = .ok (.putfield 15, 3) := by decide +kernel
theorem dX2_init_18 : decode cX2_init 18 = .ok (.aload_n 0, 1) := by decide +kernel
theorem dX2_init_19 : decode cX2_init 19 = .ok (.new 19, 3) := by decide +kernel
theorem dX2_init_22 : decode cX2_init 22 = .ok (.dup, 1) := by decide +kernel
theorem dX2_init_23 : decode cX2_init 23 = .ok (.invokespecial 21, 3) := by decide +kernel
theorem dX2_init_26 : decode cX2_init 26 = .ok (.putfield 22, 3) := by decide +kernel
theorem dX2_init_29 : decode cX2_init 29 = .ok (.aload_n 0, 1) := by decide +kernel
theorem dX2_init_30 : decode cX2_init 30 = .ok (.iconst 1, 1) := by decide +kernel
theorem dX2_init_31 : decode cX2_init 31 = .ok (.putfield 26, 3) := by decide +kernel
theorem dX2_init_34 : decode cX2_init 34 = .ok (.aload_n 0, 1) := by decide +kernel
theorem dX2_init_35 : decode cX2_init 35 = .ok (.bipush 30, 2) := by decide +kernel
theorem dX2_init_37 : decode cX2_init 37 = .ok (.putfield 29, 3) := by decide +kernel
theorem dX2_init_40 : decode cX2_init 40 = .ok (.aload_n 0, 1) := by decide +kernel
theorem dX2_init_41 : decode cX2_init 41 = .ok (.iconst 0, 1) := by decide +kernel
theorem dX2_init_42 : decode cX2_init 42 = .ok (.putfield 32, 3) := by decide +kernel
theorem dX2_init_45 : decode cX2_init 45 = .ok (.aload_n 0, 1) := by decide +kernel
theorem dX2_init_46 : decode cX2_init 46 = .ok (.iconst 0, 1) := by decide +kernel
theorem dX2_init_47 : decode cX2_init 47 = .ok (.putfield 35, 3) := by decide +kernel
theorem dX2_init_50 : decode cX2_init 50 = .ok (.aload_n 0, 1) := by decide +kernel
theorem dX2_init_51 : decode cX2_init 51 = .ok (.iconst 0, 1) := by decide +kernel
theorem dX2_init_52 : decode cX2_init 52 = .ok (.putfield 38, 3) := by decide +kernel
theorem dX2_init_55 : decode cX2_init 55 = .ok (.aload_n 0, 1) := by decide +kernel
theorem dX2_init_56 : decode cX2_init 56 = .ok (.new 9, 3) := by decide +kernel
theorem dX2_init_59 : decode cX2_init 59 = .ok (.dup, 1) := by decide +kernel
theorem dX2_init_60 : decode cX2_init 60 = .ok (.invokespecial 41, 3) := by decide +kernel
theorem dX2_init_63 : decode cX2_init 63 = .ok (.putfield 42, 3) := by decide +kernel
theorem dX2_init_66 : decode cX2_init 66 = .ok (.aload_n 0, 1) := by decide +kernel
theorem dX2_init_67 : decode cX2_init 67 = .ok (.iconst 0, 1) := by decide +kernel
theorem dX2_init_68 : decode cX2_init 68 = .ok (.putfield 46, 3) := by decide +kernel
theorem dX2_init_71 : decode cX2_init 71 = .ok (.aload_n 0, 1) := by decide +kernel
theorem dX2_init_72 : decode cX2_init 72 = .ok (.iconst 0, 1) := by decide +kernel
theorem dX2_init_73 : decode cX2_init 73 = .ok (.putfield 50, 3) := by decide +kernel
theorem dX2_init_76 : decode cX2_init 76 = .ok (.aload_n 0, 1) := by decide +kernel
theorem dX2_init_77 : decode cX2_init 77 = .ok (.iconst 0, 1) := by decide +kernel
theorem dX2_init_78 : decode cX2_init 78 = .ok (.putfield 53, 3) := by decide +kernel
theorem dX2_init_81 : decode cX2_init 81 = .ok (.aload_n 0, 1) := by decide +kernel
theorem dX2_init_82 : decode cX2_init 82 = .ok (.new 9, 3) := by decide +kernel
theorem dX2_init_85 : decode cX2_init 85 = .ok (.dup, 1) := by decide +kernel
theorem dX2_init_86 : decode cX2_init 86 = .ok (.invokespecial 41, 3) := by decide +kernel
theorem dX2_init_89 : decode cX2_init 89 = .ok (.putfield 56, 3) := by decide +kernel
theorem dX2_init_92 : decode cX2_init 92 = .ok (.iconst 0, 1) := by decide +kernel
theorem dX2_init_93 : decode cX2_init 93 = .ok (.istore_n 1, 1) := by decide +kernel
theorem dX2_init_94 : decode cX2_init 94 = .ok (.iload_n 1, 1) := by decide +kernel
theorem dX2_init_95 : decode cX2_init 95 = .ok (.bipush 20, 2) := by decide +kernel
theorem dX2_init_97 : decode cX2_init 97 = .ok (.if_icmp .ge 22, 3) := by decide +kernel
theorem dX2_init_100 : decode cX2_init 100 = .ok (.aload_n 0, 1) := by decide +kernel
theorem dX2_init_101 : decode cX2_init 101 = .ok (.getfield 11, 3) := by decide +kernel
theorem dX2_init_104 : decode cX2_init 104 = .ok (.iload_n 1, 1) := by decide +kernel
theorem dX2_init_105 : decode cX2_init 105 = .ok (.new 9, 3) := by decide +kernel
theorem dX2_init_108 : decode cX2_init 108 = .ok (.dup, 1) := by decide +kernel
theorem dX2_init_109 : decode cX2_init 109 = .ok (.invokespecial 41, 3) := by decide +kernel
theorem dX2_init_112 : decode cX2_init 112 = .ok (.aastore, 1) := by decide +kernel
theorem dX2_init_113 : decode cX2_init 113 = .ok (.iinc 1 1, 3) := by decide +kernel
theorem dX2_init_116 : decode cX2_init 116 = .ok (.goto (-22), 3) := by decide +kernel
theorem dX2_init_119 : decode cX2_init 119 = .ok (.return_, 1) := by decide +kernel
theorem dX2_letter_0 : decode cX2_letter 0 = .ok (.iload_n 1, 1) := by decide +kernel
theorem dX2_letter_1 : decode cX2_letter 1 = .ok (.bipush 32, 2) := by decide +kernel
theorem dX2_letter_3 : decode cX2_letter 3 = .ok (.if_icmp .lt 9, 3) := by decide +kernel
theorem dX2_letter_6 : decode cX2_letter 6 = .ok (.iload_n 1, 1) := by decide +kernel
theorem dX2_letter_7 : decode cX2_letter 7 = .ok (.bipush 126, 2) := by decide +kernel
theorem dX2_letter_9 : decode cX2_letter 9 = .ok (.if_icmp .le 6, 3) := by decide +kernel
theorem dX2_letter_12 : decode cX2_letter 12 = .ok (.bipush (-102), 2) := by decide +kernel
theorem dX2_letter_14 : decode cX2_letter 14 = .ok (.ireturn, 1) := by decide +kernel
theorem dX2_letter_15 : decode cX2_letter 15 = .ok (.aload_n 0, 1) := by decide +kernel
theorem dX2_letter_16 : decode cX2_letter 16 = .ok (.getfield 22, 3) := by decide +kernel
theorem dX2_letter_19 : decode cX2_letter 19 = .ok (.getfield 59, 3) := by decide +kernel
theorem dX2_letter_22 : decode cX2_letter 22 = .ok (.bipush 60, 2) := by decide +kernel
theorem dX2_letter_24 : decode cX2_letter 24 = .ok (.if_icmp .lt 6, 3) := by decide +kernel
theorem dX2_letter_27 : decode cX2_letter 27 = .ok (.bipush (-104), 2) := by decide +kernel
theorem dX2_letter_29 : decode cX2_letter 29 = .ok (.ireturn, 1) := by decide +kernel
theorem dX2_letter_30 : decode cX2_letter 30 = .ok (.aload_n 0, 1) := by decide +kernel
theorem dX2_letter_31 : decode cX2_letter 31 = .ok (.getfield 22, 3) := by decide +kernel
theorem dX2_letter_34 : decode cX2_letter 34 = .ok (.getfield 62, 3) := by decide +kernel
theorem dX2_letter_37 : decode cX2_letter 37 = .ok (.aload_n 0, 1) := by decide +kernel
theorem dX2_letter_38 : decode cX2_letter 38 = .ok (.getfield 22, 3) := by decide +kernel
theorem dX2_letter_41 : decode cX2_letter 41 = .ok (.getfield 59, 3) := by decide +kernel
theorem dX2_letter_44 : decode cX2_letter 44 = .ok (.iload_n 1, 1) := by decide +kernel
theorem dX2_letter_45 : decode cX2_letter 45 = .ok (.iastore, 1) := by decide +kernel
theorem dX2_letter_46 : decode cX2_letter 46 = .ok (.aload_n 0, 1) := by decide +kernel
theorem dX2_letter_47 : decode cX2_letter 47 = .ok (.getfield 22, 3) := by decide +kernel
theorem dX2_letter_50 : decode cX2_letter 50 = .ok (.dup, 1) := by decide +kernel
theorem dX2_letter_51 : decode cX2_letter 51 = .ok (.getfield 59, 3) := by decide +kernel
theorem dX2_letter_54 : decode cX2_letter 54 = .ok (.iconst 1, 1) := by decide +kernel
theorem dX2_letter_55 : decode cX2_letter 55 = .ok (.iadd, 1) := by decide +kernel
theorem dX2_letter_56 : decode cX2_letter 56 = .ok (.putfield 59, 3) := by decide +kernel
theorem dX2_letter_59 : decode cX2_letter 59 = .ok (.aload_n 0, 1) := by decide +kernel
theorem dX2_letter_60 : decode cX2_letter 60 = .ok (.getfield 22, 3) := by decide +kernel
theorem dX2_letter_63 : decode cX2_letter 63 = .ok (.getfield 59, 3) := by decide +kernel
theorem dX2_letter_66 : decode cX2_letter 66 = .ok (.ireturn, 1) := by decide +kernel
theorem dX2_blank_0 : decode cX2_blank 0 = .ok (.aload_n 0, 1) := by decide +kernel
theorem dX2_blank_1 : decode cX2_blank 1 = .ok (.getfield 22, 3) := by decide +kernel
theorem dX2_blank_4 : decode cX2_blank 4 = .ok (.getfield 59, 3) := by decide +kernel
theorem dX2_blank_7 : decode cX2_blank 7 = .ok (.istore_n 1, 1) := by decide +kernel
theorem dX2_blank_8 : decode cX2_blank 8 = .ok (.aload_n 0, 1) := by decide +kernel
theorem dX2_blank_9 : decode cX2_blank 9 = .ok (.getfield 22, 3) := by decide +kernel
theorem dX2_blank_12 : decode cX2_blank 12 = .ok (.iconst 0, 1) := by decide +kernel
theorem dX2_blank_13 : decode cX2_blank 13 = .ok (.putfield 59, 3) := by decide +kernel
theorem dX2_blank_16 : decode cX2_blank 16 = .ok (.iload_n 1, 1) := by decide +kernel
theorem dX2_blank_17 : decode cX2_blank 17 = .ok (.ireturn, 1) := by decide +kernel
theorem dX2_fault_0 : decode cX2_fault 0 = .ok (.aload_n 0, 1) := by decide +kernel
theorem dX2_fault_1 : decode cX2_fault 1 = .ok (.getfield 22, 3) := by decide +kernel
theorem dX2_fault_4 : decode cX2_fault 4 = .ok (.invokevirtual 66, 3) := by decide +kernel
theorem dX2_fault_7 : decode cX2_fault 7 = .ok (.ireturn, 1) := by decide +kernel
theorem dX2_read_0 : decode cX2_read 0 = .ok (.aload_n 0, 1) := by decide +kernel
theorem dX2_read_1 : decode cX2_read 1 = .ok (.getfield 22, 3) := by decide +kernel
theorem dX2_read_4 : decode cX2_read 4 = .ok (.invokevirtual 66, 3) := by decide +kernel
theorem dX2_read_7 : decode cX2_read 7 = .ok (.pop, 1) := by decide +kernel
theorem dX2_read_8 : decode cX2_read 8 = .ok (.aload_n 0, 1) := by decide +kernel
theorem dX2_read_9 : decode cX2_read 9 = .ok (.getfield 22, 3) := by decide +kernel
theorem dX2_read_12 : decode cX2_read 12 = .ok (.getfield 70, 3) := by decide +kernel
theorem dX2_read_15 : decode cX2_read 15 = .ok (.ifCond .ne 6, 3) := by decide +kernel
theorem dX2_read_18 : decode cX2_read 18 = .ok (.bipush (-103), 2) := by decide +kernel
theorem dX2_read_20 : decode cX2_read 20 = .ok (.ireturn, 1) := by decide +kernel
theorem dX2_read_21 : decode cX2_read 21 = .ok (.aload_n 0, 1) := by decide +kernel
theorem dX2_read_22 : decode cX2_read 22 = .ok (.invokevirtual 73, 3) := by decide +kernel
theorem dX2_read_25 : decode cX2_read 25 = .ok (.ifCond .eq 6, 3) := by decide +kernel
theorem dX2_read_28 : decode cX2_read 28 = .ok (.bipush (-104), 2) := by decide +kernel
theorem dX2_read_30 : decode cX2_read 30 = .ok (.ireturn, 1) := by decide +kernel
theorem dX2_read_31 : decode cX2_read 31 = .ok (.aload_n 0, 1) := by decide +kernel
theorem dX2_read_32 : decode cX2_read 32 = .ok (.getfield 32, 3) := by decide +kernel
theorem dX2_read_35 : decode cX2_read 35 = .ok (.istore_n 1, 1) := by decide +kernel
theorem dX2_read_36 : decode cX2_read 36 = .ok (.aload_n 0, 1) := by decide +kernel
theorem dX2_read_37 : decode cX2_read 37 = .ok (.getfield 11, 3) := by decide +kernel
theorem dX2_read_40 : decode cX2_read 40 = .ok (.aload_n 0, 1) := by decide +kernel
theorem dX2_read_41 : decode cX2_read 41 = .ok (.getfield 15, 3) := by decide +kernel
theorem dX2_read_44 : decode cX2_read 44 = .ok (.aaload, 1) := by decide +kernel
theorem dX2_read_45 : decode cX2_read 45 = .ok (.astore_n 2, 1) := by decide +kernel
theorem dX2_read_46 : decode cX2_read 46 = .ok (.aload_n 2, 1) := by decide +kernel
theorem dX2_read_47 : decode cX2_read 47 = .ok (.invokevirtual 77, 3) := by decide +kernel
theorem dX2_read_50 : decode cX2_read 50 = .ok (.iconst 0, 1) := by decide +kernel
theorem dX2_read_51 : decode cX2_read 51 = .ok (.istore_n 3, 1) := by decide +kernel
theorem dX2_read_52 : decode cX2_read 52 = .ok (.iload_n 3, 1) := by decide +kernel
theorem dX2_read_53 : decode cX2_read 53 = .ok (.aload_n 0, 1) := by decide +kernel
theorem dX2_read_54 : decode cX2_read 54 = .ok (.getfield 22, 3) := by decide +kernel
theorem dX2_read_57 : decode cX2_read 57 = .ok (.getfield 80, 3) := by decide +kernel
theorem dX2_read_60 : decode cX2_read 60 = .ok (.if_icmp .ge 80, 3) := by decide +kernel
theorem dX2_read_63 : decode cX2_read 63 = .ok (.aload_n 0, 1) := by decide +kernel
theorem dX2_read_64 : decode cX2_read 64 = .ok (.getfield 56, 3) := by decide +kernel
theorem dX2_read_67 : decode cX2_read 67 = .ok (.aload_n 2, 1) := by decide +kernel
theorem dX2_read_68 : decode cX2_read 68 = .ok (.invokevirtual 83, 3) := by decide +kernel
theorem dX2_read_71 : decode cX2_read 71 = .ok (.aload_n 0, 1) := by decide +kernel
theorem dX2_read_72 : decode cX2_read 72 = .ok (.getfield 56, 3) := by decide +kernel
theorem dX2_read_75 : decode cX2_read 75 = .ok (.aload_n 0, 1) := by decide +kernel
theorem dX2_read_76 : decode cX2_read 76 = .ok (.getfield 22, 3) := by decide +kernel
theorem dX2_read_79 : decode cX2_read 79 = .ok (.getfield 87, 3) := by decide +kernel
theorem dX2_read_82 : decode cX2_read 82 = .ok (.iload_n 3, 1) := by decide +kernel
theorem dX2_read_83 : decode cX2_read 83 = .ok (.iaload, 1) := by decide +kernel
theorem dX2_read_84 : decode cX2_read 84 = .ok (.aload_n 0, 1) := by decide +kernel
theorem dX2_read_85 : decode cX2_read 85 = .ok (.getfield 22, 3) := by decide +kernel
theorem dX2_read_88 : decode cX2_read 88 = .ok (.getfield 90, 3) := by decide +kernel
theorem dX2_read_91 : decode cX2_read 91 = .ok (.iload_n 3, 1) := by decide +kernel
theorem dX2_read_92 : decode cX2_read 92 = .ok (.iaload, 1) := by decide +kernel
theorem dX2_read_93 : decode cX2_read 93 = .ok (.aload_n 0, 1) := by decide +kernel
theorem dX2_read_94 : decode cX2_read 94 = .ok (.aload_n 0, 1) := by decide +kernel
theorem dX2_read_95 : decode cX2_read 95 = .ok (.getfield 22, 3) := by decide +kernel
theorem dX2_read_98 : decode cX2_read 98 = .ok (.getfield 87, 3) := by decide +kernel
theorem dX2_read_101 : decode cX2_read 101 = .ok (.iload_n 3, 1) := by decide +kernel
theorem dX2_read_102 : decode cX2_read 102 = .ok (.iaload, 1) := by decide +kernel
theorem dX2_read_103 : decode cX2_read 103 = .ok (.invokevirtual 93, 3) := by decide +kernel
theorem dX2_read_106 : decode cX2_read 106 = .ok (.invokevirtual 97, 3) := by decide +kernel
theorem dX2_read_109 : decode cX2_read 109 = .ok (.aload_n 0, 1) := by decide +kernel
theorem dX2_read_110 : decode cX2_read 110 = .ok (.aload_n 0, 1) := by decide +kernel
theorem dX2_read_111 : decode cX2_read 111 = .ok (.getfield 56, 3) := by decide +kernel
theorem dX2_read_114 : decode cX2_read 114 = .ok (.aload_n 2, 1) := by decide +kernel
theorem dX2_read_115 : decode cX2_read 115 = .ok (.iload_n 1, 1) := by decide +kernel
theorem dX2_read_116 : decode cX2_read 116 = .ok (.invokevirtual 101, 3) := by decide +kernel
theorem dX2_read_119 : decode cX2_read 119 = .ok (.pop, 1) := by decide +kernel
theorem dX2_read_120 : decode cX2_read 120 = .ok (.aload_n 2, 1) := by decide +kernel
theorem dX2_read_121 : decode cX2_read 121 = .ok (.astore 4, 2) := by decide +kernel
theorem dX2_read_123 : decode cX2_read 123 = .ok (.aload_n 0, 1) := by decide +kernel
theorem dX2_read_124 : decode cX2_read 124 = .ok (.getfield 56, 3) := by decide +kernel
theorem dX2_read_127 : decode cX2_read 127 = .ok (.astore_n 2, 1) := by decide +kernel
theorem dX2_read_128 : decode cX2_read 128 = .ok (.aload_n 0, 1) := by decide +kernel
theorem dX2_read_129 : decode cX2_read 129 = .ok (.aload 4, 2) := by decide +kernel
theorem dX2_read_131 : decode cX2_read 131 = .ok (.putfield 56, 3) := by decide +kernel
theorem dX2_read_134 : decode cX2_read 134 = .ok (.iinc 3 1, 3) := by decide +kernel
theorem dX2_read_137 : decode cX2_read 137 = .ok (.goto (-85), 3) := by decide +kernel
theorem dX2_read_140 : decode cX2_read 140 = .ok (.aload_n 0, 1) := by decide +kernel
theorem dX2_read_141 : decode cX2_read 141 = .ok (.getfield 11, 3) := by decide +kernel
theorem dX2_read_144 : decode cX2_read 144 = .ok (.aload_n 0, 1) := by decide +kernel
theorem dX2_read_145 : decode cX2_read 145 = .ok (.getfield 15, 3) := by decide +kernel
theorem dX2_read_148 : decode cX2_read 148 = .ok (.aload_n 2, 1) := by decide +kernel
theorem dX2_read_149 : decode cX2_read 149 = .ok (.aastore, 1) := by decide +kernel
theorem dX2_read_150 : decode cX2_read 150 = .ok (.aload_n 0, 1) := by decide +kernel
theorem dX2_read_151 : decode cX2_read 151 = .ok (.getfield 22, 3) := by decide +kernel
theorem dX2_read_154 : decode cX2_read 154 = .ok (.iconst 0, 1) := by decide +kernel
theorem dX2_read_155 : decode cX2_read 155 = .ok (.putfield 59, 3) := by decide +kernel
theorem dX2_read_158 : decode cX2_read 158 = .ok (.aload_n 0, 1) := by decide +kernel
theorem dX2_read_159 : decode cX2_read 159 = .ok (.dup, 1) := by decide +kernel
theorem dX2_read_160 : decode cX2_read 160 = .ok (.getfield 35, 3) := by decide +kernel
theorem dX2_read_163 : decode cX2_read 163 = .ok (.iconst 1, 1) := by decide +kernel
theorem dX2_read_164 : decode cX2_read 164 = .ok (.iadd, 1) := by decide +kernel
theorem dX2_read_165 : decode cX2_read 165 = .ok (.putfield 35, 3) := by decide +kernel
theorem dX2_read_168 : decode cX2_read 168 = .ok (.aload_n 0, 1) := by decide +kernel
theorem dX2_read_169 : decode cX2_read 169 = .ok (.invokevirtual 105, 3) := by decide +kernel
theorem dX2_read_172 : decode cX2_read 172 = .ok (.ireturn, 1) := by decide +kernel
theorem dX2_scheme_0 : decode cX2_scheme 0 = .ok (.iload_n 1, 1) := by decide +kernel
theorem dX2_scheme_1 : decode cX2_scheme 1 = .ok (.iconst 1, 1) := by decide +kernel
theorem dX2_scheme_2 : decode cX2_scheme 2 = .ok (.if_icmp .lt 15, 3) := by decide +kernel
theorem dX2_scheme_5 : decode cX2_scheme 5 = .ok (.iload_n 1, 1) := by decide +kernel
theorem dX2_scheme_6 : decode cX2_scheme 6 = .ok (.ldc 108, 2) := by decide +kernel
theorem dX2_scheme_8 : decode cX2_scheme 8 = .ok (.if_icmp .gt 9, 3) := by decide +kernel
theorem dX2_scheme_11 : decode cX2_scheme 11 = .ok (.iload_n 1, 1) := by decide +kernel
theorem dX2_scheme_12 : decode cX2_scheme 12 = .ok (.iconst 1, 1) := by decide +kernel
theorem dX2_scheme_13 : decode cX2_scheme 13 = .ok (.iand, 1) := by decide +kernel
theorem dX2_scheme_14 : decode cX2_scheme 14 = .ok (.ifCond .ne 6, 3) := by decide +kernel
theorem dX2_scheme_17 : decode cX2_scheme 17 = .ok (.bipush (-102), 2) := by decide +kernel
theorem dX2_scheme_19 : decode cX2_scheme 19 = .ok (.ireturn, 1) := by decide +kernel
theorem dX2_scheme_20 : decode cX2_scheme 20 = .ok (.iload_n 2, 1) := by decide +kernel
theorem dX2_scheme_21 : decode cX2_scheme 21 = .ok (.iconst 3, 1) := by decide +kernel
theorem dX2_scheme_22 : decode cX2_scheme 22 = .ok (.if_icmp .lt 9, 3) := by decide +kernel
theorem dX2_scheme_25 : decode cX2_scheme 25 = .ok (.iload_n 2, 1) := by decide +kernel
theorem dX2_scheme_26 : decode cX2_scheme 26 = .ok (.bipush 30, 2) := by decide +kernel
theorem dX2_scheme_28 : decode cX2_scheme 28 = .ok (.if_icmp .le 6, 3) := by decide +kernel
theorem dX2_scheme_31 : decode cX2_scheme 31 = .ok (.bipush (-102), 2) := by decide +kernel
theorem dX2_scheme_33 : decode cX2_scheme 33 = .ok (.ireturn, 1) := by decide +kernel
theorem dX2_scheme_34 : decode cX2_scheme 34 = .ok (.aload_n 0, 1) := by decide +kernel
theorem dX2_scheme_35 : decode cX2_scheme 35 = .ok (.iload_n 1, 1) := by decide +kernel
theorem dX2_scheme_36 : decode cX2_scheme 36 = .ok (.putfield 26, 3) := by decide +kernel
theorem dX2_scheme_39 : decode cX2_scheme 39 = .ok (.aload_n 0, 1) := by decide +kernel
theorem dX2_scheme_40 : decode cX2_scheme 40 = .ok (.iload_n 2, 1) := by decide +kernel
theorem dX2_scheme_41 : decode cX2_scheme 41 = .ok (.putfield 29, 3) := by decide +kernel
theorem dX2_scheme_44 : decode cX2_scheme 44 = .ok (.aload_n 0, 1) := by decide +kernel
theorem dX2_scheme_45 : decode cX2_scheme 45 = .ok (.getfield 15, 3) := by decide +kernel
theorem dX2_scheme_48 : decode cX2_scheme 48 = .ok (.iconst 1, 1) := by decide +kernel
theorem dX2_scheme_49 : decode cX2_scheme 49 = .ok (.isub, 1) := by decide +kernel
theorem dX2_scheme_50 : decode cX2_scheme 50 = .ok (.istore_n 3, 1) := by decide +kernel
theorem dX2_scheme_51 : decode cX2_scheme 51 = .ok (.aload_n 0, 1) := by decide +kernel
theorem dX2_scheme_52 : decode cX2_scheme 52 = .ok (.iconst 1, 1) := by decide +kernel
theorem dX2_scheme_53 : decode cX2_scheme 53 = .ok (.putfield 15, 3) := by decide +kernel
theorem dX2_scheme_56 : decode cX2_scheme 56 = .ok (.aload_n 0, 1) := by decide +kernel
theorem dX2_scheme_57 : decode cX2_scheme 57 = .ok (.iconst 0, 1) := by decide +kernel
theorem dX2_scheme_58 : decode cX2_scheme 58 = .ok (.putfield 46, 3) := by decide +kernel
theorem dX2_scheme_61 : decode cX2_scheme 61 = .ok (.iload_n 3, 1) := by decide +kernel
theorem dX2_scheme_62 : decode cX2_scheme 62 = .ok (.ireturn, 1) := by decide +kernel
theorem dX2_hash_0 : decode cX2_hash 0 = .ok (.iload_n 1, 1) := by decide +kernel
theorem dX2_hash_1 : decode cX2_hash 1 = .ok (.invokestatic 109, 3) := by decide +kernel
theorem dX2_hash_4 : decode cX2_hash 4 = .ok (.ifCond .eq 11, 3) := by decide +kernel
theorem dX2_hash_7 : decode cX2_hash 7 = .ok (.aload_n 0, 1) := by decide +kernel
theorem dX2_hash_8 : decode cX2_hash 8 = .ok (.iload_n 1, 1) := by decide +kernel
theorem dX2_hash_9 : decode cX2_hash 9 = .ok (.invokevirtual 113, 3) := by decide +kernel
theorem dX2_hash_12 : decode cX2_hash 12 = .ok (.goto 5, 3) := by decide +kernel
theorem dX2_hash_15 : decode cX2_hash 15 = .ok (.bipush (-102), 2) := by decide +kernel
theorem dX2_hash_17 : decode cX2_hash 17 = .ok (.ireturn, 1) := by decide +kernel
theorem dX2_put_0 : decode cX2_put 0 = .ok (.aload_n 0, 1) := by decide +kernel
theorem dX2_put_1 : decode cX2_put 1 = .ok (.iload_n 1, 1) := by decide +kernel
theorem dX2_put_2 : decode cX2_put 2 = .ok (.invokevirtual 116, 3) := by decide +kernel
theorem dX2_put_5 : decode cX2_put 5 = .ok (.ifCond .ne 6, 3) := by decide +kernel
theorem dX2_put_8 : decode cX2_put 8 = .ok (.bipush (-101), 2) := by decide +kernel
theorem dX2_put_10 : decode cX2_put 10 = .ok (.ireturn, 1) := by decide +kernel
theorem dX2_put_11 : decode cX2_put 11 = .ok (.iload_n 2, 1) := by decide +kernel
theorem dX2_put_12 : decode cX2_put 12 = .ok (.invokestatic 109, 3) := by decide +kernel
theorem dX2_put_15 : decode cX2_put 15 = .ok (.ifCond .eq 10, 3) := by decide +kernel
theorem dX2_put_18 : decode cX2_put 18 = .ok (.iload_n 3, 1) := by decide +kernel
theorem dX2_put_19 : decode cX2_put 19 = .ok (.invokestatic 119, 3) := by decide +kernel
theorem dX2_put_22 : decode cX2_put 22 = .ok (.ifCond .ne 6, 3) := by decide +kernel
theorem dX2_put_25 : decode cX2_put 25 = .ok (.bipush (-102), 2) := by decide +kernel
theorem dX2_put_27 : decode cX2_put 27 = .ok (.ireturn, 1) := by decide +kernel
theorem dX2_put_28 : decode cX2_put 28 = .ok (.aload_n 0, 1) := by decide +kernel
theorem dX2_put_29 : decode cX2_put 29 = .ok (.getfield 11, 3) := by decide +kernel
theorem dX2_put_32 : decode cX2_put 32 = .ok (.iload_n 1, 1) := by decide +kernel
theorem dX2_put_33 : decode cX2_put 33 = .ok (.aaload, 1) := by decide +kernel
theorem dX2_put_34 : decode cX2_put 34 = .ok (.astore 4, 2) := by decide +kernel
theorem dX2_put_36 : decode cX2_put 36 = .ok (.aload_n 0, 1) := by decide +kernel
theorem dX2_put_37 : decode cX2_put 37 = .ok (.invokevirtual 73, 3) := by decide +kernel
theorem dX2_put_40 : decode cX2_put 40 = .ok (.ifCond .ne 12, 3) := by decide +kernel
theorem dX2_put_43 : decode cX2_put 43 = .ok (.aload 4, 2) := by decide +kernel
theorem dX2_put_45 : decode cX2_put 45 = .ok (.iload_n 2, 1) := by decide +kernel
theorem dX2_put_46 : decode cX2_put 46 = .ok (.invokevirtual 122, 3) := by decide +kernel
theorem dX2_put_49 : decode cX2_put 49 = .ok (.ifCond .ne 6, 3) := by decide +kernel
theorem dX2_put_52 : decode cX2_put 52 = .ok (.bipush (-104), 2) := by decide +kernel
theorem dX2_put_54 : decode cX2_put 54 = .ok (.ireturn, 1) := by decide +kernel
theorem dX2_put_55 : decode cX2_put 55 = .ok (.aload_n 0, 1) := by decide +kernel
theorem dX2_put_56 : decode cX2_put 56 = .ok (.getfield 11, 3) := by decide +kernel
theorem dX2_put_59 : decode cX2_put 59 = .ok (.aload_n 0, 1) := by decide +kernel
theorem dX2_put_60 : decode cX2_put 60 = .ok (.getfield 15, 3) := by decide +kernel
theorem dX2_put_63 : decode cX2_put 63 = .ok (.aaload, 1) := by decide +kernel
theorem dX2_put_64 : decode cX2_put 64 = .ok (.astore 5, 2) := by decide +kernel
theorem dX2_put_66 : decode cX2_put 66 = .ok (.aload 5, 2) := by decide +kernel
theorem dX2_put_68 : decode cX2_put 68 = .ok (.aload 4, 2) := by decide +kernel
theorem dX2_put_70 : decode cX2_put 70 = .ok (.invokevirtual 83, 3) := by decide +kernel
theorem dX2_put_73 : decode cX2_put 73 = .ok (.aload 5, 2) := by decide +kernel
theorem dX2_put_75 : decode cX2_put 75 = .ok (.iload_n 2, 1) := by decide +kernel
theorem dX2_put_76 : decode cX2_put 76 = .ok (.iload_n 3, 1) := by decide +kernel
theorem dX2_put_77 : decode cX2_put 77 = .ok (.aload_n 0, 1) := by decide +kernel
theorem dX2_put_78 : decode cX2_put 78 = .ok (.iload_n 2, 1) := by decide +kernel
theorem dX2_put_79 : decode cX2_put 79 = .ok (.invokevirtual 93, 3) := by decide +kernel
theorem dX2_put_82 : decode cX2_put 82 = .ok (.invokevirtual 97, 3) := by decide +kernel
theorem dX2_put_85 : decode cX2_put 85 = .ok (.aload_n 0, 1) := by decide +kernel
theorem dX2_put_86 : decode cX2_put 86 = .ok (.aload 5, 2) := by decide +kernel
theorem dX2_put_88 : decode cX2_put 88 = .ok (.aload 4, 2) := by decide +kernel
theorem dX2_put_90 : decode cX2_put 90 = .ok (.aload 4, 2) := by decide +kernel
theorem dX2_put_92 : decode cX2_put 92 = .ok (.invokevirtual 125, 3) := by decide +kernel
theorem dX2_put_95 : decode cX2_put 95 = .ok (.aload_n 0, 1) := by decide +kernel
theorem dX2_put_96 : decode cX2_put 96 = .ok (.invokevirtual 105, 3) := by decide +kernel
theorem dX2_put_99 : decode cX2_put 99 = .ok (.ireturn, 1) := by decide +kernel
theorem dX2_remove_0 : decode cX2_remove 0 = .ok (.aload_n 0, 1) := by decide +kernel
theorem dX2_remove_1 : decode cX2_remove 1 = .ok (.iload_n 1, 1) := by decide +kernel
theorem dX2_remove_2 : decode cX2_remove 2 = .ok (.invokevirtual 116, 3) := by decide +kernel
theorem dX2_remove_5 : decode cX2_remove 5 = .ok (.ifCond .ne 6, 3) := by decide +kernel
theorem dX2_remove_8 : decode cX2_remove 8 = .ok (.bipush (-101), 2) := by decide +kernel
theorem dX2_remove_10 : decode cX2_remove 10 = .ok (.ireturn, 1) := by decide +kernel
theorem dX2_remove_11 : decode cX2_remove 11 = .ok (.iload_n 2, 1) := by decide +kernel
theorem dX2_remove_12 : decode cX2_remove 12 = .ok (.invokestatic 109, 3) := by decide +kernel
theorem dX2_remove_15 : decode cX2_remove 15 = .ok (.ifCond .ne 6, 3) := by decide +kernel
theorem dX2_remove_18 : decode cX2_remove 18 = .ok (.bipush (-102), 2) := by decide +kernel
theorem dX2_remove_20 : decode cX2_remove 20 = .ok (.ireturn, 1) := by decide +kernel
theorem dX2_remove_21 : decode cX2_remove 21 = .ok (.aload_n 0, 1) := by decide +kernel
theorem dX2_remove_22 : decode cX2_remove 22 = .ok (.invokevirtual 73, 3) := by decide +kernel
theorem dX2_remove_25 : decode cX2_remove 25 = .ok (.ifCond .eq 6, 3) := by decide +kernel
theorem dX2_remove_28 : decode cX2_remove 28 = .ok (.bipush (-104), 2) := by decide +kernel
theorem dX2_remove_30 : decode cX2_remove 30 = .ok (.ireturn, 1) := by decide +kernel
theorem dX2_remove_31 : decode cX2_remove 31 = .ok (.aload_n 0, 1) := by decide +kernel
theorem dX2_remove_32 : decode cX2_remove 32 = .ok (.getfield 11, 3) := by decide +kernel
theorem dX2_remove_35 : decode cX2_remove 35 = .ok (.iload_n 1, 1) := by decide +kernel
theorem dX2_remove_36 : decode cX2_remove 36 = .ok (.aaload, 1) := by decide +kernel
theorem dX2_remove_37 : decode cX2_remove 37 = .ok (.astore_n 3, 1) := by decide +kernel
theorem dX2_remove_38 : decode cX2_remove 38 = .ok (.aload_n 0, 1) := by decide +kernel
theorem dX2_remove_39 : decode cX2_remove 39 = .ok (.getfield 11, 3) := by decide +kernel
theorem dX2_remove_42 : decode cX2_remove 42 = .ok (.aload_n 0, 1) := by decide +kernel
theorem dX2_remove_43 : decode cX2_remove 43 = .ok (.getfield 15, 3) := by decide +kernel
theorem dX2_remove_46 : decode cX2_remove 46 = .ok (.aaload, 1) := by decide +kernel
theorem dX2_remove_47 : decode cX2_remove 47 = .ok (.astore 4, 2) := by decide +kernel
theorem dX2_remove_49 : decode cX2_remove 49 = .ok (.aload 4, 2) := by decide +kernel
theorem dX2_remove_51 : decode cX2_remove 51 = .ok (.aload_n 3, 1) := by decide +kernel
theorem dX2_remove_52 : decode cX2_remove 52 = .ok (.invokevirtual 83, 3) := by decide +kernel
theorem dX2_remove_55 : decode cX2_remove 55 = .ok (.aload 4, 2) := by decide +kernel
theorem dX2_remove_57 : decode cX2_remove 57 = .ok (.iload_n 2, 1) := by decide +kernel
theorem dX2_remove_58 : decode cX2_remove 58 = .ok (.invokevirtual 129, 3) := by decide +kernel
theorem dX2_remove_61 : decode cX2_remove 61 = .ok (.aload_n 0, 1) := by decide +kernel
theorem dX2_remove_62 : decode cX2_remove 62 = .ok (.aload 4, 2) := by decide +kernel
theorem dX2_remove_64 : decode cX2_remove 64 = .ok (.aload_n 3, 1) := by decide +kernel
theorem dX2_remove_65 : decode cX2_remove 65 = .ok (.aload_n 3, 1) := by decide +kernel
theorem dX2_remove_66 : decode cX2_remove 66 = .ok (.invokevirtual 125, 3) := by decide +kernel
theorem dX2_remove_69 : decode cX2_remove 69 = .ok (.aload_n 0, 1) := by decide +kernel
theorem dX2_remove_70 : decode cX2_remove 70 = .ok (.invokevirtual 105, 3) := by decide +kernel
theorem dX2_remove_73 : decode cX2_remove 73 = .ok (.ireturn, 1) := by decide +kernel
theorem dX2_both_0 : decode cX2_both 0 = .ok (.aload_n 0, 1) := by decide +kernel
theorem dX2_both_1 : decode cX2_both 1 = .ok (.iload_n 1, 1) := by decide +kernel
theorem dX2_both_2 : decode cX2_both 2 = .ok (.invokevirtual 116, 3) := by decide +kernel
theorem dX2_both_5 : decode cX2_both 5 = .ok (.ifCond .eq 11, 3) := by decide +kernel
theorem dX2_both_8 : decode cX2_both 8 = .ok (.aload_n 0, 1) := by decide +kernel
theorem dX2_both_9 : decode cX2_both 9 = .ok (.iload_n 2, 1) := by decide +kernel
theorem dX2_both_10 : decode cX2_both 10 = .ok (.invokevirtual 116, 3) := by decide +kernel
theorem dX2_both_13 : decode cX2_both 13 = .ok (.ifCond .ne 6, 3) := by decide +kernel
theorem dX2_both_16 : decode cX2_both 16 = .ok (.bipush (-101), 2) := by decide +kernel
theorem dX2_both_18 : decode cX2_both 18 = .ok (.ireturn, 1) := by decide +kernel
theorem dX2_both_19 : decode cX2_both 19 = .ok (.iload_n 3, 1) := by decide +kernel
theorem dX2_both_20 : decode cX2_both 20 = .ok (.ifCond .lt 8, 3) := by decide +kernel
theorem dX2_both_23 : decode cX2_both 23 = .ok (.iload_n 3, 1) := by decide +kernel
theorem dX2_both_24 : decode cX2_both 24 = .ok (.iconst 2, 1) := by decide +kernel
theorem dX2_both_25 : decode cX2_both 25 = .ok (.if_icmp .le 6, 3) := by decide +kernel
theorem dX2_both_28 : decode cX2_both 28 = .ok (.bipush (-102), 2) := by decide +kernel
theorem dX2_both_30 : decode cX2_both 30 = .ok (.ireturn, 1) := by decide +kernel
theorem dX2_both_31 : decode cX2_both 31 = .ok (.aload_n 0, 1) := by decide +kernel
theorem dX2_both_32 : decode cX2_both 32 = .ok (.getfield 11, 3) := by decide +kernel
theorem dX2_both_35 : decode cX2_both 35 = .ok (.iload_n 1, 1) := by decide +kernel
theorem dX2_both_36 : decode cX2_both 36 = .ok (.aaload, 1) := by decide +kernel
theorem dX2_both_37 : decode cX2_both 37 = .ok (.astore 4, 2) := by decide +kernel
theorem dX2_both_39 : decode cX2_both 39 = .ok (.aload_n 0, 1) := by decide +kernel
theorem dX2_both_40 : decode cX2_both 40 = .ok (.getfield 11, 3) := by decide +kernel
theorem dX2_both_43 : decode cX2_both 43 = .ok (.iload_n 2, 1) := by decide +kernel
theorem dX2_both_44 : decode cX2_both 44 = .ok (.aaload, 1) := by decide +kernel
theorem dX2_both_45 : decode cX2_both 45 = .ok (.astore 5, 2) := by decide +kernel
theorem dX2_both_47 : decode cX2_both 47 = .ok (.aload 4, 2) := by decide +kernel
theorem dX2_both_49 : decode cX2_both 49 = .ok (.getfield 133, 3) := by decide +kernel
theorem dX2_both_52 : decode cX2_both 52 = .ok (.aload 5, 2) := by decide +kernel
theorem dX2_both_54 : decode cX2_both 54 = .ok (.getfield 133, 3) := by decide +kernel
theorem dX2_both_57 : decode cX2_both 57 = .ok (.iadd, 1) := by decide +kernel
theorem dX2_both_58 : decode cX2_both 58 = .ok (.aload 4, 2) := by decide +kernel
theorem dX2_both_60 : decode cX2_both 60 = .ok (.aload 5, 2) := by decide +kernel
theorem dX2_both_62 : decode cX2_both 62 = .ok (.invokevirtual 136, 3) := by decide +kernel
theorem dX2_both_65 : decode cX2_both 65 = .ok (.isub, 1) := by decide +kernel
theorem dX2_both_66 : decode cX2_both 66 = .ok (.istore 6, 2) := by decide +kernel
theorem dX2_both_68 : decode cX2_both 68 = .ok (.aload_n 0, 1) := by decide +kernel
theorem dX2_both_69 : decode cX2_both 69 = .ok (.invokevirtual 73, 3) := by decide +kernel
theorem dX2_both_72 : decode cX2_both 72 = .ok (.ifCond .ne 14, 3) := by decide +kernel
theorem dX2_both_75 : decode cX2_both 75 = .ok (.iload_n 3, 1) := by decide +kernel
theorem dX2_both_76 : decode cX2_both 76 = .ok (.ifCond .ne 13, 3) := by decide +kernel
theorem dX2_both_79 : decode cX2_both 79 = .ok (.iload 6, 2) := by decide +kernel
theorem dX2_both_81 : decode cX2_both 81 = .ok (.bipush 24, 2) := by decide +kernel
theorem dX2_both_83 : decode cX2_both 83 = .ok (.if_icmp .le 6, 3) := by decide +kernel
theorem dX2_both_86 : decode cX2_both 86 = .ok (.bipush (-104), 2) := by decide +kernel
theorem dX2_both_88 : decode cX2_both 88 = .ok (.ireturn, 1) := by decide +kernel
theorem dX2_both_89 : decode cX2_both 89 = .ok (.aload_n 0, 1) := by decide +kernel
theorem dX2_both_90 : decode cX2_both 90 = .ok (.getfield 11, 3) := by decide +kernel
theorem dX2_both_93 : decode cX2_both 93 = .ok (.aload_n 0, 1) := by decide +kernel
theorem dX2_both_94 : decode cX2_both 94 = .ok (.getfield 15, 3) := by decide +kernel
theorem dX2_both_97 : decode cX2_both 97 = .ok (.aaload, 1) := by decide +kernel
theorem dX2_both_98 : decode cX2_both 98 = .ok (.astore 7, 2) := by decide +kernel
theorem dX2_both_100 : decode cX2_both 100 = .ok (.iload_n 3, 1) := by decide +kernel
theorem dX2_both_101 : decode cX2_both 101 = .ok (.ifCond .ne 15, 3) := by decide +kernel
theorem dX2_both_104 : decode cX2_both 104 = .ok (.aload 7, 2) := by decide +kernel
theorem dX2_both_106 : decode cX2_both 106 = .ok (.aload 4, 2) := by decide +kernel
theorem dX2_both_108 : decode cX2_both 108 = .ok (.aload 5, 2) := by decide +kernel
theorem dX2_both_110 : decode cX2_both 110 = .ok (.invokevirtual 140, 3) := by decide +kernel
theorem dX2_both_113 : decode cX2_both 113 = .ok (.goto 22, 3) := by decide +kernel
theorem dX2_both_116 : decode cX2_both 116 = .ok (.aload 7, 2) := by decide +kernel
theorem dX2_both_118 : decode cX2_both 118 = .ok (.aload 4, 2) := by decide +kernel
theorem dX2_both_120 : decode cX2_both 120 = .ok (.aload 5, 2) := by decide +kernel
theorem dX2_both_122 : decode cX2_both 122 = .ok (.iload_n 3, 1) := by decide +kernel
theorem dX2_both_123 : decode cX2_both 123 = .ok (.iconst 1, 1) := by decide +kernel
theorem dX2_both_124 : decode cX2_both 124 = .ok (.if_icmp .ne 7, 3) := by decide +kernel
theorem dX2_both_127 : decode cX2_both 127 = .ok (.iconst 1, 1) := by decide +kernel
theorem dX2_both_128 : decode cX2_both 128 = .ok (.goto 4, 3) := by decide +kernel
theorem dX2_both_131 : decode cX2_both 131 = .ok (.iconst 0, 1) := by decide +kernel
theorem dX2_both_132 : decode cX2_both 132 = .ok (.invokevirtual 144, 3) := by decide +kernel
theorem dX2_both_135 : decode cX2_both 135 = .ok (.aload_n 0, 1) := by decide +kernel
theorem dX2_both_136 : decode cX2_both 136 = .ok (.aload 7, 2) := by decide +kernel
theorem dX2_both_138 : decode cX2_both 138 = .ok (.aload 4, 2) := by decide +kernel
theorem dX2_both_140 : decode cX2_both 140 = .ok (.aload 5, 2) := by decide +kernel
theorem dX2_both_142 : decode cX2_both 142 = .ok (.invokevirtual 125, 3) := by decide +kernel
theorem dX2_both_145 : decode cX2_both 145 = .ok (.aload_n 0, 1) := by decide +kernel
theorem dX2_both_146 : decode cX2_both 146 = .ok (.invokevirtual 105, 3) := by decide +kernel
theorem dX2_both_149 : decode cX2_both 149 = .ok (.ireturn, 1) := by decide +kernel
theorem dX2_chosen_0 : decode cX2_chosen 0 = .ok (.aload_n 0, 1) := by decide +kernel
theorem dX2_chosen_1 : decode cX2_chosen 1 = .ok (.iload_n 1, 1) := by decide +kernel
theorem dX2_chosen_2 : decode cX2_chosen 2 = .ok (.invokevirtual 116, 3) := by decide +kernel
theorem dX2_chosen_5 : decode cX2_chosen 5 = .ok (.ifCond .ne 6, 3) := by decide +kernel
theorem dX2_chosen_8 : decode cX2_chosen 8 = .ok (.bipush (-101), 2) := by decide +kernel
theorem dX2_chosen_10 : decode cX2_chosen 10 = .ok (.ireturn, 1) := by decide +kernel
theorem dX2_chosen_11 : decode cX2_chosen 11 = .ok (.iload_n 2, 1) := by decide +kernel
theorem dX2_chosen_12 : decode cX2_chosen 12 = .ok (.iconst 1, 1) := by decide +kernel
theorem dX2_chosen_13 : decode cX2_chosen 13 = .ok (.if_icmp .lt 19, 3) := by decide +kernel
theorem dX2_chosen_16 : decode cX2_chosen 16 = .ok (.iload_n 2, 1) := by decide +kernel
theorem dX2_chosen_17 : decode cX2_chosen 17 = .ok (.sipush 999, 3) := by decide +kernel
theorem dX2_chosen_20 : decode cX2_chosen 20 = .ok (.if_icmp .gt 12, 3) := by decide +kernel
theorem dX2_chosen_23 : decode cX2_chosen 23 = .ok (.iload_n 3, 1) := by decide +kernel
theorem dX2_chosen_24 : decode cX2_chosen 24 = .ok (.ifCond .lt 8, 3) := by decide +kernel
theorem dX2_chosen_27 : decode cX2_chosen 27 = .ok (.iload_n 3, 1) := by decide +kernel
theorem dX2_chosen_28 : decode cX2_chosen 28 = .ok (.iload_n 2, 1) := by decide +kernel
theorem dX2_chosen_29 : decode cX2_chosen 29 = .ok (.if_icmp .lt 6, 3) := by decide +kernel
theorem dX2_chosen_32 : decode cX2_chosen 32 = .ok (.bipush (-102), 2) := by decide +kernel
theorem dX2_chosen_34 : decode cX2_chosen 34 = .ok (.ireturn, 1) := by decide +kernel
theorem dX2_chosen_35 : decode cX2_chosen 35 = .ok (.aload_n 0, 1) := by decide +kernel
theorem dX2_chosen_36 : decode cX2_chosen 36 = .ok (.invokevirtual 73, 3) := by decide +kernel
theorem dX2_chosen_39 : decode cX2_chosen 39 = .ok (.ifCond .eq 6, 3) := by decide +kernel
theorem dX2_chosen_42 : decode cX2_chosen 42 = .ok (.bipush (-104), 2) := by decide +kernel
theorem dX2_chosen_44 : decode cX2_chosen 44 = .ok (.ireturn, 1) := by decide +kernel
theorem dX2_chosen_45 : decode cX2_chosen 45 = .ok (.aload_n 0, 1) := by decide +kernel
theorem dX2_chosen_46 : decode cX2_chosen 46 = .ok (.getfield 11, 3) := by decide +kernel
theorem dX2_chosen_49 : decode cX2_chosen 49 = .ok (.iload_n 1, 1) := by decide +kernel
theorem dX2_chosen_50 : decode cX2_chosen 50 = .ok (.aaload, 1) := by decide +kernel
theorem dX2_chosen_51 : decode cX2_chosen 51 = .ok (.astore 4, 2) := by decide +kernel
theorem dX2_chosen_53 : decode cX2_chosen 53 = .ok (.aload_n 0, 1) := by decide +kernel
theorem dX2_chosen_54 : decode cX2_chosen 54 = .ok (.getfield 11, 3) := by decide +kernel
theorem dX2_chosen_57 : decode cX2_chosen 57 = .ok (.aload_n 0, 1) := by decide +kernel
theorem dX2_chosen_58 : decode cX2_chosen 58 = .ok (.getfield 15, 3) := by decide +kernel
theorem dX2_chosen_61 : decode cX2_chosen 61 = .ok (.aaload, 1) := by decide +kernel
theorem dX2_chosen_62 : decode cX2_chosen 62 = .ok (.astore 5, 2) := by decide +kernel
theorem dX2_chosen_64 : decode cX2_chosen 64 = .ok (.aload 5, 2) := by decide +kernel
theorem dX2_chosen_66 : decode cX2_chosen 66 = .ok (.aload 4, 2) := by decide +kernel
theorem dX2_chosen_68 : decode cX2_chosen 68 = .ok (.iload_n 2, 1) := by decide +kernel
theorem dX2_chosen_69 : decode cX2_chosen 69 = .ok (.iload_n 3, 1) := by decide +kernel
theorem dX2_chosen_70 : decode cX2_chosen 70 = .ok (.invokevirtual 148, 3) := by decide +kernel
theorem dX2_chosen_73 : decode cX2_chosen 73 = .ok (.aload_n 0, 1) := by decide +kernel
theorem dX2_chosen_74 : decode cX2_chosen 74 = .ok (.aload 5, 2) := by decide +kernel
theorem dX2_chosen_76 : decode cX2_chosen 76 = .ok (.aload 4, 2) := by decide +kernel
theorem dX2_chosen_78 : decode cX2_chosen 78 = .ok (.aload 4, 2) := by decide +kernel
theorem dX2_chosen_80 : decode cX2_chosen 80 = .ok (.invokevirtual 125, 3) := by decide +kernel
theorem dX2_chosen_83 : decode cX2_chosen 83 = .ok (.aload_n 0, 1) := by decide +kernel
theorem dX2_chosen_84 : decode cX2_chosen 84 = .ok (.invokevirtual 105, 3) := by decide +kernel
theorem dX2_chosen_87 : decode cX2_chosen 87 = .ok (.ireturn, 1) := by decide +kernel
theorem dX2_forget_0 : decode cX2_forget 0 = .ok (.aload_n 0, 1) := by decide +kernel
theorem dX2_forget_1 : decode cX2_forget 1 = .ok (.getfield 15, 3) := by decide +kernel
theorem dX2_forget_4 : decode cX2_forget 4 = .ok (.iconst 1, 1) := by decide +kernel
theorem dX2_forget_5 : decode cX2_forget 5 = .ok (.if_icmp .gt 6, 3) := by decide +kernel
theorem dX2_forget_8 : decode cX2_forget 8 = .ok (.bipush (-103), 2) := by decide +kernel
theorem dX2_forget_10 : decode cX2_forget 10 = .ok (.ireturn, 1) := by decide +kernel
theorem dX2_forget_11 : decode cX2_forget 11 = .ok (.aload_n 0, 1) := by decide +kernel
theorem dX2_forget_12 : decode cX2_forget 12 = .ok (.dup, 1) := by decide +kernel
theorem dX2_forget_13 : decode cX2_forget 13 = .ok (.getfield 15, 3) := by decide +kernel
theorem dX2_forget_16 : decode cX2_forget 16 = .ok (.iconst 1, 1) := by decide +kernel
theorem dX2_forget_17 : decode cX2_forget 17 = .ok (.isub, 1) := by decide +kernel
theorem dX2_forget_18 : decode cX2_forget 18 = .ok (.putfield 15, 3) := by decide +kernel
theorem dX2_forget_21 : decode cX2_forget 21 = .ok (.aload_n 0, 1) := by decide +kernel
theorem dX2_forget_22 : decode cX2_forget 22 = .ok (.getfield 15, 3) := by decide +kernel
theorem dX2_forget_25 : decode cX2_forget 25 = .ok (.ireturn, 1) := by decide +kernel
theorem dX2_begin_0 : decode cX2_begin 0 = .ok (.aload_n 0, 1) := by decide +kernel
theorem dX2_begin_1 : decode cX2_begin 1 = .ok (.iload_n 1, 1) := by decide +kernel
theorem dX2_begin_2 : decode cX2_begin 2 = .ok (.invokevirtual 116, 3) := by decide +kernel
theorem dX2_begin_5 : decode cX2_begin 5 = .ok (.ifCond .ne 6, 3) := by decide +kernel
theorem dX2_begin_8 : decode cX2_begin 8 = .ok (.bipush (-101), 2) := by decide +kernel
theorem dX2_begin_10 : decode cX2_begin 10 = .ok (.ireturn, 1) := by decide +kernel
theorem dX2_begin_11 : decode cX2_begin 11 = .ok (.aload_n 0, 1) := by decide +kernel
theorem dX2_begin_12 : decode cX2_begin 12 = .ok (.getfield 46, 3) := by decide +kernel
theorem dX2_begin_15 : decode cX2_begin 15 = .ok (.ifCond .eq 6, 3) := by decide +kernel
theorem dX2_begin_18 : decode cX2_begin 18 = .ok (.bipush (-103), 2) := by decide +kernel
theorem dX2_begin_20 : decode cX2_begin 20 = .ok (.ireturn, 1) := by decide +kernel
theorem dX2_begin_21 : decode cX2_begin 21 = .ok (.aload_n 0, 1) := by decide +kernel
theorem dX2_begin_22 : decode cX2_begin 22 = .ok (.getfield 42, 3) := by decide +kernel
theorem dX2_begin_25 : decode cX2_begin 25 = .ok (.aload_n 0, 1) := by decide +kernel
theorem dX2_begin_26 : decode cX2_begin 26 = .ok (.getfield 11, 3) := by decide +kernel
theorem dX2_begin_29 : decode cX2_begin 29 = .ok (.iload_n 1, 1) := by decide +kernel
theorem dX2_begin_30 : decode cX2_begin 30 = .ok (.aaload, 1) := by decide +kernel
theorem dX2_begin_31 : decode cX2_begin 31 = .ok (.invokevirtual 152, 3) := by decide +kernel
theorem dX2_begin_34 : decode cX2_begin 34 = .ok (.aload_n 0, 1) := by decide +kernel
theorem dX2_begin_35 : decode cX2_begin 35 = .ok (.iconst 1, 1) := by decide +kernel
theorem dX2_begin_36 : decode cX2_begin 36 = .ok (.putfield 46, 3) := by decide +kernel
theorem dX2_begin_39 : decode cX2_begin 39 = .ok (.aload_n 0, 1) := by decide +kernel
theorem dX2_begin_40 : decode cX2_begin 40 = .ok (.iconst 0, 1) := by decide +kernel
theorem dX2_begin_41 : decode cX2_begin 41 = .ok (.putfield 50, 3) := by decide +kernel
theorem dX2_begin_44 : decode cX2_begin 44 = .ok (.aload_n 0, 1) := by decide +kernel
theorem dX2_begin_45 : decode cX2_begin 45 = .ok (.aload_n 0, 1) := by decide +kernel
theorem dX2_begin_46 : decode cX2_begin 46 = .ok (.getfield 32, 3) := by decide +kernel
theorem dX2_begin_49 : decode cX2_begin 49 = .ok (.putfield 53, 3) := by decide +kernel
theorem dX2_begin_52 : decode cX2_begin 52 = .ok (.aload_n 0, 1) := by decide +kernel
theorem dX2_begin_53 : decode cX2_begin 53 = .ok (.getfield 42, 3) := by decide +kernel
theorem dX2_begin_56 : decode cX2_begin 56 = .ok (.getfield 133, 3) := by decide +kernel
theorem dX2_begin_59 : decode cX2_begin 59 = .ok (.ireturn, 1) := by decide +kernel
theorem dX2_set_0 : decode cX2_set 0 = .ok (.aload_n 0, 1) := by decide +kernel
theorem dX2_set_1 : decode cX2_set 1 = .ok (.getfield 46, 3) := by decide +kernel
theorem dX2_set_4 : decode cX2_set 4 = .ok (.ifCond .ne 6, 3) := by decide +kernel
theorem dX2_set_7 : decode cX2_set 7 = .ok (.bipush (-103), 2) := by decide +kernel
theorem dX2_set_9 : decode cX2_set 9 = .ok (.ireturn, 1) := by decide +kernel
theorem dX2_set_10 : decode cX2_set 10 = .ok (.iload_n 1, 1) := by decide +kernel
theorem dX2_set_11 : decode cX2_set 11 = .ok (.invokestatic 109, 3) := by decide +kernel
theorem dX2_set_14 : decode cX2_set 14 = .ok (.ifCond .eq 10, 3) := by decide +kernel
theorem dX2_set_17 : decode cX2_set 17 = .ok (.iload_n 2, 1) := by decide +kernel
theorem dX2_set_18 : decode cX2_set 18 = .ok (.invokestatic 119, 3) := by decide +kernel
theorem dX2_set_21 : decode cX2_set 21 = .ok (.ifCond .ne 6, 3) := by decide +kernel
theorem dX2_set_24 : decode cX2_set 24 = .ok (.bipush (-102), 2) := by decide +kernel
theorem dX2_set_26 : decode cX2_set 26 = .ok (.ireturn, 1) := by decide +kernel
theorem dX2_set_27 : decode cX2_set 27 = .ok (.aload_n 0, 1) := by decide +kernel
theorem dX2_set_28 : decode cX2_set 28 = .ok (.getfield 42, 3) := by decide +kernel
theorem dX2_set_31 : decode cX2_set 31 = .ok (.iload_n 1, 1) := by decide +kernel
theorem dX2_set_32 : decode cX2_set 32 = .ok (.invokevirtual 122, 3) := by decide +kernel
theorem dX2_set_35 : decode cX2_set 35 = .ok (.ifCond .ne 6, 3) := by decide +kernel
theorem dX2_set_38 : decode cX2_set 38 = .ok (.bipush (-104), 2) := by decide +kernel
theorem dX2_set_40 : decode cX2_set 40 = .ok (.ireturn, 1) := by decide +kernel
theorem dX2_set_41 : decode cX2_set 41 = .ok (.aload_n 0, 1) := by decide +kernel
theorem dX2_set_42 : decode cX2_set 42 = .ok (.getfield 56, 3) := by decide +kernel
theorem dX2_set_45 : decode cX2_set 45 = .ok (.aload_n 0, 1) := by decide +kernel
theorem dX2_set_46 : decode cX2_set 46 = .ok (.getfield 42, 3) := by decide +kernel
theorem dX2_set_49 : decode cX2_set 49 = .ok (.invokevirtual 83, 3) := by decide +kernel
theorem dX2_set_52 : decode cX2_set 52 = .ok (.aload_n 0, 1) := by decide +kernel
theorem dX2_set_53 : decode cX2_set 53 = .ok (.getfield 56, 3) := by decide +kernel
theorem dX2_set_56 : decode cX2_set 56 = .ok (.iload_n 1, 1) := by decide +kernel
theorem dX2_set_57 : decode cX2_set 57 = .ok (.iload_n 2, 1) := by decide +kernel
theorem dX2_set_58 : decode cX2_set 58 = .ok (.aload_n 0, 1) := by decide +kernel
theorem dX2_set_59 : decode cX2_set 59 = .ok (.iload_n 1, 1) := by decide +kernel
theorem dX2_set_60 : decode cX2_set 60 = .ok (.invokevirtual 93, 3) := by decide +kernel
theorem dX2_set_63 : decode cX2_set 63 = .ok (.invokevirtual 97, 3) := by decide +kernel
theorem dX2_set_66 : decode cX2_set 66 = .ok (.aload_n 0, 1) := by decide +kernel
theorem dX2_set_67 : decode cX2_set 67 = .ok (.invokevirtual 155, 3) := by decide +kernel
theorem dX2_set_70 : decode cX2_set 70 = .ok (.ireturn, 1) := by decide +kernel
theorem dX2_unset_0 : decode cX2_unset 0 = .ok (.aload_n 0, 1) := by decide +kernel
theorem dX2_unset_1 : decode cX2_unset 1 = .ok (.getfield 46, 3) := by decide +kernel
theorem dX2_unset_4 : decode cX2_unset 4 = .ok (.ifCond .ne 6, 3) := by decide +kernel
theorem dX2_unset_7 : decode cX2_unset 7 = .ok (.bipush (-103), 2) := by decide +kernel
theorem dX2_unset_9 : decode cX2_unset 9 = .ok (.ireturn, 1) := by decide +kernel
theorem dX2_unset_10 : decode cX2_unset 10 = .ok (.iload_n 1, 1) := by decide +kernel
theorem dX2_unset_11 : decode cX2_unset 11 = .ok (.invokestatic 109, 3) := by decide +kernel
theorem dX2_unset_14 : decode cX2_unset 14 = .ok (.ifCond .ne 6, 3) := by decide +kernel
theorem dX2_unset_17 : decode cX2_unset 17 = .ok (.bipush (-102), 2) := by decide +kernel
theorem dX2_unset_19 : decode cX2_unset 19 = .ok (.ireturn, 1) := by decide +kernel
theorem dX2_unset_20 : decode cX2_unset 20 = .ok (.aload_n 0, 1) := by decide +kernel
theorem dX2_unset_21 : decode cX2_unset 21 = .ok (.getfield 56, 3) := by decide +kernel
theorem dX2_unset_24 : decode cX2_unset 24 = .ok (.aload_n 0, 1) := by decide +kernel
theorem dX2_unset_25 : decode cX2_unset 25 = .ok (.getfield 42, 3) := by decide +kernel
theorem dX2_unset_28 : decode cX2_unset 28 = .ok (.invokevirtual 83, 3) := by decide +kernel
theorem dX2_unset_31 : decode cX2_unset 31 = .ok (.aload_n 0, 1) := by decide +kernel
theorem dX2_unset_32 : decode cX2_unset 32 = .ok (.getfield 56, 3) := by decide +kernel
theorem dX2_unset_35 : decode cX2_unset 35 = .ok (.iload_n 1, 1) := by decide +kernel
theorem dX2_unset_36 : decode cX2_unset 36 = .ok (.invokevirtual 129, 3) := by decide +kernel
theorem dX2_unset_39 : decode cX2_unset 39 = .ok (.aload_n 0, 1) := by decide +kernel
theorem dX2_unset_40 : decode cX2_unset 40 = .ok (.invokevirtual 155, 3) := by decide +kernel
theorem dX2_unset_43 : decode cX2_unset 43 = .ok (.ireturn, 1) := by decide +kernel
theorem dX2_seal_0 : decode cX2_seal 0 = .ok (.aload_n 0, 1) := by decide +kernel
theorem dX2_seal_1 : decode cX2_seal 1 = .ok (.getfield 46, 3) := by decide +kernel
theorem dX2_seal_4 : decode cX2_seal 4 = .ok (.ifCond .ne 6, 3) := by decide +kernel
theorem dX2_seal_7 : decode cX2_seal 7 = .ok (.bipush (-103), 2) := by decide +kernel
theorem dX2_seal_9 : decode cX2_seal 9 = .ok (.ireturn, 1) := by decide +kernel
theorem dX2_seal_10 : decode cX2_seal 10 = .ok (.aload_n 0, 1) := by decide +kernel
theorem dX2_seal_11 : decode cX2_seal 11 = .ok (.invokevirtual 73, 3) := by decide +kernel
theorem dX2_seal_14 : decode cX2_seal 14 = .ok (.ifCond .eq 6, 3) := by decide +kernel
theorem dX2_seal_17 : decode cX2_seal 17 = .ok (.bipush (-104), 2) := by decide +kernel
theorem dX2_seal_19 : decode cX2_seal 19 = .ok (.ireturn, 1) := by decide +kernel
theorem dX2_seal_20 : decode cX2_seal 20 = .ok (.aload_n 0, 1) := by decide +kernel
theorem dX2_seal_21 : decode cX2_seal 21 = .ok (.getfield 11, 3) := by decide +kernel
theorem dX2_seal_24 : decode cX2_seal 24 = .ok (.aload_n 0, 1) := by decide +kernel
theorem dX2_seal_25 : decode cX2_seal 25 = .ok (.getfield 15, 3) := by decide +kernel
theorem dX2_seal_28 : decode cX2_seal 28 = .ok (.aaload, 1) := by decide +kernel
theorem dX2_seal_29 : decode cX2_seal 29 = .ok (.astore_n 1, 1) := by decide +kernel
theorem dX2_seal_30 : decode cX2_seal 30 = .ok (.aload_n 0, 1) := by decide +kernel
theorem dX2_seal_31 : decode cX2_seal 31 = .ok (.getfield 11, 3) := by decide +kernel
theorem dX2_seal_34 : decode cX2_seal 34 = .ok (.aload_n 0, 1) := by decide +kernel
theorem dX2_seal_35 : decode cX2_seal 35 = .ok (.getfield 15, 3) := by decide +kernel
theorem dX2_seal_38 : decode cX2_seal 38 = .ok (.aload_n 0, 1) := by decide +kernel
theorem dX2_seal_39 : decode cX2_seal 39 = .ok (.getfield 42, 3) := by decide +kernel
theorem dX2_seal_42 : decode cX2_seal 42 = .ok (.aastore, 1) := by decide +kernel
theorem dX2_seal_43 : decode cX2_seal 43 = .ok (.aload_n 0, 1) := by decide +kernel
theorem dX2_seal_44 : decode cX2_seal 44 = .ok (.aload_n 1, 1) := by decide +kernel
theorem dX2_seal_45 : decode cX2_seal 45 = .ok (.putfield 42, 3) := by decide +kernel
theorem dX2_seal_48 : decode cX2_seal 48 = .ok (.aload_n 0, 1) := by decide +kernel
theorem dX2_seal_49 : decode cX2_seal 49 = .ok (.iconst 0, 1) := by decide +kernel
theorem dX2_seal_50 : decode cX2_seal 50 = .ok (.putfield 46, 3) := by decide +kernel
theorem dX2_seal_53 : decode cX2_seal 53 = .ok (.aload_n 0, 1) := by decide +kernel
theorem dX2_seal_54 : decode cX2_seal 54 = .ok (.dup, 1) := by decide +kernel
theorem dX2_seal_55 : decode cX2_seal 55 = .ok (.getfield 38, 3) := by decide +kernel
theorem dX2_seal_58 : decode cX2_seal 58 = .ok (.iconst 1, 1) := by decide +kernel
theorem dX2_seal_59 : decode cX2_seal 59 = .ok (.iadd, 1) := by decide +kernel
theorem dX2_seal_60 : decode cX2_seal 60 = .ok (.putfield 38, 3) := by decide +kernel
theorem dX2_seal_63 : decode cX2_seal 63 = .ok (.aload_n 0, 1) := by decide +kernel
theorem dX2_seal_64 : decode cX2_seal 64 = .ok (.invokevirtual 105, 3) := by decide +kernel
theorem dX2_seal_67 : decode cX2_seal 67 = .ok (.ireturn, 1) := by decide +kernel
theorem dX2_leave_0 : decode cX2_leave 0 = .ok (.aload_n 0, 1) := by decide +kernel
theorem dX2_leave_1 : decode cX2_leave 1 = .ok (.getfield 46, 3) := by decide +kernel
theorem dX2_leave_4 : decode cX2_leave 4 = .ok (.ifCond .ne 6, 3) := by decide +kernel
theorem dX2_leave_7 : decode cX2_leave 7 = .ok (.bipush (-103), 2) := by decide +kernel
theorem dX2_leave_9 : decode cX2_leave 9 = .ok (.ireturn, 1) := by decide +kernel
theorem dX2_leave_10 : decode cX2_leave 10 = .ok (.aload_n 0, 1) := by decide +kernel
theorem dX2_leave_11 : decode cX2_leave 11 = .ok (.iconst 0, 1) := by decide +kernel
theorem dX2_leave_12 : decode cX2_leave 12 = .ok (.putfield 46, 3) := by decide +kernel
theorem dX2_leave_15 : decode cX2_leave 15 = .ok (.aload_n 0, 1) := by decide +kernel
theorem dX2_leave_16 : decode cX2_leave 16 = .ok (.getfield 42, 3) := by decide +kernel
theorem dX2_leave_19 : decode cX2_leave 19 = .ok (.aload_n 0, 1) := by decide +kernel
theorem dX2_leave_20 : decode cX2_leave 20 = .ok (.getfield 53, 3) := by decide +kernel
theorem dX2_leave_23 : decode cX2_leave 23 = .ok (.invokevirtual 158, 3) := by decide +kernel
theorem dX2_leave_26 : decode cX2_leave 26 = .ok (.ireturn, 1) := by decide +kernel
theorem dX2_edit_0 : decode cX2_edit 0 = .ok (.aload_n 0, 1) := by decide +kernel
theorem dX2_edit_1 : decode cX2_edit 1 = .ok (.getfield 46, 3) := by decide +kernel
theorem dX2_edit_4 : decode cX2_edit 4 = .ok (.ifCond .ne 6, 3) := by decide +kernel
theorem dX2_edit_7 : decode cX2_edit 7 = .ok (.bipush (-103), 2) := by decide +kernel
theorem dX2_edit_9 : decode cX2_edit 9 = .ok (.ireturn, 1) := by decide +kernel
theorem dX2_edit_10 : decode cX2_edit 10 = .ok (.iload_n 1, 1) := by decide +kernel
theorem dX2_edit_11 : decode cX2_edit 11 = .ok (.tableswitch 62 0 3 #[29, 37, 45, 57], 29) := by decide +kernel
theorem dX2_edit_40 : decode cX2_edit 40 = .ok (.aload_n 0, 1) := by decide +kernel
theorem dX2_edit_41 : decode cX2_edit 41 = .ok (.getfield 42, 3) := by decide +kernel
theorem dX2_edit_44 : decode cX2_edit 44 = .ok (.getfield 133, 3) := by decide +kernel
theorem dX2_edit_47 : decode cX2_edit 47 = .ok (.ireturn, 1) := by decide +kernel
theorem dX2_edit_48 : decode cX2_edit 48 = .ok (.aload_n 0, 1) := by decide +kernel
theorem dX2_edit_49 : decode cX2_edit 49 = .ok (.getfield 42, 3) := by decide +kernel
theorem dX2_edit_52 : decode cX2_edit 52 = .ok (.getfield 161, 3) := by decide +kernel
theorem dX2_edit_55 : decode cX2_edit 55 = .ok (.ireturn, 1) := by decide +kernel
theorem dX2_edit_56 : decode cX2_edit 56 = .ok (.aload_n 0, 1) := by decide +kernel
theorem dX2_edit_57 : decode cX2_edit 57 = .ok (.getfield 42, 3) := by decide +kernel
theorem dX2_edit_60 : decode cX2_edit 60 = .ok (.aload_n 0, 1) := by decide +kernel
theorem dX2_edit_61 : decode cX2_edit 61 = .ok (.getfield 53, 3) := by decide +kernel
theorem dX2_edit_64 : decode cX2_edit 64 = .ok (.invokevirtual 158, 3) := by decide +kernel
theorem dX2_edit_67 : decode cX2_edit 67 = .ok (.ireturn, 1) := by decide +kernel
theorem dX2_edit_68 : decode cX2_edit 68 = .ok (.aload_n 0, 1) := by decide +kernel
theorem dX2_edit_69 : decode cX2_edit 69 = .ok (.getfield 50, 3) := by decide +kernel
theorem dX2_edit_72 : decode cX2_edit 72 = .ok (.ireturn, 1) := by decide +kernel
theorem dX2_edit_73 : decode cX2_edit 73 = .ok (.bipush (-102), 2) := by decide +kernel
theorem dX2_edit_75 : decode cX2_edit 75 = .ok (.ireturn, 1) := by decide +kernel
theorem dX2_get_0 : decode cX2_get 0 = .ok (.aload_n 0, 1) := by decide +kernel
theorem dX2_get_1 : decode cX2_get 1 = .ok (.iload_n 1, 1) := by decide +kernel
theorem dX2_get_2 : decode cX2_get 2 = .ok (.invokevirtual 116, 3) := by decide +kernel
theorem dX2_get_5 : decode cX2_get 5 = .ok (.ifCond .ne 6, 3) := by decide +kernel
theorem dX2_get_8 : decode cX2_get 8 = .ok (.bipush (-101), 2) := by decide +kernel
theorem dX2_get_10 : decode cX2_get 10 = .ok (.ireturn, 1) := by decide +kernel
theorem dX2_get_11 : decode cX2_get 11 = .ok (.iload_n 2, 1) := by decide +kernel
theorem dX2_get_12 : decode cX2_get 12 = .ok (.invokestatic 109, 3) := by decide +kernel
theorem dX2_get_15 : decode cX2_get 15 = .ok (.ifCond .ne 6, 3) := by decide +kernel
theorem dX2_get_18 : decode cX2_get 18 = .ok (.bipush (-102), 2) := by decide +kernel
theorem dX2_get_20 : decode cX2_get 20 = .ok (.ireturn, 1) := by decide +kernel
theorem dX2_get_21 : decode cX2_get 21 = .ok (.aload_n 0, 1) := by decide +kernel
theorem dX2_get_22 : decode cX2_get 22 = .ok (.getfield 11, 3) := by decide +kernel
theorem dX2_get_25 : decode cX2_get 25 = .ok (.iload_n 1, 1) := by decide +kernel
theorem dX2_get_26 : decode cX2_get 26 = .ok (.aaload, 1) := by decide +kernel
theorem dX2_get_27 : decode cX2_get 27 = .ok (.astore_n 3, 1) := by decide +kernel
theorem dX2_get_28 : decode cX2_get 28 = .ok (.aload_n 3, 1) := by decide +kernel
theorem dX2_get_29 : decode cX2_get 29 = .ok (.iload_n 2, 1) := by decide +kernel
theorem dX2_get_30 : decode cX2_get 30 = .ok (.invokevirtual 164, 3) := by decide +kernel
theorem dX2_get_33 : decode cX2_get 33 = .ok (.istore 4, 2) := by decide +kernel
theorem dX2_get_35 : decode cX2_get 35 = .ok (.iload 4, 2) := by decide +kernel
theorem dX2_get_37 : decode cX2_get 37 = .ok (.ifCond .ge 7, 3) := by decide +kernel
theorem dX2_get_40 : decode cX2_get 40 = .ok (.iconst (-1), 1) := by decide +kernel
theorem dX2_get_41 : decode cX2_get 41 = .ok (.goto 10, 3) := by decide +kernel
theorem dX2_get_44 : decode cX2_get 44 = .ok (.aload_n 3, 1) := by decide +kernel
theorem dX2_get_45 : decode cX2_get 45 = .ok (.getfield 167, 3) := by decide +kernel
theorem dX2_get_48 : decode cX2_get 48 = .ok (.iload 4, 2) := by decide +kernel
theorem dX2_get_50 : decode cX2_get 50 = .ok (.iaload, 1) := by decide +kernel
theorem dX2_get_51 : decode cX2_get 51 = .ok (.ireturn, 1) := by decide +kernel
theorem dX2_about_0 : decode cX2_about 0 = .ok (.aload_n 0, 1) := by decide +kernel
theorem dX2_about_1 : decode cX2_about 1 = .ok (.iload_n 1, 1) := by decide +kernel
theorem dX2_about_2 : decode cX2_about 2 = .ok (.invokevirtual 116, 3) := by decide +kernel
theorem dX2_about_5 : decode cX2_about 5 = .ok (.ifCond .ne 6, 3) := by decide +kernel
theorem dX2_about_8 : decode cX2_about 8 = .ok (.bipush (-101), 2) := by decide +kernel
theorem dX2_about_10 : decode cX2_about 10 = .ok (.ireturn, 1) := by decide +kernel
theorem dX2_about_11 : decode cX2_about 11 = .ok (.aload_n 0, 1) := by decide +kernel
theorem dX2_about_12 : decode cX2_about 12 = .ok (.getfield 11, 3) := by decide +kernel
theorem dX2_about_15 : decode cX2_about 15 = .ok (.iload_n 1, 1) := by decide +kernel
theorem dX2_about_16 : decode cX2_about 16 = .ok (.aaload, 1) := by decide +kernel
theorem dX2_about_17 : decode cX2_about 17 = .ok (.astore_n 3, 1) := by decide +kernel
theorem dX2_about_18 : decode cX2_about 18 = .ok (.iload_n 2, 1) := by decide +kernel
theorem dX2_about_19 : decode cX2_about 19 = .ok (.tableswitch 70 0 5 #[37, 42, 47, 53, 59, 65], 37) := by decide +kernel
theorem dX2_about_56 : decode cX2_about 56 = .ok (.aload_n 3, 1) := by decide +kernel
theorem dX2_about_57 : decode cX2_about 57 = .ok (.getfield 133, 3) := by decide +kernel
theorem dX2_about_60 : decode cX2_about 60 = .ok (.ireturn, 1) := by decide +kernel
theorem dX2_about_61 : decode cX2_about 61 = .ok (.aload_n 3, 1) := by decide +kernel
theorem dX2_about_62 : decode cX2_about 62 = .ok (.getfield 161, 3) := by decide +kernel
theorem dX2_about_65 : decode cX2_about 65 = .ok (.ireturn, 1) := by decide +kernel
theorem dX2_about_66 : decode cX2_about 66 = .ok (.aload_n 3, 1) := by decide +kernel
theorem dX2_about_67 : decode cX2_about 67 = .ok (.iconst 0, 1) := by decide +kernel
theorem dX2_about_68 : decode cX2_about 68 = .ok (.invokevirtual 168, 3) := by decide +kernel
theorem dX2_about_71 : decode cX2_about 71 = .ok (.ireturn, 1) := by decide +kernel
theorem dX2_about_72 : decode cX2_about 72 = .ok (.aload_n 3, 1) := by decide +kernel
theorem dX2_about_73 : decode cX2_about 73 = .ok (.iconst 1, 1) := by decide +kernel
theorem dX2_about_74 : decode cX2_about 74 = .ok (.invokevirtual 168, 3) := by decide +kernel
theorem dX2_about_77 : decode cX2_about 77 = .ok (.ireturn, 1) := by decide +kernel
theorem dX2_about_78 : decode cX2_about 78 = .ok (.aload_n 3, 1) := by decide +kernel
theorem dX2_about_79 : decode cX2_about 79 = .ok (.iconst 2, 1) := by decide +kernel
theorem dX2_about_80 : decode cX2_about 80 = .ok (.invokevirtual 168, 3) := by decide +kernel
theorem dX2_about_83 : decode cX2_about 83 = .ok (.ireturn, 1) := by decide +kernel
theorem dX2_about_84 : decode cX2_about 84 = .ok (.aload_n 3, 1) := by decide +kernel
theorem dX2_about_85 : decode cX2_about 85 = .ok (.invokevirtual 171, 3) := by decide +kernel
theorem dX2_about_88 : decode cX2_about 88 = .ok (.ireturn, 1) := by decide +kernel
theorem dX2_about_89 : decode cX2_about 89 = .ok (.bipush (-102), 2) := by decide +kernel
theorem dX2_about_91 : decode cX2_about 91 = .ok (.ireturn, 1) := by decide +kernel
theorem dX2_node_0 : decode cX2_node 0 = .ok (.aload_n 0, 1) := by decide +kernel
theorem dX2_node_1 : decode cX2_node 1 = .ok (.iload_n 1, 1) := by decide +kernel
theorem dX2_node_2 : decode cX2_node 2 = .ok (.invokevirtual 116, 3) := by decide +kernel
theorem dX2_node_5 : decode cX2_node 5 = .ok (.ifCond .ne 6, 3) := by decide +kernel
theorem dX2_node_8 : decode cX2_node 8 = .ok (.bipush (-101), 2) := by decide +kernel
theorem dX2_node_10 : decode cX2_node 10 = .ok (.ireturn, 1) := by decide +kernel
theorem dX2_node_11 : decode cX2_node 11 = .ok (.aload_n 0, 1) := by decide +kernel
theorem dX2_node_12 : decode cX2_node 12 = .ok (.getfield 11, 3) := by decide +kernel
theorem dX2_node_15 : decode cX2_node 15 = .ok (.iload_n 1, 1) := by decide +kernel
theorem dX2_node_16 : decode cX2_node 16 = .ok (.aaload, 1) := by decide +kernel
theorem dX2_node_17 : decode cX2_node 17 = .ok (.astore 4, 2) := by decide +kernel
theorem dX2_node_19 : decode cX2_node 19 = .ok (.iload_n 2, 1) := by decide +kernel
theorem dX2_node_20 : decode cX2_node 20 = .ok (.ifCond .lt 12, 3) := by decide +kernel
theorem dX2_node_23 : decode cX2_node 23 = .ok (.iload_n 2, 1) := by decide +kernel
theorem dX2_node_24 : decode cX2_node 24 = .ok (.aload 4, 2) := by decide +kernel
theorem dX2_node_26 : decode cX2_node 26 = .ok (.getfield 161, 3) := by decide +kernel
theorem dX2_node_29 : decode cX2_node 29 = .ok (.if_icmp .lt 6, 3) := by decide +kernel
theorem dX2_node_32 : decode cX2_node 32 = .ok (.bipush (-101), 2) := by decide +kernel
theorem dX2_node_34 : decode cX2_node 34 = .ok (.ireturn, 1) := by decide +kernel
theorem dX2_node_35 : decode cX2_node 35 = .ok (.iload_n 3, 1) := by decide +kernel
theorem dX2_node_36 : decode cX2_node 36 = .ok (.tableswitch 82 0 4 #[36, 44, 52, 60, 74], 36) := by decide +kernel
theorem dX2_node_72 : decode cX2_node 72 = .ok (.aload 4, 2) := by decide +kernel
theorem dX2_node_74 : decode cX2_node 74 = .ok (.getfield 174, 3) := by decide +kernel
theorem dX2_node_77 : decode cX2_node 77 = .ok (.iload_n 2, 1) := by decide +kernel
theorem dX2_node_78 : decode cX2_node 78 = .ok (.iaload, 1) := by decide +kernel
theorem dX2_node_79 : decode cX2_node 79 = .ok (.ireturn, 1) := by decide +kernel
theorem dX2_node_80 : decode cX2_node 80 = .ok (.aload 4, 2) := by decide +kernel
theorem dX2_node_82 : decode cX2_node 82 = .ok (.getfield 177, 3) := by decide +kernel
theorem dX2_node_85 : decode cX2_node 85 = .ok (.iload_n 2, 1) := by decide +kernel
theorem dX2_node_86 : decode cX2_node 86 = .ok (.iaload, 1) := by decide +kernel
theorem dX2_node_87 : decode cX2_node 87 = .ok (.ireturn, 1) := by decide +kernel
theorem dX2_node_88 : decode cX2_node 88 = .ok (.aload 4, 2) := by decide +kernel
theorem dX2_node_90 : decode cX2_node 90 = .ok (.getfield 180, 3) := by decide +kernel
theorem dX2_node_93 : decode cX2_node 93 = .ok (.iload_n 2, 1) := by decide +kernel
theorem dX2_node_94 : decode cX2_node 94 = .ok (.iaload, 1) := by decide +kernel
theorem dX2_node_95 : decode cX2_node 95 = .ok (.ireturn, 1) := by decide +kernel
theorem dX2_node_96 : decode cX2_node 96 = .ok (.aload 4, 2) := by decide +kernel
theorem dX2_node_98 : decode cX2_node 98 = .ok (.getfield 183, 3) := by decide +kernel
theorem dX2_node_101 : decode cX2_node 101 = .ok (.aload 4, 2) := by decide +kernel
theorem dX2_node_103 : decode cX2_node 103 = .ok (.getfield 184, 3) := by decide +kernel
theorem dX2_node_106 : decode cX2_node 106 = .ok (.iload_n 2, 1) := by decide +kernel
theorem dX2_node_107 : decode cX2_node 107 = .ok (.iaload, 1) := by decide +kernel
theorem dX2_node_108 : decode cX2_node 108 = .ok (.iaload, 1) := by decide +kernel
theorem dX2_node_109 : decode cX2_node 109 = .ok (.ireturn, 1) := by decide +kernel
theorem dX2_node_110 : decode cX2_node 110 = .ok (.aload 4, 2) := by decide +kernel
theorem dX2_node_112 : decode cX2_node 112 = .ok (.getfield 187, 3) := by decide +kernel
theorem dX2_node_115 : decode cX2_node 115 = .ok (.iload_n 2, 1) := by decide +kernel
theorem dX2_node_116 : decode cX2_node 116 = .ok (.iaload, 1) := by decide +kernel
theorem dX2_node_117 : decode cX2_node 117 = .ok (.ireturn, 1) := by decide +kernel
theorem dX2_node_118 : decode cX2_node 118 = .ok (.bipush (-102), 2) := by decide +kernel
theorem dX2_node_120 : decode cX2_node 120 = .ok (.ireturn, 1) := by decide +kernel
theorem dX2_entry_0 : decode cX2_entry 0 = .ok (.aload_n 0, 1) := by decide +kernel
theorem dX2_entry_1 : decode cX2_entry 1 = .ok (.iload_n 1, 1) := by decide +kernel
theorem dX2_entry_2 : decode cX2_entry 2 = .ok (.invokevirtual 116, 3) := by decide +kernel
theorem dX2_entry_5 : decode cX2_entry 5 = .ok (.ifCond .ne 6, 3) := by decide +kernel
theorem dX2_entry_8 : decode cX2_entry 8 = .ok (.bipush (-101), 2) := by decide +kernel
theorem dX2_entry_10 : decode cX2_entry 10 = .ok (.ireturn, 1) := by decide +kernel
theorem dX2_entry_11 : decode cX2_entry 11 = .ok (.aload_n 0, 1) := by decide +kernel
theorem dX2_entry_12 : decode cX2_entry 12 = .ok (.getfield 11, 3) := by decide +kernel
theorem dX2_entry_15 : decode cX2_entry 15 = .ok (.iload_n 1, 1) := by decide +kernel
theorem dX2_entry_16 : decode cX2_entry 16 = .ok (.aaload, 1) := by decide +kernel
theorem dX2_entry_17 : decode cX2_entry 17 = .ok (.astore 4, 2) := by decide +kernel
theorem dX2_entry_19 : decode cX2_entry 19 = .ok (.iload_n 2, 1) := by decide +kernel
theorem dX2_entry_20 : decode cX2_entry 20 = .ok (.ifCond .lt 12, 3) := by decide +kernel
theorem dX2_entry_23 : decode cX2_entry 23 = .ok (.iload_n 2, 1) := by decide +kernel
theorem dX2_entry_24 : decode cX2_entry 24 = .ok (.aload 4, 2) := by decide +kernel
theorem dX2_entry_26 : decode cX2_entry 26 = .ok (.getfield 133, 3) := by decide +kernel
theorem dX2_entry_29 : decode cX2_entry 29 = .ok (.if_icmp .lt 6, 3) := by decide +kernel
theorem dX2_entry_32 : decode cX2_entry 32 = .ok (.bipush (-101), 2) := by decide +kernel
theorem dX2_entry_34 : decode cX2_entry 34 = .ok (.ireturn, 1) := by decide +kernel
theorem dX2_entry_35 : decode cX2_entry 35 = .ok (.iload_n 3, 1) := by decide +kernel
theorem dX2_entry_36 : decode cX2_entry 36 = .ok (.tableswitch 52 0 2 #[28, 36, 44], 28) := by decide +kernel
theorem dX2_entry_64 : decode cX2_entry 64 = .ok (.aload 4, 2) := by decide +kernel
theorem dX2_entry_66 : decode cX2_entry 66 = .ok (.getfield 183, 3) := by decide +kernel
theorem dX2_entry_69 : decode cX2_entry 69 = .ok (.iload_n 2, 1) := by decide +kernel
theorem dX2_entry_70 : decode cX2_entry 70 = .ok (.iaload, 1) := by decide +kernel
theorem dX2_entry_71 : decode cX2_entry 71 = .ok (.ireturn, 1) := by decide +kernel
theorem dX2_entry_72 : decode cX2_entry 72 = .ok (.aload 4, 2) := by decide +kernel
theorem dX2_entry_74 : decode cX2_entry 74 = .ok (.getfield 167, 3) := by decide +kernel
theorem dX2_entry_77 : decode cX2_entry 77 = .ok (.iload_n 2, 1) := by decide +kernel
theorem dX2_entry_78 : decode cX2_entry 78 = .ok (.iaload, 1) := by decide +kernel
theorem dX2_entry_79 : decode cX2_entry 79 = .ok (.ireturn, 1) := by decide +kernel
theorem dX2_entry_80 : decode cX2_entry 80 = .ok (.aload 4, 2) := by decide +kernel
theorem dX2_entry_82 : decode cX2_entry 82 = .ok (.getfield 190, 3) := by decide +kernel
theorem dX2_entry_85 : decode cX2_entry 85 = .ok (.iload_n 2, 1) := by decide +kernel
theorem dX2_entry_86 : decode cX2_entry 86 = .ok (.iaload, 1) := by decide +kernel
theorem dX2_entry_87 : decode cX2_entry 87 = .ok (.ireturn, 1) := by decide +kernel
theorem dX2_entry_88 : decode cX2_entry 88 = .ok (.bipush (-102), 2) := by decide +kernel
theorem dX2_entry_90 : decode cX2_entry 90 = .ok (.ireturn, 1) := by decide +kernel
theorem dX2_shared_0 : decode cX2_shared 0 = .ok (.aload_n 0, 1) := by decide +kernel
theorem dX2_shared_1 : decode cX2_shared 1 = .ok (.iload_n 1, 1) := by decide +kernel
theorem dX2_shared_2 : decode cX2_shared 2 = .ok (.invokevirtual 116, 3) := by decide +kernel
theorem dX2_shared_5 : decode cX2_shared 5 = .ok (.ifCond .eq 11, 3) := by decide +kernel
theorem dX2_shared_8 : decode cX2_shared 8 = .ok (.aload_n 0, 1) := by decide +kernel
theorem dX2_shared_9 : decode cX2_shared 9 = .ok (.iload_n 2, 1) := by decide +kernel
theorem dX2_shared_10 : decode cX2_shared 10 = .ok (.invokevirtual 116, 3) := by decide +kernel
theorem dX2_shared_13 : decode cX2_shared 13 = .ok (.ifCond .ne 6, 3) := by decide +kernel
theorem dX2_shared_16 : decode cX2_shared 16 = .ok (.bipush (-101), 2) := by decide +kernel
theorem dX2_shared_18 : decode cX2_shared 18 = .ok (.ireturn, 1) := by decide +kernel
theorem dX2_shared_19 : decode cX2_shared 19 = .ok (.aload_n 0, 1) := by decide +kernel
theorem dX2_shared_20 : decode cX2_shared 20 = .ok (.getfield 11, 3) := by decide +kernel
theorem dX2_shared_23 : decode cX2_shared 23 = .ok (.iload_n 1, 1) := by decide +kernel
theorem dX2_shared_24 : decode cX2_shared 24 = .ok (.aaload, 1) := by decide +kernel
theorem dX2_shared_25 : decode cX2_shared 25 = .ok (.astore_n 3, 1) := by decide +kernel
theorem dX2_shared_26 : decode cX2_shared 26 = .ok (.iconst 0, 1) := by decide +kernel
theorem dX2_shared_27 : decode cX2_shared 27 = .ok (.istore 4, 2) := by decide +kernel
theorem dX2_shared_29 : decode cX2_shared 29 = .ok (.iconst 0, 1) := by decide +kernel
theorem dX2_shared_30 : decode cX2_shared 30 = .ok (.istore 5, 2) := by decide +kernel
theorem dX2_shared_32 : decode cX2_shared 32 = .ok (.iload 5, 2) := by decide +kernel
theorem dX2_shared_34 : decode cX2_shared 34 = .ok (.aload_n 3, 1) := by decide +kernel
theorem dX2_shared_35 : decode cX2_shared 35 = .ok (.getfield 161, 3) := by decide +kernel
theorem dX2_shared_38 : decode cX2_shared 38 = .ok (.if_icmp .ge 27, 3) := by decide +kernel
theorem dX2_shared_41 : decode cX2_shared 41 = .ok (.aload_n 0, 1) := by decide +kernel
theorem dX2_shared_42 : decode cX2_shared 42 = .ok (.getfield 11, 3) := by decide +kernel
theorem dX2_shared_45 : decode cX2_shared 45 = .ok (.iload_n 2, 1) := by decide +kernel
theorem dX2_shared_46 : decode cX2_shared 46 = .ok (.aaload, 1) := by decide +kernel
theorem dX2_shared_47 : decode cX2_shared 47 = .ok (.aload_n 3, 1) := by decide +kernel
theorem dX2_shared_48 : decode cX2_shared 48 = .ok (.iload 5, 2) := by decide +kernel
theorem dX2_shared_50 : decode cX2_shared 50 = .ok (.invokevirtual 193, 3) := by decide +kernel
theorem dX2_shared_53 : decode cX2_shared 53 = .ok (.ifCond .eq 6, 3) := by decide +kernel
theorem dX2_shared_56 : decode cX2_shared 56 = .ok (.iinc 4 1, 3) := by decide +kernel
theorem dX2_shared_59 : decode cX2_shared 59 = .ok (.iinc 5 1, 3) := by decide +kernel
theorem dX2_shared_62 : decode cX2_shared 62 = .ok (.goto (-30), 3) := by decide +kernel
theorem dX2_shared_65 : decode cX2_shared 65 = .ok (.iload 4, 2) := by decide +kernel
theorem dX2_shared_67 : decode cX2_shared 67 = .ok (.ireturn, 1) := by decide +kernel
theorem dX2_two_0 : decode cX2_two 0 = .ok (.aload_n 0, 1) := by decide +kernel
theorem dX2_two_1 : decode cX2_two 1 = .ok (.iload_n 1, 1) := by decide +kernel
theorem dX2_two_2 : decode cX2_two 2 = .ok (.invokevirtual 116, 3) := by decide +kernel
theorem dX2_two_5 : decode cX2_two 5 = .ok (.ifCond .eq 11, 3) := by decide +kernel
theorem dX2_two_8 : decode cX2_two 8 = .ok (.aload_n 0, 1) := by decide +kernel
theorem dX2_two_9 : decode cX2_two 9 = .ok (.iload_n 2, 1) := by decide +kernel
theorem dX2_two_10 : decode cX2_two 10 = .ok (.invokevirtual 116, 3) := by decide +kernel
theorem dX2_two_13 : decode cX2_two 13 = .ok (.ifCond .ne 6, 3) := by decide +kernel
theorem dX2_two_16 : decode cX2_two 16 = .ok (.bipush (-101), 2) := by decide +kernel
theorem dX2_two_18 : decode cX2_two 18 = .ok (.ireturn, 1) := by decide +kernel
theorem dX2_two_19 : decode cX2_two 19 = .ok (.aload_n 0, 1) := by decide +kernel
theorem dX2_two_20 : decode cX2_two 20 = .ok (.getfield 11, 3) := by decide +kernel
theorem dX2_two_23 : decode cX2_two 23 = .ok (.iload_n 1, 1) := by decide +kernel
theorem dX2_two_24 : decode cX2_two 24 = .ok (.aaload, 1) := by decide +kernel
theorem dX2_two_25 : decode cX2_two 25 = .ok (.astore 4, 2) := by decide +kernel
theorem dX2_two_27 : decode cX2_two 27 = .ok (.aload_n 0, 1) := by decide +kernel
theorem dX2_two_28 : decode cX2_two 28 = .ok (.getfield 11, 3) := by decide +kernel
theorem dX2_two_31 : decode cX2_two 31 = .ok (.iload_n 2, 1) := by decide +kernel
theorem dX2_two_32 : decode cX2_two 32 = .ok (.aaload, 1) := by decide +kernel
theorem dX2_two_33 : decode cX2_two 33 = .ok (.astore 5, 2) := by decide +kernel
theorem dX2_two_35 : decode cX2_two 35 = .ok (.aload 4, 2) := by decide +kernel
theorem dX2_two_37 : decode cX2_two 37 = .ok (.aload 5, 2) := by decide +kernel
theorem dX2_two_39 : decode cX2_two 39 = .ok (.invokevirtual 136, 3) := by decide +kernel
theorem dX2_two_42 : decode cX2_two 42 = .ok (.istore 6, 2) := by decide +kernel
theorem dX2_two_44 : decode cX2_two 44 = .ok (.aload 4, 2) := by decide +kernel
theorem dX2_two_46 : decode cX2_two 46 = .ok (.aload 5, 2) := by decide +kernel
theorem dX2_two_48 : decode cX2_two 48 = .ok (.invokevirtual 197, 3) := by decide +kernel
theorem dX2_two_51 : decode cX2_two 51 = .ok (.istore 7, 2) := by decide +kernel
theorem dX2_two_53 : decode cX2_two 53 = .ok (.iload_n 3, 1) := by decide +kernel
theorem dX2_two_54 : decode cX2_two 54 = .ok (.tableswitch 87 0 4 #[34, 60, 63, 69, 78], 34) := by decide +kernel
theorem dX2_two_88 : decode cX2_two 88 = .ok (.iload 7, 2) := by decide +kernel
theorem dX2_two_90 : decode cX2_two 90 = .ok (.aload 4, 2) := by decide +kernel
theorem dX2_two_92 : decode cX2_two 92 = .ok (.getfield 133, 3) := by decide +kernel
theorem dX2_two_95 : decode cX2_two 95 = .ok (.if_icmp .ne 17, 3) := by decide +kernel
theorem dX2_two_98 : decode cX2_two 98 = .ok (.iload 7, 2) := by decide +kernel
theorem dX2_two_100 : decode cX2_two 100 = .ok (.aload 5, 2) := by decide +kernel
theorem dX2_two_102 : decode cX2_two 102 = .ok (.getfield 133, 3) := by decide +kernel
theorem dX2_two_105 : decode cX2_two 105 = .ok (.if_icmp .ne 7, 3) := by decide +kernel
theorem dX2_two_108 : decode cX2_two 108 = .ok (.iconst 1, 1) := by decide +kernel
theorem dX2_two_109 : decode cX2_two 109 = .ok (.goto 4, 3) := by decide +kernel
theorem dX2_two_112 : decode cX2_two 112 = .ok (.iconst 0, 1) := by decide +kernel
theorem dX2_two_113 : decode cX2_two 113 = .ok (.ireturn, 1) := by decide +kernel
theorem dX2_two_114 : decode cX2_two 114 = .ok (.iload 7, 2) := by decide +kernel
theorem dX2_two_116 : decode cX2_two 116 = .ok (.ireturn, 1) := by decide +kernel
theorem dX2_two_117 : decode cX2_two 117 = .ok (.iload 6, 2) := by decide +kernel
theorem dX2_two_119 : decode cX2_two 119 = .ok (.iload 7, 2) := by decide +kernel
theorem dX2_two_121 : decode cX2_two 121 = .ok (.isub, 1) := by decide +kernel
theorem dX2_two_122 : decode cX2_two 122 = .ok (.ireturn, 1) := by decide +kernel
theorem dX2_two_123 : decode cX2_two 123 = .ok (.aload 4, 2) := by decide +kernel
theorem dX2_two_125 : decode cX2_two 125 = .ok (.getfield 133, 3) := by decide +kernel
theorem dX2_two_128 : decode cX2_two 128 = .ok (.iload 6, 2) := by decide +kernel
theorem dX2_two_130 : decode cX2_two 130 = .ok (.isub, 1) := by decide +kernel
theorem dX2_two_131 : decode cX2_two 131 = .ok (.ireturn, 1) := by decide +kernel
theorem dX2_two_132 : decode cX2_two 132 = .ok (.aload 5, 2) := by decide +kernel
theorem dX2_two_134 : decode cX2_two 134 = .ok (.getfield 133, 3) := by decide +kernel
theorem dX2_two_137 : decode cX2_two 137 = .ok (.iload 6, 2) := by decide +kernel
theorem dX2_two_139 : decode cX2_two 139 = .ok (.isub, 1) := by decide +kernel
theorem dX2_two_140 : decode cX2_two 140 = .ok (.ireturn, 1) := by decide +kernel
theorem dX2_two_141 : decode cX2_two 141 = .ok (.bipush (-102), 2) := by decide +kernel
theorem dX2_two_143 : decode cX2_two 143 = .ok (.ireturn, 1) := by decide +kernel
theorem dX2_count_0 : decode cX2_count 0 = .ok (.iload_n 1, 1) := by decide +kernel
theorem dX2_count_1 : decode cX2_count 1 = .ok (.tableswitch 107 0 8 #[51, 56, 61, 66, 74, 79, 84, 97, 102], 51) := by decide +kernel
theorem dX2_count_52 : decode cX2_count 52 = .ok (.aload_n 0, 1) := by decide +kernel
theorem dX2_count_53 : decode cX2_count 53 = .ok (.getfield 15, 3) := by decide +kernel
theorem dX2_count_56 : decode cX2_count 56 = .ok (.ireturn, 1) := by decide +kernel
theorem dX2_count_57 : decode cX2_count 57 = .ok (.aload_n 0, 1) := by decide +kernel
theorem dX2_count_58 : decode cX2_count 58 = .ok (.getfield 32, 3) := by decide +kernel
theorem dX2_count_61 : decode cX2_count 61 = .ok (.ireturn, 1) := by decide +kernel
theorem dX2_count_62 : decode cX2_count 62 = .ok (.aload_n 0, 1) := by decide +kernel
theorem dX2_count_63 : decode cX2_count 63 = .ok (.invokevirtual 200, 3) := by decide +kernel
theorem dX2_count_66 : decode cX2_count 66 = .ok (.ireturn, 1) := by decide +kernel
theorem dX2_count_67 : decode cX2_count 67 = .ok (.aload_n 0, 1) := by decide +kernel
theorem dX2_count_68 : decode cX2_count 68 = .ok (.getfield 22, 3) := by decide +kernel
theorem dX2_count_71 : decode cX2_count 71 = .ok (.getfield 59, 3) := by decide +kernel
theorem dX2_count_74 : decode cX2_count 74 = .ok (.ireturn, 1) := by decide +kernel
theorem dX2_count_75 : decode cX2_count 75 = .ok (.aload_n 0, 1) := by decide +kernel
theorem dX2_count_76 : decode cX2_count 76 = .ok (.getfield 35, 3) := by decide +kernel
theorem dX2_count_79 : decode cX2_count 79 = .ok (.ireturn, 1) := by decide +kernel
theorem dX2_count_80 : decode cX2_count 80 = .ok (.aload_n 0, 1) := by decide +kernel
theorem dX2_count_81 : decode cX2_count 81 = .ok (.getfield 38, 3) := by decide +kernel
theorem dX2_count_84 : decode cX2_count 84 = .ok (.ireturn, 1) := by decide +kernel
theorem dX2_count_85 : decode cX2_count 85 = .ok (.aload_n 0, 1) := by decide +kernel
theorem dX2_count_86 : decode cX2_count 86 = .ok (.getfield 46, 3) := by decide +kernel
theorem dX2_count_89 : decode cX2_count 89 = .ok (.ifCond .eq 7, 3) := by decide +kernel
theorem dX2_count_92 : decode cX2_count 92 = .ok (.iconst 1, 1) := by decide +kernel
theorem dX2_count_93 : decode cX2_count 93 = .ok (.goto 4, 3) := by decide +kernel
theorem dX2_count_96 : decode cX2_count 96 = .ok (.iconst 0, 1) := by decide +kernel
theorem dX2_count_97 : decode cX2_count 97 = .ok (.ireturn, 1) := by decide +kernel
theorem dX2_count_98 : decode cX2_count 98 = .ok (.aload_n 0, 1) := by decide +kernel
theorem dX2_count_99 : decode cX2_count 99 = .ok (.getfield 26, 3) := by decide +kernel
theorem dX2_count_102 : decode cX2_count 102 = .ok (.ireturn, 1) := by decide +kernel
theorem dX2_count_103 : decode cX2_count 103 = .ok (.aload_n 0, 1) := by decide +kernel
theorem dX2_count_104 : decode cX2_count 104 = .ok (.getfield 29, 3) := by decide +kernel
theorem dX2_count_107 : decode cX2_count 107 = .ok (.ireturn, 1) := by decide +kernel
theorem dX2_count_108 : decode cX2_count 108 = .ok (.bipush (-102), 2) := by decide +kernel
theorem dX2_count_110 : decode cX2_count 110 = .ok (.ireturn, 1) := by decide +kernel
theorem dX2_digest_0 : decode cX2_digest 0 = .ok (.ldc2_w 203, 3) := by decide +kernel
theorem dX2_digest_3 : decode cX2_digest 3 = .ok (.lstore_n 1, 1) := by decide +kernel
theorem dX2_digest_4 : decode cX2_digest 4 = .ok (.iconst 0, 1) := by decide +kernel
theorem dX2_digest_5 : decode cX2_digest 5 = .ok (.istore_n 3, 1) := by decide +kernel
theorem dX2_digest_6 : decode cX2_digest 6 = .ok (.iload_n 3, 1) := by decide +kernel
theorem dX2_digest_7 : decode cX2_digest 7 = .ok (.aload_n 0, 1) := by decide +kernel
theorem dX2_digest_8 : decode cX2_digest 8 = .ok (.getfield 15, 3) := by decide +kernel
theorem dX2_digest_11 : decode cX2_digest 11 = .ok (.if_icmp .ge 16, 3) := by decide +kernel
theorem dX2_digest_14 : decode cX2_digest 14 = .ok (.aload_n 0, 1) := by decide +kernel
theorem dX2_digest_15 : decode cX2_digest 15 = .ok (.lload_n 1, 1) := by decide +kernel
theorem dX2_digest_16 : decode cX2_digest 16 = .ok (.iload_n 3, 1) := by decide +kernel
theorem dX2_digest_17 : decode cX2_digest 17 = .ok (.invokevirtual 205, 3) := by decide +kernel
theorem dX2_digest_20 : decode cX2_digest 20 = .ok (.lstore_n 1, 1) := by decide +kernel
theorem dX2_digest_21 : decode cX2_digest 21 = .ok (.iinc 3 1, 3) := by decide +kernel
theorem dX2_digest_24 : decode cX2_digest 24 = .ok (.goto (-18), 3) := by decide +kernel
theorem dX2_digest_27 : decode cX2_digest 27 = .ok (.aload_n 0, 1) := by decide +kernel
theorem dX2_digest_28 : decode cX2_digest 28 = .ok (.getfield 46, 3) := by decide +kernel
theorem dX2_digest_31 : decode cX2_digest 31 = .ok (.ifCond .eq 26, 3) := by decide +kernel
theorem dX2_digest_34 : decode cX2_digest 34 = .ok (.iconst 0, 1) := by decide +kernel
theorem dX2_digest_35 : decode cX2_digest 35 = .ok (.istore_n 3, 1) := by decide +kernel
theorem dX2_digest_36 : decode cX2_digest 36 = .ok (.iload_n 3, 1) := by decide +kernel
theorem dX2_digest_37 : decode cX2_digest 37 = .ok (.iconst 3, 1) := by decide +kernel
theorem dX2_digest_38 : decode cX2_digest 38 = .ok (.if_icmp .gt 19, 3) := by decide +kernel
theorem dX2_digest_41 : decode cX2_digest 41 = .ok (.lload_n 1, 1) := by decide +kernel
theorem dX2_digest_42 : decode cX2_digest 42 = .ok (.aload_n 0, 1) := by decide +kernel
theorem dX2_digest_43 : decode cX2_digest 43 = .ok (.iload_n 3, 1) := by decide +kernel
theorem dX2_digest_44 : decode cX2_digest 44 = .ok (.invokevirtual 209, 3) := by decide +kernel
theorem dX2_digest_47 : decode cX2_digest 47 = .ok (.invokestatic 212, 3) := by decide +kernel
theorem dX2_digest_50 : decode cX2_digest 50 = .ok (.lstore_n 1, 1) := by decide +kernel
theorem dX2_digest_51 : decode cX2_digest 51 = .ok (.iinc 3 1, 3) := by decide +kernel
theorem dX2_digest_54 : decode cX2_digest 54 = .ok (.goto (-18), 3) := by decide +kernel
theorem dX2_digest_57 : decode cX2_digest 57 = .ok (.iconst 0, 1) := by decide +kernel
theorem dX2_digest_58 : decode cX2_digest 58 = .ok (.istore_n 3, 1) := by decide +kernel
theorem dX2_digest_59 : decode cX2_digest 59 = .ok (.iload_n 3, 1) := by decide +kernel
theorem dX2_digest_60 : decode cX2_digest 60 = .ok (.aload_n 0, 1) := by decide +kernel
theorem dX2_digest_61 : decode cX2_digest 61 = .ok (.getfield 22, 3) := by decide +kernel
theorem dX2_digest_64 : decode cX2_digest 64 = .ok (.getfield 59, 3) := by decide +kernel
theorem dX2_digest_67 : decode cX2_digest 67 = .ok (.if_icmp .ge 23, 3) := by decide +kernel
theorem dX2_digest_70 : decode cX2_digest 70 = .ok (.lload_n 1, 1) := by decide +kernel
theorem dX2_digest_71 : decode cX2_digest 71 = .ok (.aload_n 0, 1) := by decide +kernel
theorem dX2_digest_72 : decode cX2_digest 72 = .ok (.getfield 22, 3) := by decide +kernel
theorem dX2_digest_75 : decode cX2_digest 75 = .ok (.getfield 62, 3) := by decide +kernel
theorem dX2_digest_78 : decode cX2_digest 78 = .ok (.iload_n 3, 1) := by decide +kernel
theorem dX2_digest_79 : decode cX2_digest 79 = .ok (.iaload, 1) := by decide +kernel
theorem dX2_digest_80 : decode cX2_digest 80 = .ok (.invokestatic 212, 3) := by decide +kernel
theorem dX2_digest_83 : decode cX2_digest 83 = .ok (.lstore_n 1, 1) := by decide +kernel
theorem dX2_digest_84 : decode cX2_digest 84 = .ok (.iinc 3 1, 3) := by decide +kernel
theorem dX2_digest_87 : decode cX2_digest 87 = .ok (.goto (-28), 3) := by decide +kernel
theorem dX2_digest_90 : decode cX2_digest 90 = .ok (.iconst 0, 1) := by decide +kernel
theorem dX2_digest_91 : decode cX2_digest 91 = .ok (.istore_n 3, 1) := by decide +kernel
theorem dX2_digest_92 : decode cX2_digest 92 = .ok (.iload_n 3, 1) := by decide +kernel
theorem dX2_digest_93 : decode cX2_digest 93 = .ok (.bipush 8, 2) := by decide +kernel
theorem dX2_digest_95 : decode cX2_digest 95 = .ok (.if_icmp .gt 19, 3) := by decide +kernel
theorem dX2_digest_98 : decode cX2_digest 98 = .ok (.lload_n 1, 1) := by decide +kernel
theorem dX2_digest_99 : decode cX2_digest 99 = .ok (.aload_n 0, 1) := by decide +kernel
theorem dX2_digest_100 : decode cX2_digest 100 = .ok (.iload_n 3, 1) := by decide +kernel
theorem dX2_digest_101 : decode cX2_digest 101 = .ok (.invokevirtual 215, 3) := by decide +kernel
theorem dX2_digest_104 : decode cX2_digest 104 = .ok (.invokestatic 212, 3) := by decide +kernel
theorem dX2_digest_107 : decode cX2_digest 107 = .ok (.lstore_n 1, 1) := by decide +kernel
theorem dX2_digest_108 : decode cX2_digest 108 = .ok (.iinc 3 1, 3) := by decide +kernel
theorem dX2_digest_111 : decode cX2_digest 111 = .ok (.goto (-19), 3) := by decide +kernel
theorem dX2_digest_114 : decode cX2_digest 114 = .ok (.lload_n 1, 1) := by decide +kernel
theorem dX2_digest_115 : decode cX2_digest 115 = .ok (.lreturn, 1) := by decide +kernel
theorem dX2_digestOfVersion_0 : decode cX2_digestOfVersion 0 = .ok (.lload_n 1, 1) := by decide +kernel
theorem dX2_digestOfVersion_1 : decode cX2_digestOfVersion 1 = .ok (.lstore 4, 2) := by decide +kernel
theorem dX2_digestOfVersion_3 : decode cX2_digestOfVersion 3 = .ok (.iconst 0, 1) := by decide +kernel
theorem dX2_digestOfVersion_4 : decode cX2_digestOfVersion 4 = .ok (.istore 6, 2) := by decide +kernel
theorem dX2_digestOfVersion_6 : decode cX2_digestOfVersion 6 = .ok (.iload 6, 2) := by decide +kernel
theorem dX2_digestOfVersion_8 : decode cX2_digestOfVersion 8 = .ok (.iconst 5, 1) := by decide +kernel
theorem dX2_digestOfVersion_9 : decode cX2_digestOfVersion 9 = .ok (.if_icmp .gt 23, 3) := by decide +kernel
theorem dX2_digestOfVersion_12 : decode cX2_digestOfVersion 12 = .ok (.lload 4, 2) := by decide +kernel
theorem dX2_digestOfVersion_14 : decode cX2_digestOfVersion 14 = .ok (.aload_n 0, 1) := by decide +kernel
theorem dX2_digestOfVersion_15 : decode cX2_digestOfVersion 15 = .ok (.iload_n 3, 1) := by decide +kernel
theorem dX2_digestOfVersion_16 : decode cX2_digestOfVersion 16 = .ok (.iload 6, 2) := by decide +kernel
theorem dX2_digestOfVersion_18 : decode cX2_digestOfVersion 18 = .ok (.invokevirtual 218, 3) := by decide +kernel
theorem dX2_digestOfVersion_21 : decode cX2_digestOfVersion 21 = .ok (.invokestatic 212, 3) := by decide +kernel
theorem dX2_digestOfVersion_24 : decode cX2_digestOfVersion 24 = .ok (.lstore 4, 2) := by decide +kernel
theorem dX2_digestOfVersion_26 : decode cX2_digestOfVersion 26 = .ok (.iinc 6 1, 3) := by decide +kernel
theorem dX2_digestOfVersion_29 : decode cX2_digestOfVersion 29 = .ok (.goto (-23), 3) := by decide +kernel
theorem dX2_digestOfVersion_32 : decode cX2_digestOfVersion 32 = .ok (.aload_n 0, 1) := by decide +kernel
theorem dX2_digestOfVersion_33 : decode cX2_digestOfVersion 33 = .ok (.getfield 11, 3) := by decide +kernel
theorem dX2_digestOfVersion_36 : decode cX2_digestOfVersion 36 = .ok (.iload_n 3, 1) := by decide +kernel
theorem dX2_digestOfVersion_37 : decode cX2_digestOfVersion 37 = .ok (.aaload, 1) := by decide +kernel
theorem dX2_digestOfVersion_38 : decode cX2_digestOfVersion 38 = .ok (.astore 6, 2) := by decide +kernel
theorem dX2_digestOfVersion_40 : decode cX2_digestOfVersion 40 = .ok (.iconst 0, 1) := by decide +kernel
theorem dX2_digestOfVersion_41 : decode cX2_digestOfVersion 41 = .ok (.istore 7, 2) := by decide +kernel
theorem dX2_digestOfVersion_43 : decode cX2_digestOfVersion 43 = .ok (.iload 7, 2) := by decide +kernel
theorem dX2_digestOfVersion_45 : decode cX2_digestOfVersion 45 = .ok (.aload 6, 2) := by decide +kernel
theorem dX2_digestOfVersion_47 : decode cX2_digestOfVersion 47 = .ok (.getfield 161, 3) := by decide +kernel
theorem dX2_digestOfVersion_50 : decode cX2_digestOfVersion 50 = .ok (.if_icmp .ge 40, 3) := by decide +kernel
theorem dX2_digestOfVersion_53 : decode cX2_digestOfVersion 53 = .ok (.iconst 0, 1) := by decide +kernel
theorem dX2_digestOfVersion_54 : decode cX2_digestOfVersion 54 = .ok (.istore 8, 2) := by decide +kernel
theorem dX2_digestOfVersion_56 : decode cX2_digestOfVersion 56 = .ok (.iload 8, 2) := by decide +kernel
theorem dX2_digestOfVersion_58 : decode cX2_digestOfVersion 58 = .ok (.iconst 4, 1) := by decide +kernel
theorem dX2_digestOfVersion_59 : decode cX2_digestOfVersion 59 = .ok (.if_icmp .gt 25, 3) := by decide +kernel
theorem dX2_digestOfVersion_62 : decode cX2_digestOfVersion 62 = .ok (.lload 4, 2) := by decide +kernel
theorem dX2_digestOfVersion_64 : decode cX2_digestOfVersion 64 = .ok (.aload_n 0, 1) := by decide +kernel
theorem dX2_digestOfVersion_65 : decode cX2_digestOfVersion 65 = .ok (.iload_n 3, 1) := by decide +kernel
theorem dX2_digestOfVersion_66 : decode cX2_digestOfVersion 66 = .ok (.iload 7, 2) := by decide +kernel
theorem dX2_digestOfVersion_68 : decode cX2_digestOfVersion 68 = .ok (.iload 8, 2) := by decide +kernel
theorem dX2_digestOfVersion_70 : decode cX2_digestOfVersion 70 = .ok (.invokevirtual 222, 3) := by decide +kernel
theorem dX2_digestOfVersion_73 : decode cX2_digestOfVersion 73 = .ok (.invokestatic 212, 3) := by decide +kernel
theorem dX2_digestOfVersion_76 : decode cX2_digestOfVersion 76 = .ok (.lstore 4, 2) := by decide +kernel
theorem dX2_digestOfVersion_78 : decode cX2_digestOfVersion 78 = .ok (.iinc 8 1, 3) := by decide +kernel
theorem dX2_digestOfVersion_81 : decode cX2_digestOfVersion 81 = .ok (.goto (-25), 3) := by decide +kernel
theorem dX2_digestOfVersion_84 : decode cX2_digestOfVersion 84 = .ok (.iinc 7 1, 3) := by decide +kernel
theorem dX2_digestOfVersion_87 : decode cX2_digestOfVersion 87 = .ok (.goto (-44), 3) := by decide +kernel
theorem dX2_digestOfVersion_90 : decode cX2_digestOfVersion 90 = .ok (.iconst 0, 1) := by decide +kernel
theorem dX2_digestOfVersion_91 : decode cX2_digestOfVersion 91 = .ok (.istore 7, 2) := by decide +kernel
theorem dX2_digestOfVersion_93 : decode cX2_digestOfVersion 93 = .ok (.iload 7, 2) := by decide +kernel
theorem dX2_digestOfVersion_95 : decode cX2_digestOfVersion 95 = .ok (.aload 6, 2) := by decide +kernel
theorem dX2_digestOfVersion_97 : decode cX2_digestOfVersion 97 = .ok (.getfield 133, 3) := by decide +kernel
theorem dX2_digestOfVersion_100 : decode cX2_digestOfVersion 100 = .ok (.if_icmp .ge 40, 3) := by decide +kernel
theorem dX2_digestOfVersion_103 : decode cX2_digestOfVersion 103 = .ok (.iconst 0, 1) := by decide +kernel
theorem dX2_digestOfVersion_104 : decode cX2_digestOfVersion 104 = .ok (.istore 8, 2) := by decide +kernel
theorem dX2_digestOfVersion_106 : decode cX2_digestOfVersion 106 = .ok (.iload 8, 2) := by decide +kernel
theorem dX2_digestOfVersion_108 : decode cX2_digestOfVersion 108 = .ok (.iconst 2, 1) := by decide +kernel
theorem dX2_digestOfVersion_109 : decode cX2_digestOfVersion 109 = .ok (.if_icmp .gt 25, 3) := by decide +kernel
theorem dX2_digestOfVersion_112 : decode cX2_digestOfVersion 112 = .ok (.lload 4, 2) := by decide +kernel
theorem dX2_digestOfVersion_114 : decode cX2_digestOfVersion 114 = .ok (.aload_n 0, 1) := by decide +kernel
theorem dX2_digestOfVersion_115 : decode cX2_digestOfVersion 115 = .ok (.iload_n 3, 1) := by decide +kernel
theorem dX2_digestOfVersion_116 : decode cX2_digestOfVersion 116 = .ok (.iload 7, 2) := by decide +kernel
theorem dX2_digestOfVersion_118 : decode cX2_digestOfVersion 118 = .ok (.iload 8, 2) := by decide +kernel
theorem dX2_digestOfVersion_120 : decode cX2_digestOfVersion 120 = .ok (.invokevirtual 226, 3) := by decide +kernel
theorem dX2_digestOfVersion_123 : decode cX2_digestOfVersion 123 = .ok (.invokestatic 212, 3) := by decide +kernel
theorem dX2_digestOfVersion_126 : decode cX2_digestOfVersion 126 = .ok (.lstore 4, 2) := by decide +kernel
theorem dX2_digestOfVersion_128 : decode cX2_digestOfVersion 128 = .ok (.iinc 8 1, 3) := by decide +kernel
theorem dX2_digestOfVersion_131 : decode cX2_digestOfVersion 131 = .ok (.goto (-25), 3) := by decide +kernel
theorem dX2_digestOfVersion_134 : decode cX2_digestOfVersion 134 = .ok (.iinc 7 1, 3) := by decide +kernel
theorem dX2_digestOfVersion_137 : decode cX2_digestOfVersion 137 = .ok (.goto (-44), 3) := by decide +kernel
theorem dX2_digestOfVersion_140 : decode cX2_digestOfVersion 140 = .ok (.iload_n 3, 1) := by decide +kernel
theorem dX2_digestOfVersion_141 : decode cX2_digestOfVersion 141 = .ok (.ifCond .ne 8, 3) := by decide +kernel
theorem dX2_digestOfVersion_144 : decode cX2_digestOfVersion 144 = .ok (.lload 4, 2) := by decide +kernel
theorem dX2_digestOfVersion_146 : decode cX2_digestOfVersion 146 = .ok (.goto 16, 3) := by decide +kernel
theorem dX2_digestOfVersion_149 : decode cX2_digestOfVersion 149 = .ok (.lload 4, 2) := by decide +kernel
theorem dX2_digestOfVersion_151 : decode cX2_digestOfVersion 151 = .ok (.aload_n 0, 1) := by decide +kernel
theorem dX2_digestOfVersion_152 : decode cX2_digestOfVersion 152 = .ok (.iload_n 3, 1) := by decide +kernel
theorem dX2_digestOfVersion_153 : decode cX2_digestOfVersion 153 = .ok (.iload_n 3, 1) := by decide +kernel
theorem dX2_digestOfVersion_154 : decode cX2_digestOfVersion 154 = .ok (.iconst 1, 1) := by decide +kernel
theorem dX2_digestOfVersion_155 : decode cX2_digestOfVersion 155 = .ok (.isub, 1) := by decide +kernel
theorem dX2_digestOfVersion_156 : decode cX2_digestOfVersion 156 = .ok (.invokevirtual 229, 3) := by decide +kernel
theorem dX2_digestOfVersion_159 : decode cX2_digestOfVersion 159 = .ok (.invokestatic 212, 3) := by decide +kernel
theorem dX2_digestOfVersion_162 : decode cX2_digestOfVersion 162 = .ok (.lreturn, 1) := by decide +kernel
theorem dX2_joined_0 : decode cX2_joined 0 = .ok (.ldc2_w 232, 3) := by decide +kernel
theorem dX2_joined_3 : decode cX2_joined 3 = .ok (.lload_n 0, 1) := by decide +kernel
theorem dX2_joined_4 : decode cX2_joined 4 = .ok (.lmul, 1) := by decide +kernel
theorem dX2_joined_5 : decode cX2_joined 5 = .ok (.iload_n 2, 1) := by decide +kernel
theorem dX2_joined_6 : decode cX2_joined 6 = .ok (.i2l, 1) := by decide +kernel
theorem dX2_joined_7 : decode cX2_joined 7 = .ok (.ladd, 1) := by decide +kernel
theorem dX2_joined_8 : decode cX2_joined 8 = .ok (.lreturn, 1) := by decide +kernel
theorem dX2_isVersion_0 : decode cX2_isVersion 0 = .ok (.iload_n 1, 1) := by decide +kernel
theorem dX2_isVersion_1 : decode cX2_isVersion 1 = .ok (.ifCond .lt 15, 3) := by decide +kernel
theorem dX2_isVersion_4 : decode cX2_isVersion 4 = .ok (.iload_n 1, 1) := by decide +kernel
theorem dX2_isVersion_5 : decode cX2_isVersion 5 = .ok (.aload_n 0, 1) := by decide +kernel
theorem dX2_isVersion_6 : decode cX2_isVersion 6 = .ok (.getfield 15, 3) := by decide +kernel
theorem dX2_isVersion_9 : decode cX2_isVersion 9 = .ok (.if_icmp .ge 7, 3) := by decide +kernel
theorem dX2_isVersion_12 : decode cX2_isVersion 12 = .ok (.iconst 1, 1) := by decide +kernel
theorem dX2_isVersion_13 : decode cX2_isVersion 13 = .ok (.goto 4, 3) := by decide +kernel
theorem dX2_isVersion_16 : decode cX2_isVersion 16 = .ok (.iconst 0, 1) := by decide +kernel
theorem dX2_isVersion_17 : decode cX2_isVersion 17 = .ok (.ireturn, 1) := by decide +kernel
theorem dX2_isFullOfVersions_0 : decode cX2_isFullOfVersions 0 = .ok (.aload_n 0, 1) := by decide +kernel
theorem dX2_isFullOfVersions_1 : decode cX2_isFullOfVersions 1 = .ok (.getfield 15, 3) := by decide +kernel
theorem dX2_isFullOfVersions_4 : decode cX2_isFullOfVersions 4 = .ok (.bipush 20, 2) := by decide +kernel
theorem dX2_isFullOfVersions_6 : decode cX2_isFullOfVersions 6 = .ok (.if_icmp .lt 7, 3) := by decide +kernel
theorem dX2_isFullOfVersions_9 : decode cX2_isFullOfVersions 9 = .ok (.iconst 1, 1) := by decide +kernel
theorem dX2_isFullOfVersions_10 : decode cX2_isFullOfVersions 10 = .ok (.goto 4, 3) := by decide +kernel
theorem dX2_isFullOfVersions_13 : decode cX2_isFullOfVersions 13 = .ok (.iconst 0, 1) := by decide +kernel
theorem dX2_isFullOfVersions_14 : decode cX2_isFullOfVersions 14 = .ok (.ireturn, 1) := by decide +kernel
theorem dX2_isKey_0 : decode cX2_isKey 0 = .ok (.iload_n 0, 1) := by decide +kernel
theorem dX2_isKey_1 : decode cX2_isKey 1 = .ok (.ifCond .lt 14, 3) := by decide +kernel
theorem dX2_isKey_4 : decode cX2_isKey 4 = .ok (.iload_n 0, 1) := by decide +kernel
theorem dX2_isKey_5 : decode cX2_isKey 5 = .ok (.sipush 4095, 3) := by decide +kernel
theorem dX2_isKey_8 : decode cX2_isKey 8 = .ok (.if_icmp .gt 7, 3) := by decide +kernel
theorem dX2_isKey_11 : decode cX2_isKey 11 = .ok (.iconst 1, 1) := by decide +kernel
theorem dX2_isKey_12 : decode cX2_isKey 12 = .ok (.goto 4, 3) := by decide +kernel
theorem dX2_isKey_15 : decode cX2_isKey 15 = .ok (.iconst 0, 1) := by decide +kernel
theorem dX2_isKey_16 : decode cX2_isKey 16 = .ok (.ireturn, 1) := by decide +kernel
theorem dX2_isValue_0 : decode cX2_isValue 0 = .ok (.iload_n 0, 1) := by decide +kernel
theorem dX2_isValue_1 : decode cX2_isValue 1 = .ok (.ifCond .lt 14, 3) := by decide +kernel
theorem dX2_isValue_4 : decode cX2_isValue 4 = .ok (.iload_n 0, 1) := by decide +kernel
theorem dX2_isValue_5 : decode cX2_isValue 5 = .ok (.sipush 999, 3) := by decide +kernel
theorem dX2_isValue_8 : decode cX2_isValue 8 = .ok (.if_icmp .gt 7, 3) := by decide +kernel
theorem dX2_isValue_11 : decode cX2_isValue 11 = .ok (.iconst 1, 1) := by decide +kernel
theorem dX2_isValue_12 : decode cX2_isValue 12 = .ok (.goto 4, 3) := by decide +kernel
theorem dX2_isValue_15 : decode cX2_isValue 15 = .ok (.iconst 0, 1) := by decide +kernel
theorem dX2_isValue_16 : decode cX2_isValue 16 = .ok (.ireturn, 1) := by decide +kernel
theorem dX2_hashOf_0 : decode cX2_hashOf 0 = .ok (.iload_n 1, 1) := by decide +kernel
theorem dX2_hashOf_1 : decode cX2_hashOf 1 = .ok (.aload_n 0, 1) := by decide +kernel
theorem dX2_hashOf_2 : decode cX2_hashOf 2 = .ok (.getfield 26, 3) := by decide +kernel
theorem dX2_hashOf_5 : decode cX2_hashOf 5 = .ok (.imul, 1) := by decide +kernel
theorem dX2_hashOf_6 : decode cX2_hashOf 6 = .ok (.iconst 1, 1) := by decide +kernel
theorem dX2_hashOf_7 : decode cX2_hashOf 7 = .ok (.aload_n 0, 1) := by decide +kernel
theorem dX2_hashOf_8 : decode cX2_hashOf 8 = .ok (.getfield 29, 3) := by decide +kernel
theorem dX2_hashOf_11 : decode cX2_hashOf 11 = .ok (.ishl, 1) := by decide +kernel
theorem dX2_hashOf_12 : decode cX2_hashOf 12 = .ok (.iconst 1, 1) := by decide +kernel
theorem dX2_hashOf_13 : decode cX2_hashOf 13 = .ok (.isub, 1) := by decide +kernel
theorem dX2_hashOf_14 : decode cX2_hashOf 14 = .ok (.iand, 1) := by decide +kernel
theorem dX2_hashOf_15 : decode cX2_hashOf 15 = .ok (.ireturn, 1) := by decide +kernel
theorem dX2_rankOf_0 : decode cX2_rankOf 0 = .ok (.aload_n 0, 1) := by decide +kernel
theorem dX2_rankOf_1 : decode cX2_rankOf 1 = .ok (.iload_n 1, 1) := by decide +kernel
theorem dX2_rankOf_2 : decode cX2_rankOf 2 = .ok (.invokevirtual 113, 3) := by decide +kernel
theorem dX2_rankOf_5 : decode cX2_rankOf 5 = .ok (.istore_n 2, 1) := by decide +kernel
theorem dX2_rankOf_6 : decode cX2_rankOf 6 = .ok (.iconst 0, 1) := by decide +kernel
theorem dX2_rankOf_7 : decode cX2_rankOf 7 = .ok (.istore_n 3, 1) := by decide +kernel
theorem dX2_rankOf_8 : decode cX2_rankOf 8 = .ok (.iconst 0, 1) := by decide +kernel
theorem dX2_rankOf_9 : decode cX2_rankOf 9 = .ok (.istore 4, 2) := by decide +kernel
theorem dX2_rankOf_11 : decode cX2_rankOf 11 = .ok (.iload 4, 2) := by decide +kernel
theorem dX2_rankOf_13 : decode cX2_rankOf 13 = .ok (.bipush 6, 2) := by decide +kernel
theorem dX2_rankOf_15 : decode cX2_rankOf 15 = .ok (.if_icmp .ge 23, 3) := by decide +kernel
theorem dX2_rankOf_18 : decode cX2_rankOf 18 = .ok (.iload_n 3, 1) := by decide +kernel
theorem dX2_rankOf_19 : decode cX2_rankOf 19 = .ok (.iconst 5, 1) := by decide +kernel
theorem dX2_rankOf_20 : decode cX2_rankOf 20 = .ok (.ishl, 1) := by decide +kernel
theorem dX2_rankOf_21 : decode cX2_rankOf 21 = .ok (.iload_n 2, 1) := by decide +kernel
theorem dX2_rankOf_22 : decode cX2_rankOf 22 = .ok (.iconst 5, 1) := by decide +kernel
theorem dX2_rankOf_23 : decode cX2_rankOf 23 = .ok (.iload 4, 2) := by decide +kernel
theorem dX2_rankOf_25 : decode cX2_rankOf 25 = .ok (.imul, 1) := by decide +kernel
theorem dX2_rankOf_26 : decode cX2_rankOf 26 = .ok (.ishr, 1) := by decide +kernel
theorem dX2_rankOf_27 : decode cX2_rankOf 27 = .ok (.bipush 31, 2) := by decide +kernel
theorem dX2_rankOf_29 : decode cX2_rankOf 29 = .ok (.iand, 1) := by decide +kernel
theorem dX2_rankOf_30 : decode cX2_rankOf 30 = .ok (.ior, 1) := by decide +kernel
theorem dX2_rankOf_31 : decode cX2_rankOf 31 = .ok (.istore_n 3, 1) := by decide +kernel
theorem dX2_rankOf_32 : decode cX2_rankOf 32 = .ok (.iinc 4 1, 3) := by decide +kernel
theorem dX2_rankOf_35 : decode cX2_rankOf 35 = .ok (.goto (-24), 3) := by decide +kernel
theorem dX2_rankOf_38 : decode cX2_rankOf 38 = .ok (.iload_n 3, 1) := by decide +kernel
theorem dX2_rankOf_39 : decode cX2_rankOf 39 = .ok (.ireturn, 1) := by decide +kernel
theorem dX2_shareNodes_0 : decode cX2_shareNodes 0 = .ok (.aload_n 1, 1) := by decide +kernel
theorem dX2_shareNodes_1 : decode cX2_shareNodes 1 = .ok (.invokevirtual 234, 3) := by decide +kernel
theorem dX2_shareNodes_4 : decode cX2_shareNodes 4 = .ok (.iconst 0, 1) := by decide +kernel
theorem dX2_shareNodes_5 : decode cX2_shareNodes 5 = .ok (.istore 4, 2) := by decide +kernel
theorem dX2_shareNodes_7 : decode cX2_shareNodes 7 = .ok (.iload 4, 2) := by decide +kernel
theorem dX2_shareNodes_9 : decode cX2_shareNodes 9 = .ok (.aload_n 1, 1) := by decide +kernel
theorem dX2_shareNodes_10 : decode cX2_shareNodes 10 = .ok (.getfield 161, 3) := by decide +kernel
theorem dX2_shareNodes_13 : decode cX2_shareNodes 13 = .ok (.if_icmp .ge 66, 3) := by decide +kernel
theorem dX2_shareNodes_16 : decode cX2_shareNodes 16 = .ok (.aload_n 1, 1) := by decide +kernel
theorem dX2_shareNodes_17 : decode cX2_shareNodes 17 = .ok (.iload 4, 2) := by decide +kernel
theorem dX2_shareNodes_19 : decode cX2_shareNodes 19 = .ok (.aload_n 2, 1) := by decide +kernel
theorem dX2_shareNodes_20 : decode cX2_shareNodes 20 = .ok (.invokevirtual 237, 3) := by decide +kernel
theorem dX2_shareNodes_23 : decode cX2_shareNodes 23 = .ok (.istore 5, 2) := by decide +kernel
theorem dX2_shareNodes_25 : decode cX2_shareNodes 25 = .ok (.iload 5, 2) := by decide +kernel
theorem dX2_shareNodes_27 : decode cX2_shareNodes 27 = .ok (.ifCond .ne 12, 3) := by decide +kernel
theorem dX2_shareNodes_30 : decode cX2_shareNodes 30 = .ok (.aload_n 1, 1) := by decide +kernel
theorem dX2_shareNodes_31 : decode cX2_shareNodes 31 = .ok (.iload 4, 2) := by decide +kernel
theorem dX2_shareNodes_33 : decode cX2_shareNodes 33 = .ok (.aload_n 3, 1) := by decide +kernel
theorem dX2_shareNodes_34 : decode cX2_shareNodes 34 = .ok (.invokevirtual 237, 3) := by decide +kernel
theorem dX2_shareNodes_37 : decode cX2_shareNodes 37 = .ok (.istore 5, 2) := by decide +kernel
theorem dX2_shareNodes_39 : decode cX2_shareNodes 39 = .ok (.iload 5, 2) := by decide +kernel
theorem dX2_shareNodes_41 : decode cX2_shareNodes 41 = .ok (.ifCond .ne 24, 3) := by decide +kernel
theorem dX2_shareNodes_44 : decode cX2_shareNodes 44 = .ok (.aload_n 1, 1) := by decide +kernel
theorem dX2_shareNodes_45 : decode cX2_shareNodes 45 = .ok (.getfield 241, 3) := by decide +kernel
theorem dX2_shareNodes_48 : decode cX2_shareNodes 48 = .ok (.iload 4, 2) := by decide +kernel
theorem dX2_shareNodes_50 : decode cX2_shareNodes 50 = .ok (.aload_n 0, 1) := by decide +kernel
theorem dX2_shareNodes_51 : decode cX2_shareNodes 51 = .ok (.getfield 32, 3) := by decide +kernel
theorem dX2_shareNodes_54 : decode cX2_shareNodes 54 = .ok (.iastore, 1) := by decide +kernel
theorem dX2_shareNodes_55 : decode cX2_shareNodes 55 = .ok (.aload_n 0, 1) := by decide +kernel
theorem dX2_shareNodes_56 : decode cX2_shareNodes 56 = .ok (.dup, 1) := by decide +kernel
theorem dX2_shareNodes_57 : decode cX2_shareNodes 57 = .ok (.getfield 32, 3) := by decide +kernel
theorem dX2_shareNodes_60 : decode cX2_shareNodes 60 = .ok (.iconst 1, 1) := by decide +kernel
theorem dX2_shareNodes_61 : decode cX2_shareNodes 61 = .ok (.iadd, 1) := by decide +kernel
theorem dX2_shareNodes_62 : decode cX2_shareNodes 62 = .ok (.putfield 32, 3) := by decide +kernel
theorem dX2_shareNodes_65 : decode cX2_shareNodes 65 = .ok (.iload 4, 2) := by decide +kernel
theorem dX2_shareNodes_67 : decode cX2_shareNodes 67 = .ok (.iconst 1, 1) := by decide +kernel
theorem dX2_shareNodes_68 : decode cX2_shareNodes 68 = .ok (.iload 5, 2) := by decide +kernel
theorem dX2_shareNodes_70 : decode cX2_shareNodes 70 = .ok (.invokestatic 244, 3) := by decide +kernel
theorem dX2_shareNodes_73 : decode cX2_shareNodes 73 = .ok (.iadd, 1) := by decide +kernel
theorem dX2_shareNodes_74 : decode cX2_shareNodes 74 = .ok (.istore 4, 2) := by decide +kernel
theorem dX2_shareNodes_76 : decode cX2_shareNodes 76 = .ok (.goto (-69), 3) := by decide +kernel
theorem dX2_shareNodes_79 : decode cX2_shareNodes 79 = .ok (.return_, 1) := by decide +kernel
theorem dX2_editNodes_0 : decode cX2_editNodes 0 = .ok (.aload_n 1, 1) := by decide +kernel
theorem dX2_editNodes_1 : decode cX2_editNodes 1 = .ok (.invokevirtual 234, 3) := by decide +kernel
theorem dX2_editNodes_4 : decode cX2_editNodes 4 = .ok (.aload_n 0, 1) := by decide +kernel
theorem dX2_editNodes_5 : decode cX2_editNodes 5 = .ok (.getfield 32, 3) := by decide +kernel
theorem dX2_editNodes_8 : decode cX2_editNodes 8 = .ok (.istore 4, 2) := by decide +kernel
theorem dX2_editNodes_10 : decode cX2_editNodes 10 = .ok (.iconst 0, 1) := by decide +kernel
theorem dX2_editNodes_11 : decode cX2_editNodes 11 = .ok (.istore 5, 2) := by decide +kernel
theorem dX2_editNodes_13 : decode cX2_editNodes 13 = .ok (.iload 5, 2) := by decide +kernel
theorem dX2_editNodes_15 : decode cX2_editNodes 15 = .ok (.aload_n 1, 1) := by decide +kernel
theorem dX2_editNodes_16 : decode cX2_editNodes 16 = .ok (.getfield 161, 3) := by decide +kernel
theorem dX2_editNodes_19 : decode cX2_editNodes 19 = .ok (.if_icmp .ge 88, 3) := by decide +kernel
theorem dX2_editNodes_22 : decode cX2_editNodes 22 = .ok (.aload_n 2, 1) := by decide +kernel
theorem dX2_editNodes_23 : decode cX2_editNodes 23 = .ok (.aload_n 1, 1) := by decide +kernel
theorem dX2_editNodes_24 : decode cX2_editNodes 24 = .ok (.getfield 249, 3) := by decide +kernel
theorem dX2_editNodes_27 : decode cX2_editNodes 27 = .ok (.iload 5, 2) := by decide +kernel
theorem dX2_editNodes_29 : decode cX2_editNodes 29 = .ok (.laload, 1) := by decide +kernel
theorem dX2_editNodes_30 : decode cX2_editNodes 30 = .ok (.invokevirtual 253, 3) := by decide +kernel
theorem dX2_editNodes_33 : decode cX2_editNodes 33 = .ok (.istore 6, 2) := by decide +kernel
theorem dX2_editNodes_35 : decode cX2_editNodes 35 = .ok (.iload 6, 2) := by decide +kernel
theorem dX2_editNodes_37 : decode cX2_editNodes 37 = .ok (.ifCond .lt 43, 3) := by decide +kernel
theorem dX2_editNodes_40 : decode cX2_editNodes 40 = .ok (.aload_n 2, 1) := by decide +kernel
theorem dX2_editNodes_41 : decode cX2_editNodes 41 = .ok (.getfield 241, 3) := by decide +kernel
theorem dX2_editNodes_44 : decode cX2_editNodes 44 = .ok (.iload 6, 2) := by decide +kernel
theorem dX2_editNodes_46 : decode cX2_editNodes 46 = .ok (.iaload, 1) := by decide +kernel
theorem dX2_editNodes_47 : decode cX2_editNodes 47 = .ok (.iload_n 3, 1) := by decide +kernel
theorem dX2_editNodes_48 : decode cX2_editNodes 48 = .ok (.if_icmp .ge 15, 3) := by decide +kernel
theorem dX2_editNodes_51 : decode cX2_editNodes 51 = .ok (.aload_n 1, 1) := by decide +kernel
theorem dX2_editNodes_52 : decode cX2_editNodes 52 = .ok (.iload 5, 2) := by decide +kernel
theorem dX2_editNodes_54 : decode cX2_editNodes 54 = .ok (.aload_n 2, 1) := by decide +kernel
theorem dX2_editNodes_55 : decode cX2_editNodes 55 = .ok (.iload 6, 2) := by decide +kernel
theorem dX2_editNodes_57 : decode cX2_editNodes 57 = .ok (.invokevirtual 257, 3) := by decide +kernel
theorem dX2_editNodes_60 : decode cX2_editNodes 60 = .ok (.ifCond .eq 20, 3) := by decide +kernel
theorem dX2_editNodes_63 : decode cX2_editNodes 63 = .ok (.aload_n 1, 1) := by decide +kernel
theorem dX2_editNodes_64 : decode cX2_editNodes 64 = .ok (.getfield 241, 3) := by decide +kernel
theorem dX2_editNodes_67 : decode cX2_editNodes 67 = .ok (.iload 5, 2) := by decide +kernel
theorem dX2_editNodes_69 : decode cX2_editNodes 69 = .ok (.aload_n 2, 1) := by decide +kernel
theorem dX2_editNodes_70 : decode cX2_editNodes 70 = .ok (.getfield 241, 3) := by decide +kernel
theorem dX2_editNodes_73 : decode cX2_editNodes 73 = .ok (.iload 6, 2) := by decide +kernel
theorem dX2_editNodes_75 : decode cX2_editNodes 75 = .ok (.iaload, 1) := by decide +kernel
theorem dX2_editNodes_76 : decode cX2_editNodes 76 = .ok (.iastore, 1) := by decide +kernel
theorem dX2_editNodes_77 : decode cX2_editNodes 77 = .ok (.goto 24, 3) := by decide +kernel
theorem dX2_editNodes_80 : decode cX2_editNodes 80 = .ok (.aload_n 1, 1) := by decide +kernel
theorem dX2_editNodes_81 : decode cX2_editNodes 81 = .ok (.getfield 241, 3) := by decide +kernel
theorem dX2_editNodes_84 : decode cX2_editNodes 84 = .ok (.iload 5, 2) := by decide +kernel
theorem dX2_editNodes_86 : decode cX2_editNodes 86 = .ok (.aload_n 0, 1) := by decide +kernel
theorem dX2_editNodes_87 : decode cX2_editNodes 87 = .ok (.getfield 32, 3) := by decide +kernel
theorem dX2_editNodes_90 : decode cX2_editNodes 90 = .ok (.iastore, 1) := by decide +kernel
theorem dX2_editNodes_91 : decode cX2_editNodes 91 = .ok (.aload_n 0, 1) := by decide +kernel
theorem dX2_editNodes_92 : decode cX2_editNodes 92 = .ok (.dup, 1) := by decide +kernel
theorem dX2_editNodes_93 : decode cX2_editNodes 93 = .ok (.getfield 32, 3) := by decide +kernel
theorem dX2_editNodes_96 : decode cX2_editNodes 96 = .ok (.iconst 1, 1) := by decide +kernel
theorem dX2_editNodes_97 : decode cX2_editNodes 97 = .ok (.iadd, 1) := by decide +kernel
theorem dX2_editNodes_98 : decode cX2_editNodes 98 = .ok (.putfield 32, 3) := by decide +kernel
theorem dX2_editNodes_101 : decode cX2_editNodes 101 = .ok (.iinc 5 1, 3) := by decide +kernel
theorem dX2_editNodes_104 : decode cX2_editNodes 104 = .ok (.goto (-91), 3) := by decide +kernel
theorem dX2_editNodes_107 : decode cX2_editNodes 107 = .ok (.aload_n 0, 1) := by decide +kernel
theorem dX2_editNodes_108 : decode cX2_editNodes 108 = .ok (.getfield 32, 3) := by decide +kernel
theorem dX2_editNodes_111 : decode cX2_editNodes 111 = .ok (.iload 4, 2) := by decide +kernel
theorem dX2_editNodes_113 : decode cX2_editNodes 113 = .ok (.isub, 1) := by decide +kernel
theorem dX2_editNodes_114 : decode cX2_editNodes 114 = .ok (.ireturn, 1) := by decide +kernel
theorem dX2_redraft_0 : decode cX2_redraft 0 = .ok (.aload_n 0, 1) := by decide +kernel
theorem dX2_redraft_1 : decode cX2_redraft 1 = .ok (.dup, 1) := by decide +kernel
theorem dX2_redraft_2 : decode cX2_redraft 2 = .ok (.getfield 50, 3) := by decide +kernel
theorem dX2_redraft_5 : decode cX2_redraft 5 = .ok (.aload_n 0, 1) := by decide +kernel
theorem dX2_redraft_6 : decode cX2_redraft 6 = .ok (.aload_n 0, 1) := by decide +kernel
theorem dX2_redraft_7 : decode cX2_redraft 7 = .ok (.getfield 56, 3) := by decide +kernel
theorem dX2_redraft_10 : decode cX2_redraft 10 = .ok (.aload_n 0, 1) := by decide +kernel
theorem dX2_redraft_11 : decode cX2_redraft 11 = .ok (.getfield 42, 3) := by decide +kernel
theorem dX2_redraft_14 : decode cX2_redraft 14 = .ok (.aload_n 0, 1) := by decide +kernel
theorem dX2_redraft_15 : decode cX2_redraft 15 = .ok (.getfield 53, 3) := by decide +kernel
theorem dX2_redraft_18 : decode cX2_redraft 18 = .ok (.invokevirtual 101, 3) := by decide +kernel
theorem dX2_redraft_21 : decode cX2_redraft 21 = .ok (.iadd, 1) := by decide +kernel
theorem dX2_redraft_22 : decode cX2_redraft 22 = .ok (.putfield 50, 3) := by decide +kernel
theorem dX2_redraft_25 : decode cX2_redraft 25 = .ok (.aload_n 0, 1) := by decide +kernel
theorem dX2_redraft_26 : decode cX2_redraft 26 = .ok (.getfield 42, 3) := by decide +kernel
theorem dX2_redraft_29 : decode cX2_redraft 29 = .ok (.astore_n 1, 1) := by decide +kernel
theorem dX2_redraft_30 : decode cX2_redraft 30 = .ok (.aload_n 0, 1) := by decide +kernel
theorem dX2_redraft_31 : decode cX2_redraft 31 = .ok (.aload_n 0, 1) := by decide +kernel
theorem dX2_redraft_32 : decode cX2_redraft 32 = .ok (.getfield 56, 3) := by decide +kernel
theorem dX2_redraft_35 : decode cX2_redraft 35 = .ok (.putfield 42, 3) := by decide +kernel
theorem dX2_redraft_38 : decode cX2_redraft 38 = .ok (.aload_n 0, 1) := by decide +kernel
theorem dX2_redraft_39 : decode cX2_redraft 39 = .ok (.aload_n 1, 1) := by decide +kernel
theorem dX2_redraft_40 : decode cX2_redraft 40 = .ok (.putfield 56, 3) := by decide +kernel
theorem dX2_redraft_43 : decode cX2_redraft 43 = .ok (.aload_n 0, 1) := by decide +kernel
theorem dX2_redraft_44 : decode cX2_redraft 44 = .ok (.getfield 42, 3) := by decide +kernel
theorem dX2_redraft_47 : decode cX2_redraft 47 = .ok (.getfield 133, 3) := by decide +kernel
theorem dX2_redraft_50 : decode cX2_redraft 50 = .ok (.ireturn, 1) := by decide +kernel
theorem dX2_addVersion_0 : decode cX2_addVersion 0 = .ok (.aload_n 0, 1) := by decide +kernel
theorem dX2_addVersion_1 : decode cX2_addVersion 1 = .ok (.getfield 11, 3) := by decide +kernel
theorem dX2_addVersion_4 : decode cX2_addVersion 4 = .ok (.aload_n 0, 1) := by decide +kernel
theorem dX2_addVersion_5 : decode cX2_addVersion 5 = .ok (.getfield 15, 3) := by decide +kernel
theorem dX2_addVersion_8 : decode cX2_addVersion 8 = .ok (.aaload, 1) := by decide +kernel
theorem dX2_addVersion_9 : decode cX2_addVersion 9 = .ok (.astore_n 1, 1) := by decide +kernel
theorem dX2_addVersion_10 : decode cX2_addVersion 10 = .ok (.aload_n 1, 1) := by decide +kernel
theorem dX2_addVersion_11 : decode cX2_addVersion 11 = .ok (.iconst 0, 1) := by decide +kernel
theorem dX2_addVersion_12 : decode cX2_addVersion 12 = .ok (.putfield 261, 3) := by decide +kernel
theorem dX2_addVersion_15 : decode cX2_addVersion 15 = .ok (.iconst 0, 1) := by decide +kernel
theorem dX2_addVersion_16 : decode cX2_addVersion 16 = .ok (.istore_n 2, 1) := by decide +kernel
theorem dX2_addVersion_17 : decode cX2_addVersion 17 = .ok (.iload_n 2, 1) := by decide +kernel
theorem dX2_addVersion_18 : decode cX2_addVersion 18 = .ok (.aload_n 1, 1) := by decide +kernel
theorem dX2_addVersion_19 : decode cX2_addVersion 19 = .ok (.getfield 161, 3) := by decide +kernel
theorem dX2_addVersion_22 : decode cX2_addVersion 22 = .ok (.if_icmp .ge 28, 3) := by decide +kernel
theorem dX2_addVersion_25 : decode cX2_addVersion 25 = .ok (.aload_n 0, 1) := by decide +kernel
theorem dX2_addVersion_26 : decode cX2_addVersion 26 = .ok (.aload_n 1, 1) := by decide +kernel
theorem dX2_addVersion_27 : decode cX2_addVersion 27 = .ok (.iload_n 2, 1) := by decide +kernel
theorem dX2_addVersion_28 : decode cX2_addVersion 28 = .ok (.invokevirtual 264, 3) := by decide +kernel
theorem dX2_addVersion_31 : decode cX2_addVersion 31 = .ok (.ifCond .ne 13, 3) := by decide +kernel
theorem dX2_addVersion_34 : decode cX2_addVersion 34 = .ok (.aload_n 1, 1) := by decide +kernel
theorem dX2_addVersion_35 : decode cX2_addVersion 35 = .ok (.dup, 1) := by decide +kernel
theorem dX2_addVersion_36 : decode cX2_addVersion 36 = .ok (.getfield 261, 3) := by decide +kernel
theorem dX2_addVersion_39 : decode cX2_addVersion 39 = .ok (.iconst 1, 1) := by decide +kernel
theorem dX2_addVersion_40 : decode cX2_addVersion 40 = .ok (.iadd, 1) := by decide +kernel
theorem dX2_addVersion_41 : decode cX2_addVersion 41 = .ok (.putfield 261, 3) := by decide +kernel
theorem dX2_addVersion_44 : decode cX2_addVersion 44 = .ok (.iinc 2 1, 3) := by decide +kernel
theorem dX2_addVersion_47 : decode cX2_addVersion 47 = .ok (.goto (-30), 3) := by decide +kernel
theorem dX2_addVersion_50 : decode cX2_addVersion 50 = .ok (.aload_n 0, 1) := by decide +kernel
theorem dX2_addVersion_51 : decode cX2_addVersion 51 = .ok (.dup, 1) := by decide +kernel
theorem dX2_addVersion_52 : decode cX2_addVersion 52 = .ok (.getfield 15, 3) := by decide +kernel
theorem dX2_addVersion_55 : decode cX2_addVersion 55 = .ok (.iconst 1, 1) := by decide +kernel
theorem dX2_addVersion_56 : decode cX2_addVersion 56 = .ok (.iadd, 1) := by decide +kernel
theorem dX2_addVersion_57 : decode cX2_addVersion 57 = .ok (.putfield 15, 3) := by decide +kernel
theorem dX2_addVersion_60 : decode cX2_addVersion 60 = .ok (.aload_n 0, 1) := by decide +kernel
theorem dX2_addVersion_61 : decode cX2_addVersion 61 = .ok (.getfield 15, 3) := by decide +kernel
theorem dX2_addVersion_64 : decode cX2_addVersion 64 = .ok (.iconst 1, 1) := by decide +kernel
theorem dX2_addVersion_65 : decode cX2_addVersion 65 = .ok (.isub, 1) := by decide +kernel
theorem dX2_addVersion_66 : decode cX2_addVersion 66 = .ok (.ireturn, 1) := by decide +kernel
theorem dX2_isNodeOfVersion_0 : decode cX2_isNodeOfVersion 0 = .ok (.iconst 0, 1) := by decide +kernel
theorem dX2_isNodeOfVersion_1 : decode cX2_isNodeOfVersion 1 = .ok (.istore_n 3, 1) := by decide +kernel
theorem dX2_isNodeOfVersion_2 : decode cX2_isNodeOfVersion 2 = .ok (.iload_n 3, 1) := by decide +kernel
theorem dX2_isNodeOfVersion_3 : decode cX2_isNodeOfVersion 3 = .ok (.aload_n 0, 1) := by decide +kernel
theorem dX2_isNodeOfVersion_4 : decode cX2_isNodeOfVersion 4 = .ok (.getfield 15, 3) := by decide +kernel
theorem dX2_isNodeOfVersion_7 : decode cX2_isNodeOfVersion 7 = .ok (.if_icmp .ge 25, 3) := by decide +kernel
theorem dX2_isNodeOfVersion_10 : decode cX2_isNodeOfVersion 10 = .ok (.aload_n 0, 1) := by decide +kernel
theorem dX2_isNodeOfVersion_11 : decode cX2_isNodeOfVersion 11 = .ok (.getfield 11, 3) := by decide +kernel
theorem dX2_isNodeOfVersion_14 : decode cX2_isNodeOfVersion 14 = .ok (.iload_n 3, 1) := by decide +kernel
theorem dX2_isNodeOfVersion_15 : decode cX2_isNodeOfVersion 15 = .ok (.aaload, 1) := by decide +kernel
theorem dX2_isNodeOfVersion_16 : decode cX2_isNodeOfVersion 16 = .ok (.aload_n 1, 1) := by decide +kernel
theorem dX2_isNodeOfVersion_17 : decode cX2_isNodeOfVersion 17 = .ok (.iload_n 2, 1) := by decide +kernel
theorem dX2_isNodeOfVersion_18 : decode cX2_isNodeOfVersion 18 = .ok (.invokevirtual 193, 3) := by decide +kernel
theorem dX2_isNodeOfVersion_21 : decode cX2_isNodeOfVersion 21 = .ok (.ifCond .eq 5, 3) := by decide +kernel
theorem dX2_isNodeOfVersion_24 : decode cX2_isNodeOfVersion 24 = .ok (.iconst 1, 1) := by decide +kernel
theorem dX2_isNodeOfVersion_25 : decode cX2_isNodeOfVersion 25 = .ok (.ireturn, 1) := by decide +kernel
theorem dX2_isNodeOfVersion_26 : decode cX2_isNodeOfVersion 26 = .ok (.iinc 3 1, 3) := by decide +kernel
theorem dX2_isNodeOfVersion_29 : decode cX2_isNodeOfVersion 29 = .ok (.goto (-27), 3) := by decide +kernel
theorem dX2_isNodeOfVersion_32 : decode cX2_isNodeOfVersion 32 = .ok (.iconst 0, 1) := by decide +kernel
theorem dX2_isNodeOfVersion_33 : decode cX2_isNodeOfVersion 33 = .ok (.ireturn, 1) := by decide +kernel
theorem dX2_differentNodes_0 : decode cX2_differentNodes 0 = .ok (.iconst 0, 1) := by decide +kernel
theorem dX2_differentNodes_1 : decode cX2_differentNodes 1 = .ok (.istore_n 1, 1) := by decide +kernel
theorem dX2_differentNodes_2 : decode cX2_differentNodes 2 = .ok (.iconst 0, 1) := by decide +kernel
theorem dX2_differentNodes_3 : decode cX2_differentNodes 3 = .ok (.istore_n 2, 1) := by decide +kernel
theorem dX2_differentNodes_4 : decode cX2_differentNodes 4 = .ok (.iload_n 2, 1) := by decide +kernel
theorem dX2_differentNodes_5 : decode cX2_differentNodes 5 = .ok (.aload_n 0, 1) := by decide +kernel
theorem dX2_differentNodes_6 : decode cX2_differentNodes 6 = .ok (.getfield 15, 3) := by decide +kernel
theorem dX2_differentNodes_9 : decode cX2_differentNodes 9 = .ok (.if_icmp .ge 21, 3) := by decide +kernel
theorem dX2_differentNodes_12 : decode cX2_differentNodes 12 = .ok (.iload_n 1, 1) := by decide +kernel
theorem dX2_differentNodes_13 : decode cX2_differentNodes 13 = .ok (.aload_n 0, 1) := by decide +kernel
theorem dX2_differentNodes_14 : decode cX2_differentNodes 14 = .ok (.getfield 11, 3) := by decide +kernel
theorem dX2_differentNodes_17 : decode cX2_differentNodes 17 = .ok (.iload_n 2, 1) := by decide +kernel
theorem dX2_differentNodes_18 : decode cX2_differentNodes 18 = .ok (.aaload, 1) := by decide +kernel
theorem dX2_differentNodes_19 : decode cX2_differentNodes 19 = .ok (.getfield 261, 3) := by decide +kernel
theorem dX2_differentNodes_22 : decode cX2_differentNodes 22 = .ok (.iadd, 1) := by decide +kernel
theorem dX2_differentNodes_23 : decode cX2_differentNodes 23 = .ok (.istore_n 1, 1) := by decide +kernel
theorem dX2_differentNodes_24 : decode cX2_differentNodes 24 = .ok (.iinc 2 1, 3) := by decide +kernel
theorem dX2_differentNodes_27 : decode cX2_differentNodes 27 = .ok (.goto (-23), 3) := by decide +kernel
theorem dX2_differentNodes_30 : decode cX2_differentNodes 30 = .ok (.iload_n 1, 1) := by decide +kernel
theorem dX2_differentNodes_31 : decode cX2_differentNodes 31 = .ok (.ireturn, 1) := by decide +kernel
