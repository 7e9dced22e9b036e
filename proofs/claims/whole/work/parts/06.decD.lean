theorem dX3_copyNode_6 : decode cX3_copyNode 6 = .ok (.istore 4, 2) := by decide +kernel
theorem dX3_copyNode_8 : decode cX3_copyNode 8 = .ok (.bipush 96, 2) := by decide +kernel
theorem dX3_copyNode_10 : decode cX3_copyNode 10 = .ok (.iload_n 3, 1) := by decide +kernel
theorem dX3_copyNode_11 : decode cX3_copyNode 11 = .ok (.imul, 1) := by decide +kernel
theorem dX3_copyNode_12 : decode cX3_copyNode 12 = .ok (.iload_n 2, 1) := by decide +kernel
theorem dX3_copyNode_13 : decode cX3_copyNode 13 = .ok (.iadd, 1) := by decide +kernel
theorem dX3_copyNode_14 : decode cX3_copyNode 14 = .ok (.istore 5, 2) := by decide +kernel
theorem dX3_copyNode_16 : decode cX3_copyNode 16 = .ok (.aload_n 0, 1) := by decide +kernel
theorem dX3_copyNode_17 : decode cX3_copyNode 17 = .ok (.getfield 35, 3) := by decide +kernel
theorem dX3_copyNode_20 : decode cX3_copyNode 20 = .ok (.iload 4, 2) := by decide +kernel
theorem dX3_copyNode_22 : decode cX3_copyNode 22 = .ok (.aload_n 0, 1) := by decide +kernel
theorem dX3_copyNode_23 : decode cX3_copyNode 23 = .ok (.getfield 35, 3) := by decide +kernel
theorem dX3_copyNode_26 : decode cX3_copyNode 26 = .ok (.iload 5, 2) := by decide +kernel
theorem dX3_copyNode_28 : decode cX3_copyNode 28 = .ok (.iaload, 1) := by decide +kernel
theorem dX3_copyNode_29 : decode cX3_copyNode 29 = .ok (.iastore, 1) := by decide +kernel
theorem dX3_copyNode_30 : decode cX3_copyNode 30 = .ok (.aload_n 0, 1) := by decide +kernel
theorem dX3_copyNode_31 : decode cX3_copyNode 31 = .ok (.getfield 38, 3) := by decide +kernel
theorem dX3_copyNode_34 : decode cX3_copyNode 34 = .ok (.iload 4, 2) := by decide +kernel
theorem dX3_copyNode_36 : decode cX3_copyNode 36 = .ok (.aload_n 0, 1) := by decide +kernel
theorem dX3_copyNode_37 : decode cX3_copyNode 37 = .ok (.getfield 38, 3) := by decide +kernel
theorem dX3_copyNode_40 : decode cX3_copyNode 40 = .ok (.iload 5, 2) := by decide +kernel
theorem dX3_copyNode_42 : decode cX3_copyNode 42 = .ok (.iaload, 1) := by decide +kernel
theorem dX3_copyNode_43 : decode cX3_copyNode 43 = .ok (.iastore, 1) := by decide +kernel
theorem dX3_copyNode_44 : decode cX3_copyNode 44 = .ok (.aload_n 0, 1) := by decide +kernel
theorem dX3_copyNode_45 : decode cX3_copyNode 45 = .ok (.getfield 41, 3) := by decide +kernel
theorem dX3_copyNode_48 : decode cX3_copyNode 48 = .ok (.iload 4, 2) := by decide +kernel
theorem dX3_copyNode_50 : decode cX3_copyNode 50 = .ok (.aload_n 0, 1) := by decide +kernel
theorem dX3_copyNode_51 : decode cX3_copyNode 51 = .ok (.getfield 41, 3) := by decide +kernel
theorem dX3_copyNode_54 : decode cX3_copyNode 54 = .ok (.iload 5, 2) := by decide +kernel
theorem dX3_copyNode_56 : decode cX3_copyNode 56 = .ok (.iaload, 1) := by decide +kernel
theorem dX3_copyNode_57 : decode cX3_copyNode 57 = .ok (.iastore, 1) := by decide +kernel
theorem dX3_copyNode_58 : decode cX3_copyNode 58 = .ok (.aload_n 0, 1) := by decide +kernel
theorem dX3_copyNode_59 : decode cX3_copyNode 59 = .ok (.getfield 44, 3) := by decide +kernel
theorem dX3_copyNode_62 : decode cX3_copyNode 62 = .ok (.iload 4, 2) := by decide +kernel
theorem dX3_copyNode_64 : decode cX3_copyNode 64 = .ok (.aload_n 0, 1) := by decide +kernel
theorem dX3_copyNode_65 : decode cX3_copyNode 65 = .ok (.getfield 44, 3) := by decide +kernel
theorem dX3_copyNode_68 : decode cX3_copyNode 68 = .ok (.iload 5, 2) := by decide +kernel
theorem dX3_copyNode_70 : decode cX3_copyNode 70 = .ok (.iaload, 1) := by decide +kernel
theorem dX3_copyNode_71 : decode cX3_copyNode 71 = .ok (.iastore, 1) := by decide +kernel
theorem dX3_copyNode_72 : decode cX3_copyNode 72 = .ok (.aload_n 0, 1) := by decide +kernel
theorem dX3_copyNode_73 : decode cX3_copyNode 73 = .ok (.getfield 47, 3) := by decide +kernel
theorem dX3_copyNode_76 : decode cX3_copyNode 76 = .ok (.iload 4, 2) := by decide +kernel
theorem dX3_copyNode_78 : decode cX3_copyNode 78 = .ok (.aload_n 0, 1) := by decide +kernel
theorem dX3_copyNode_79 : decode cX3_copyNode 79 = .ok (.getfield 47, 3) := by decide +kernel
theorem dX3_copyNode_82 : decode cX3_copyNode 82 = .ok (.iload 5, 2) := by decide +kernel
theorem dX3_copyNode_84 : decode cX3_copyNode 84 = .ok (.iaload, 1) := by decide +kernel
theorem dX3_copyNode_85 : decode cX3_copyNode 85 = .ok (.iastore, 1) := by decide +kernel
theorem dX3_copyNode_86 : decode cX3_copyNode 86 = .ok (.aload_n 0, 1) := by decide +kernel
theorem dX3_copyNode_87 : decode cX3_copyNode 87 = .ok (.getfield 50, 3) := by decide +kernel
theorem dX3_copyNode_90 : decode cX3_copyNode 90 = .ok (.iload 4, 2) := by decide +kernel
theorem dX3_copyNode_92 : decode cX3_copyNode 92 = .ok (.aload_n 0, 1) := by decide +kernel
theorem dX3_copyNode_93 : decode cX3_copyNode 93 = .ok (.getfield 50, 3) := by decide +kernel
theorem dX3_copyNode_96 : decode cX3_copyNode 96 = .ok (.iload 5, 2) := by decide +kernel
theorem dX3_copyNode_98 : decode cX3_copyNode 98 = .ok (.baload, 1) := by decide +kernel
theorem dX3_copyNode_99 : decode cX3_copyNode 99 = .ok (.bastore, 1) := by decide +kernel
theorem dX3_copyNode_100 : decode cX3_copyNode 100 = .ok (.return_, 1) := by decide +kernel
theorem dX3_isVersion_0 : decode cX3_isVersion 0 = .ok (.iload_n 1, 1) := by decide +kernel
theorem dX3_isVersion_1 : decode cX3_isVersion 1 = .ok (.iconst 0, 1) := by decide +kernel
theorem dX3_isVersion_2 : decode cX3_isVersion 2 = .ok (.aload_n 0, 1) := by decide +kernel
theorem dX3_isVersion_3 : decode cX3_isVersion 3 = .ok (.getfield 20, 3) := by decide +kernel
theorem dX3_isVersion_6 : decode cX3_isVersion 6 = .ok (.iconst 1, 1) := by decide +kernel
theorem dX3_isVersion_7 : decode cX3_isVersion 7 = .ok (.isub, 1) := by decide +kernel
theorem dX3_isVersion_8 : decode cX3_isVersion 8 = .ok (.invokestatic 81, 3) := by decide +kernel
theorem dX3_isVersion_11 : decode cX3_isVersion 11 = .ok (.ireturn, 1) := by decide +kernel
theorem dX3_put_0 : decode cX3_put 0 = .ok (.aload_n 0, 1) := by decide +kernel
theorem dX3_put_1 : decode cX3_put 1 = .ok (.iload_n 1, 1) := by decide +kernel
theorem dX3_put_2 : decode cX3_put 2 = .ok (.invokevirtual 160, 3) := by decide +kernel
theorem dX3_put_5 : decode cX3_put 5 = .ok (.ifCond .ne 6, 3) := by decide +kernel
theorem dX3_put_8 : decode cX3_put 8 = .ok (.bipush (-101), 2) := by decide +kernel
theorem dX3_put_10 : decode cX3_put 10 = .ok (.ireturn, 1) := by decide +kernel
theorem dX3_put_11 : decode cX3_put 11 = .ok (.iload_n 2, 1) := by decide +kernel
theorem dX3_put_12 : decode cX3_put 12 = .ok (.iconst 0, 1) := by decide +kernel
theorem dX3_put_13 : decode cX3_put 13 = .ok (.sipush 4095, 3) := by decide +kernel
theorem dX3_put_16 : decode cX3_put 16 = .ok (.invokestatic 81, 3) := by decide +kernel
theorem dX3_put_19 : decode cX3_put 19 = .ok (.ifCond .eq 14, 3) := by decide +kernel
theorem dX3_put_22 : decode cX3_put 22 = .ok (.iload_n 3, 1) := by decide +kernel
theorem dX3_put_23 : decode cX3_put 23 = .ok (.iconst 0, 1) := by decide +kernel
theorem dX3_put_24 : decode cX3_put 24 = .ok (.sipush 999, 3) := by decide +kernel
theorem dX3_put_27 : decode cX3_put 27 = .ok (.invokestatic 81, 3) := by decide +kernel
theorem dX3_put_30 : decode cX3_put 30 = .ok (.ifCond .ne 6, 3) := by decide +kernel
theorem dX3_put_33 : decode cX3_put 33 = .ok (.bipush (-102), 2) := by decide +kernel
theorem dX3_put_35 : decode cX3_put 35 = .ok (.ireturn, 1) := by decide +kernel
theorem dX3_put_36 : decode cX3_put 36 = .ok (.aload_n 0, 1) := by decide +kernel
theorem dX3_put_37 : decode cX3_put 37 = .ok (.getfield 20, 3) := by decide +kernel
theorem dX3_put_40 : decode cX3_put 40 = .ok (.bipush 20, 2) := by decide +kernel
theorem dX3_put_42 : decode cX3_put 42 = .ok (.if_icmp .eq 24, 3) := by decide +kernel
theorem dX3_put_45 : decode cX3_put 45 = .ok (.aload_n 0, 1) := by decide +kernel
theorem dX3_put_46 : decode cX3_put 46 = .ok (.getfield 23, 3) := by decide +kernel
theorem dX3_put_49 : decode cX3_put 49 = .ok (.iload_n 1, 1) := by decide +kernel
theorem dX3_put_50 : decode cX3_put 50 = .ok (.iaload, 1) := by decide +kernel
theorem dX3_put_51 : decode cX3_put 51 = .ok (.bipush 24, 2) := by decide +kernel
theorem dX3_put_53 : decode cX3_put 53 = .ok (.if_icmp .ne 16, 3) := by decide +kernel
theorem dX3_put_56 : decode cX3_put 56 = .ok (.aload_n 0, 1) := by decide +kernel
theorem dX3_put_57 : decode cX3_put 57 = .ok (.iload_n 1, 1) := by decide +kernel
theorem dX3_put_58 : decode cX3_put 58 = .ok (.iload_n 2, 1) := by decide +kernel
theorem dX3_put_59 : decode cX3_put 59 = .ok (.invokevirtual 104, 3) := by decide +kernel
theorem dX3_put_62 : decode cX3_put 62 = .ok (.iconst (-1), 1) := by decide +kernel
theorem dX3_put_63 : decode cX3_put 63 = .ok (.if_icmp .ne 6, 3) := by decide +kernel
theorem dX3_put_66 : decode cX3_put 66 = .ok (.bipush (-104), 2) := by decide +kernel
theorem dX3_put_68 : decode cX3_put 68 = .ok (.ireturn, 1) := by decide +kernel
theorem dX3_put_69 : decode cX3_put 69 = .ok (.aload_n 0, 1) := by decide +kernel
theorem dX3_put_70 : decode cX3_put 70 = .ok (.bipush 21, 2) := by decide +kernel
theorem dX3_put_72 : decode cX3_put 72 = .ok (.iload_n 1, 1) := by decide +kernel
theorem dX3_put_73 : decode cX3_put 73 = .ok (.invokevirtual 153, 3) := by decide +kernel
theorem dX3_put_76 : decode cX3_put 76 = .ok (.aload_n 0, 1) := by decide +kernel
theorem dX3_put_77 : decode cX3_put 77 = .ok (.bipush 21, 2) := by decide +kernel
theorem dX3_put_79 : decode cX3_put 79 = .ok (.iload_n 2, 1) := by decide +kernel
theorem dX3_put_80 : decode cX3_put 80 = .ok (.iload_n 3, 1) := by decide +kernel
theorem dX3_put_81 : decode cX3_put 81 = .ok (.invokevirtual 164, 3) := by decide +kernel
theorem dX3_put_84 : decode cX3_put 84 = .ok (.aload_n 0, 1) := by decide +kernel
theorem dX3_put_85 : decode cX3_put 85 = .ok (.iload_n 1, 1) := by decide +kernel
theorem dX3_put_86 : decode cX3_put 86 = .ok (.iconst (-1), 1) := by decide +kernel
theorem dX3_put_87 : decode cX3_put 87 = .ok (.invokevirtual 167, 3) := by decide +kernel
theorem dX3_put_90 : decode cX3_put 90 = .ok (.aload_n 0, 1) := by decide +kernel
theorem dX3_put_91 : decode cX3_put 91 = .ok (.bipush 21, 2) := by decide +kernel
theorem dX3_put_93 : decode cX3_put 93 = .ok (.invokevirtual 170, 3) := by decide +kernel
theorem dX3_put_96 : decode cX3_put 96 = .ok (.ireturn, 1) := by decide +kernel
theorem dX3_remove_0 : decode cX3_remove 0 = .ok (.aload_n 0, 1) := by decide +kernel
theorem dX3_remove_1 : decode cX3_remove 1 = .ok (.iload_n 1, 1) := by decide +kernel
theorem dX3_remove_2 : decode cX3_remove 2 = .ok (.invokevirtual 160, 3) := by decide +kernel
theorem dX3_remove_5 : decode cX3_remove 5 = .ok (.ifCond .ne 6, 3) := by decide +kernel
theorem dX3_remove_8 : decode cX3_remove 8 = .ok (.bipush (-101), 2) := by decide +kernel
theorem dX3_remove_10 : decode cX3_remove 10 = .ok (.ireturn, 1) := by decide +kernel
theorem dX3_remove_11 : decode cX3_remove 11 = .ok (.iload_n 2, 1) := by decide +kernel
theorem dX3_remove_12 : decode cX3_remove 12 = .ok (.iconst 0, 1) := by decide +kernel
theorem dX3_remove_13 : decode cX3_remove 13 = .ok (.sipush 4095, 3) := by decide +kernel
theorem dX3_remove_16 : decode cX3_remove 16 = .ok (.invokestatic 81, 3) := by decide +kernel
theorem dX3_remove_19 : decode cX3_remove 19 = .ok (.ifCond .ne 6, 3) := by decide +kernel
theorem dX3_remove_22 : decode cX3_remove 22 = .ok (.bipush (-102), 2) := by decide +kernel
theorem dX3_remove_24 : decode cX3_remove 24 = .ok (.ireturn, 1) := by decide +kernel
theorem dX3_remove_25 : decode cX3_remove 25 = .ok (.aload_n 0, 1) := by decide +kernel
theorem dX3_remove_26 : decode cX3_remove 26 = .ok (.getfield 20, 3) := by decide +kernel
theorem dX3_remove_29 : decode cX3_remove 29 = .ok (.bipush 20, 2) := by decide +kernel
theorem dX3_remove_31 : decode cX3_remove 31 = .ok (.if_icmp .ne 6, 3) := by decide +kernel
theorem dX3_remove_34 : decode cX3_remove 34 = .ok (.bipush (-104), 2) := by decide +kernel
theorem dX3_remove_36 : decode cX3_remove 36 = .ok (.ireturn, 1) := by decide +kernel
theorem dX3_remove_37 : decode cX3_remove 37 = .ok (.aload_n 0, 1) := by decide +kernel
theorem dX3_remove_38 : decode cX3_remove 38 = .ok (.bipush 21, 2) := by decide +kernel
theorem dX3_remove_40 : decode cX3_remove 40 = .ok (.iload_n 1, 1) := by decide +kernel
theorem dX3_remove_41 : decode cX3_remove 41 = .ok (.invokevirtual 153, 3) := by decide +kernel
theorem dX3_remove_44 : decode cX3_remove 44 = .ok (.aload_n 0, 1) := by decide +kernel
theorem dX3_remove_45 : decode cX3_remove 45 = .ok (.bipush 21, 2) := by decide +kernel
theorem dX3_remove_47 : decode cX3_remove 47 = .ok (.iload_n 2, 1) := by decide +kernel
theorem dX3_remove_48 : decode cX3_remove 48 = .ok (.invokevirtual 173, 3) := by decide +kernel
theorem dX3_remove_51 : decode cX3_remove 51 = .ok (.aload_n 0, 1) := by decide +kernel
theorem dX3_remove_52 : decode cX3_remove 52 = .ok (.iload_n 1, 1) := by decide +kernel
theorem dX3_remove_53 : decode cX3_remove 53 = .ok (.iconst (-1), 1) := by decide +kernel
theorem dX3_remove_54 : decode cX3_remove 54 = .ok (.invokevirtual 167, 3) := by decide +kernel
theorem dX3_remove_57 : decode cX3_remove 57 = .ok (.aload_n 0, 1) := by decide +kernel
theorem dX3_remove_58 : decode cX3_remove 58 = .ok (.bipush 21, 2) := by decide +kernel
theorem dX3_remove_60 : decode cX3_remove 60 = .ok (.invokevirtual 170, 3) := by decide +kernel
theorem dX3_remove_63 : decode cX3_remove 63 = .ok (.ireturn, 1) := by decide +kernel
theorem dX3_inBoth_0 : decode cX3_inBoth 0 = .ok (.iconst 0, 1) := by decide +kernel
theorem dX3_inBoth_1 : decode cX3_inBoth 1 = .ok (.istore_n 3, 1) := by decide +kernel
theorem dX3_inBoth_2 : decode cX3_inBoth 2 = .ok (.iconst 0, 1) := by decide +kernel
theorem dX3_inBoth_3 : decode cX3_inBoth 3 = .ok (.istore 4, 2) := by decide +kernel
theorem dX3_inBoth_5 : decode cX3_inBoth 5 = .ok (.iload 4, 2) := by decide +kernel
theorem dX3_inBoth_7 : decode cX3_inBoth 7 = .ok (.aload_n 0, 1) := by decide +kernel
theorem dX3_inBoth_8 : decode cX3_inBoth 8 = .ok (.getfield 23, 3) := by decide +kernel
theorem dX3_inBoth_11 : decode cX3_inBoth 11 = .ok (.iload_n 1, 1) := by decide +kernel
theorem dX3_inBoth_12 : decode cX3_inBoth 12 = .ok (.iaload, 1) := by decide +kernel
theorem dX3_inBoth_13 : decode cX3_inBoth 13 = .ok (.if_icmp .ge 33, 3) := by decide +kernel
theorem dX3_inBoth_16 : decode cX3_inBoth 16 = .ok (.iload_n 3, 1) := by decide +kernel
theorem dX3_inBoth_17 : decode cX3_inBoth 17 = .ok (.aload_n 0, 1) := by decide +kernel
theorem dX3_inBoth_18 : decode cX3_inBoth 18 = .ok (.iload_n 2, 1) := by decide +kernel
theorem dX3_inBoth_19 : decode cX3_inBoth 19 = .ok (.aload_n 0, 1) := by decide +kernel
theorem dX3_inBoth_20 : decode cX3_inBoth 20 = .ok (.iload_n 1, 1) := by decide +kernel
theorem dX3_inBoth_21 : decode cX3_inBoth 21 = .ok (.iload 4, 2) := by decide +kernel
theorem dX3_inBoth_23 : decode cX3_inBoth 23 = .ok (.invokevirtual 98, 3) := by decide +kernel
theorem dX3_inBoth_26 : decode cX3_inBoth 26 = .ok (.invokevirtual 104, 3) := by decide +kernel
theorem dX3_inBoth_29 : decode cX3_inBoth 29 = .ok (.iconst (-1), 1) := by decide +kernel
theorem dX3_inBoth_30 : decode cX3_inBoth 30 = .ok (.if_icmp .ne 7, 3) := by decide +kernel
theorem dX3_inBoth_33 : decode cX3_inBoth 33 = .ok (.iconst 0, 1) := by decide +kernel
theorem dX3_inBoth_34 : decode cX3_inBoth 34 = .ok (.goto 4, 3) := by decide +kernel
theorem dX3_inBoth_37 : decode cX3_inBoth 37 = .ok (.iconst 1, 1) := by decide +kernel
theorem dX3_inBoth_38 : decode cX3_inBoth 38 = .ok (.iadd, 1) := by decide +kernel
theorem dX3_inBoth_39 : decode cX3_inBoth 39 = .ok (.istore_n 3, 1) := by decide +kernel
theorem dX3_inBoth_40 : decode cX3_inBoth 40 = .ok (.iinc 4 1, 3) := by decide +kernel
theorem dX3_inBoth_43 : decode cX3_inBoth 43 = .ok (.goto (-38), 3) := by decide +kernel
theorem dX3_inBoth_46 : decode cX3_inBoth 46 = .ok (.iload_n 3, 1) := by decide +kernel
theorem dX3_inBoth_47 : decode cX3_inBoth 47 = .ok (.ireturn, 1) := by decide +kernel
theorem dX3_layBoth_0 : decode cX3_layBoth 0 = .ok (.aload_n 0, 1) := by decide +kernel
theorem dX3_layBoth_1 : decode cX3_layBoth 1 = .ok (.getfield 23, 3) := by decide +kernel
theorem dX3_layBoth_4 : decode cX3_layBoth 4 = .ok (.bipush 21, 2) := by decide +kernel
theorem dX3_layBoth_6 : decode cX3_layBoth 6 = .ok (.iconst 0, 1) := by decide +kernel
theorem dX3_layBoth_7 : decode cX3_layBoth 7 = .ok (.iastore, 1) := by decide +kernel
theorem dX3_layBoth_8 : decode cX3_layBoth 8 = .ok (.iconst 0, 1) := by decide +kernel
theorem dX3_layBoth_9 : decode cX3_layBoth 9 = .ok (.istore 4, 2) := by decide +kernel
theorem dX3_layBoth_11 : decode cX3_layBoth 11 = .ok (.iload 4, 2) := by decide +kernel
theorem dX3_layBoth_13 : decode cX3_layBoth 13 = .ok (.aload_n 0, 1) := by decide +kernel
theorem dX3_layBoth_14 : decode cX3_layBoth 14 = .ok (.getfield 23, 3) := by decide +kernel
theorem dX3_layBoth_17 : decode cX3_layBoth 17 = .ok (.iload_n 1, 1) := by decide +kernel
theorem dX3_layBoth_18 : decode cX3_layBoth 18 = .ok (.iaload, 1) := by decide +kernel
theorem dX3_layBoth_19 : decode cX3_layBoth 19 = .ok (.if_icmp .ge 71, 3) := by decide +kernel
theorem dX3_layBoth_22 : decode cX3_layBoth 22 = .ok (.aload_n 0, 1) := by decide +kernel
theorem dX3_layBoth_23 : decode cX3_layBoth 23 = .ok (.iload_n 2, 1) := by decide +kernel
theorem dX3_layBoth_24 : decode cX3_layBoth 24 = .ok (.aload_n 0, 1) := by decide +kernel
theorem dX3_layBoth_25 : decode cX3_layBoth 25 = .ok (.iload_n 1, 1) := by decide +kernel
theorem dX3_layBoth_26 : decode cX3_layBoth 26 = .ok (.iload 4, 2) := by decide +kernel
theorem dX3_layBoth_28 : decode cX3_layBoth 28 = .ok (.invokevirtual 98, 3) := by decide +kernel
theorem dX3_layBoth_31 : decode cX3_layBoth 31 = .ok (.invokevirtual 104, 3) := by decide +kernel
theorem dX3_layBoth_34 : decode cX3_layBoth 34 = .ok (.iconst (-1), 1) := by decide +kernel
theorem dX3_layBoth_35 : decode cX3_layBoth 35 = .ok (.if_icmp .eq 7, 3) := by decide +kernel
theorem dX3_layBoth_38 : decode cX3_layBoth 38 = .ok (.iconst 1, 1) := by decide +kernel
theorem dX3_layBoth_39 : decode cX3_layBoth 39 = .ok (.goto 4, 3) := by decide +kernel
theorem dX3_layBoth_42 : decode cX3_layBoth 42 = .ok (.iconst 0, 1) := by decide +kernel
theorem dX3_layBoth_43 : decode cX3_layBoth 43 = .ok (.istore 5, 2) := by decide +kernel
theorem dX3_layBoth_45 : decode cX3_layBoth 45 = .ok (.iload_n 3, 1) := by decide +kernel
theorem dX3_layBoth_46 : decode cX3_layBoth 46 = .ok (.ifCond .eq 18, 3) := by decide +kernel
theorem dX3_layBoth_49 : decode cX3_layBoth 49 = .ok (.iload 5, 2) := by decide +kernel
theorem dX3_layBoth_51 : decode cX3_layBoth 51 = .ok (.iload_n 3, 1) := by decide +kernel
theorem dX3_layBoth_52 : decode cX3_layBoth 52 = .ok (.iconst 1, 1) := by decide +kernel
theorem dX3_layBoth_53 : decode cX3_layBoth 53 = .ok (.if_icmp .ne 7, 3) := by decide +kernel
theorem dX3_layBoth_56 : decode cX3_layBoth 56 = .ok (.iconst 1, 1) := by decide +kernel
theorem dX3_layBoth_57 : decode cX3_layBoth 57 = .ok (.goto 4, 3) := by decide +kernel
theorem dX3_layBoth_60 : decode cX3_layBoth 60 = .ok (.iconst 0, 1) := by decide +kernel
theorem dX3_layBoth_61 : decode cX3_layBoth 61 = .ok (.if_icmp .ne 23, 3) := by decide +kernel
theorem dX3_layBoth_64 : decode cX3_layBoth 64 = .ok (.aload_n 0, 1) := by decide +kernel
theorem dX3_layBoth_65 : decode cX3_layBoth 65 = .ok (.bipush 21, 2) := by decide +kernel
theorem dX3_layBoth_67 : decode cX3_layBoth 67 = .ok (.aload_n 0, 1) := by decide +kernel
theorem dX3_layBoth_68 : decode cX3_layBoth 68 = .ok (.iload_n 1, 1) := by decide +kernel
theorem dX3_layBoth_69 : decode cX3_layBoth 69 = .ok (.iload 4, 2) := by decide +kernel
theorem dX3_layBoth_71 : decode cX3_layBoth 71 = .ok (.invokevirtual 98, 3) := by decide +kernel
theorem dX3_layBoth_74 : decode cX3_layBoth 74 = .ok (.aload_n 0, 1) := by decide +kernel
theorem dX3_layBoth_75 : decode cX3_layBoth 75 = .ok (.iload_n 1, 1) := by decide +kernel
theorem dX3_layBoth_76 : decode cX3_layBoth 76 = .ok (.iload 4, 2) := by decide +kernel
theorem dX3_layBoth_78 : decode cX3_layBoth 78 = .ok (.invokevirtual 101, 3) := by decide +kernel
theorem dX3_layBoth_81 : decode cX3_layBoth 81 = .ok (.invokevirtual 164, 3) := by decide +kernel
theorem dX3_layBoth_84 : decode cX3_layBoth 84 = .ok (.iinc 4 1, 3) := by decide +kernel
theorem dX3_layBoth_87 : decode cX3_layBoth 87 = .ok (.goto (-76), 3) := by decide +kernel
theorem dX3_layBoth_90 : decode cX3_layBoth 90 = .ok (.iconst 0, 1) := by decide +kernel
theorem dX3_layBoth_91 : decode cX3_layBoth 91 = .ok (.istore 4, 2) := by decide +kernel
theorem dX3_layBoth_93 : decode cX3_layBoth 93 = .ok (.iload 4, 2) := by decide +kernel
theorem dX3_layBoth_95 : decode cX3_layBoth 95 = .ok (.aload_n 0, 1) := by decide +kernel
theorem dX3_layBoth_96 : decode cX3_layBoth 96 = .ok (.getfield 23, 3) := by decide +kernel
theorem dX3_layBoth_99 : decode cX3_layBoth 99 = .ok (.iload_n 2, 1) := by decide +kernel
theorem dX3_layBoth_100 : decode cX3_layBoth 100 = .ok (.iaload, 1) := by decide +kernel
theorem dX3_layBoth_101 : decode cX3_layBoth 101 = .ok (.if_icmp .ge 49, 3) := by decide +kernel
theorem dX3_layBoth_104 : decode cX3_layBoth 104 = .ok (.iload_n 3, 1) := by decide +kernel
theorem dX3_layBoth_105 : decode cX3_layBoth 105 = .ok (.ifCond .ne 45, 3) := by decide +kernel
theorem dX3_layBoth_108 : decode cX3_layBoth 108 = .ok (.aload_n 0, 1) := by decide +kernel
theorem dX3_layBoth_109 : decode cX3_layBoth 109 = .ok (.iload_n 1, 1) := by decide +kernel
theorem dX3_layBoth_110 : decode cX3_layBoth 110 = .ok (.aload_n 0, 1) := by decide +kernel
theorem dX3_layBoth_111 : decode cX3_layBoth 111 = .ok (.iload_n 2, 1) := by decide +kernel
theorem dX3_layBoth_112 : decode cX3_layBoth 112 = .ok (.iload 4, 2) := by decide +kernel
theorem dX3_layBoth_114 : decode cX3_layBoth 114 = .ok (.invokevirtual 98, 3) := by decide +kernel
theorem dX3_layBoth_117 : decode cX3_layBoth 117 = .ok (.invokevirtual 104, 3) := by decide +kernel
theorem dX3_layBoth_120 : decode cX3_layBoth 120 = .ok (.iconst (-1), 1) := by decide +kernel
theorem dX3_layBoth_121 : decode cX3_layBoth 121 = .ok (.if_icmp .ne 23, 3) := by decide +kernel
theorem dX3_layBoth_124 : decode cX3_layBoth 124 = .ok (.aload_n 0, 1) := by decide +kernel
theorem dX3_layBoth_125 : decode cX3_layBoth 125 = .ok (.bipush 21, 2) := by decide +kernel
theorem dX3_layBoth_127 : decode cX3_layBoth 127 = .ok (.aload_n 0, 1) := by decide +kernel
theorem dX3_layBoth_128 : decode cX3_layBoth 128 = .ok (.iload_n 2, 1) := by decide +kernel
theorem dX3_layBoth_129 : decode cX3_layBoth 129 = .ok (.iload 4, 2) := by decide +kernel
theorem dX3_layBoth_131 : decode cX3_layBoth 131 = .ok (.invokevirtual 98, 3) := by decide +kernel
theorem dX3_layBoth_134 : decode cX3_layBoth 134 = .ok (.aload_n 0, 1) := by decide +kernel
theorem dX3_layBoth_135 : decode cX3_layBoth 135 = .ok (.iload_n 2, 1) := by decide +kernel
theorem dX3_layBoth_136 : decode cX3_layBoth 136 = .ok (.iload 4, 2) := by decide +kernel
theorem dX3_layBoth_138 : decode cX3_layBoth 138 = .ok (.invokevirtual 101, 3) := by decide +kernel
theorem dX3_layBoth_141 : decode cX3_layBoth 141 = .ok (.invokevirtual 164, 3) := by decide +kernel
theorem dX3_layBoth_144 : decode cX3_layBoth 144 = .ok (.iinc 4 1, 3) := by decide +kernel
theorem dX3_layBoth_147 : decode cX3_layBoth 147 = .ok (.goto (-54), 3) := by decide +kernel
theorem dX3_layBoth_150 : decode cX3_layBoth 150 = .ok (.return_, 1) := by decide +kernel
theorem dX3_both_0 : decode cX3_both 0 = .ok (.aload_n 0, 1) := by decide +kernel
theorem dX3_both_1 : decode cX3_both 1 = .ok (.iload_n 1, 1) := by decide +kernel
theorem dX3_both_2 : decode cX3_both 2 = .ok (.invokevirtual 160, 3) := by decide +kernel
theorem dX3_both_5 : decode cX3_both 5 = .ok (.ifCond .eq 11, 3) := by decide +kernel
theorem dX3_both_8 : decode cX3_both 8 = .ok (.aload_n 0, 1) := by decide +kernel
theorem dX3_both_9 : decode cX3_both 9 = .ok (.iload_n 2, 1) := by decide +kernel
theorem dX3_both_10 : decode cX3_both 10 = .ok (.invokevirtual 160, 3) := by decide +kernel
theorem dX3_both_13 : decode cX3_both 13 = .ok (.ifCond .ne 6, 3) := by decide +kernel
theorem dX3_both_16 : decode cX3_both 16 = .ok (.bipush (-101), 2) := by decide +kernel
theorem dX3_both_18 : decode cX3_both 18 = .ok (.ireturn, 1) := by decide +kernel
theorem dX3_both_19 : decode cX3_both 19 = .ok (.iload_n 3, 1) := by decide +kernel
theorem dX3_both_20 : decode cX3_both 20 = .ok (.iconst 0, 1) := by decide +kernel
theorem dX3_both_21 : decode cX3_both 21 = .ok (.iconst 2, 1) := by decide +kernel
theorem dX3_both_22 : decode cX3_both 22 = .ok (.invokestatic 81, 3) := by decide +kernel
theorem dX3_both_25 : decode cX3_both 25 = .ok (.ifCond .ne 6, 3) := by decide +kernel
theorem dX3_both_28 : decode cX3_both 28 = .ok (.bipush (-102), 2) := by decide +kernel
theorem dX3_both_30 : decode cX3_both 30 = .ok (.ireturn, 1) := by decide +kernel
theorem dX3_both_31 : decode cX3_both 31 = .ok (.aload_n 0, 1) := by decide +kernel
theorem dX3_both_32 : decode cX3_both 32 = .ok (.getfield 20, 3) := by decide +kernel
theorem dX3_both_35 : decode cX3_both 35 = .ok (.bipush 20, 2) := by decide +kernel
theorem dX3_both_37 : decode cX3_both 37 = .ok (.if_icmp .eq 32, 3) := by decide +kernel
theorem dX3_both_40 : decode cX3_both 40 = .ok (.iload_n 3, 1) := by decide +kernel
theorem dX3_both_41 : decode cX3_both 41 = .ok (.ifCond .ne 31, 3) := by decide +kernel
theorem dX3_both_44 : decode cX3_both 44 = .ok (.aload_n 0, 1) := by decide +kernel
theorem dX3_both_45 : decode cX3_both 45 = .ok (.getfield 23, 3) := by decide +kernel
theorem dX3_both_48 : decode cX3_both 48 = .ok (.iload_n 1, 1) := by decide +kernel
theorem dX3_both_49 : decode cX3_both 49 = .ok (.iaload, 1) := by decide +kernel
theorem dX3_both_50 : decode cX3_both 50 = .ok (.aload_n 0, 1) := by decide +kernel
theorem dX3_both_51 : decode cX3_both 51 = .ok (.getfield 23, 3) := by decide +kernel
theorem dX3_both_54 : decode cX3_both 54 = .ok (.iload_n 2, 1) := by decide +kernel
theorem dX3_both_55 : decode cX3_both 55 = .ok (.iaload, 1) := by decide +kernel
theorem dX3_both_56 : decode cX3_both 56 = .ok (.iadd, 1) := by decide +kernel
theorem dX3_both_57 : decode cX3_both 57 = .ok (.aload_n 0, 1) := by decide +kernel
theorem dX3_both_58 : decode cX3_both 58 = .ok (.iload_n 1, 1) := by decide +kernel
theorem dX3_both_59 : decode cX3_both 59 = .ok (.iload_n 2, 1) := by decide +kernel
theorem dX3_both_60 : decode cX3_both 60 = .ok (.invokevirtual 176, 3) := by decide +kernel
theorem dX3_both_63 : decode cX3_both 63 = .ok (.isub, 1) := by decide +kernel
theorem dX3_both_64 : decode cX3_both 64 = .ok (.bipush 24, 2) := by decide +kernel
theorem dX3_both_66 : decode cX3_both 66 = .ok (.if_icmp .le 6, 3) := by decide +kernel
theorem dX3_both_69 : decode cX3_both 69 = .ok (.bipush (-104), 2) := by decide +kernel
theorem dX3_both_71 : decode cX3_both 71 = .ok (.ireturn, 1) := by decide +kernel
theorem dX3_both_72 : decode cX3_both 72 = .ok (.aload_n 0, 1) := by decide +kernel
theorem dX3_both_73 : decode cX3_both 73 = .ok (.iload_n 1, 1) := by decide +kernel
theorem dX3_both_74 : decode cX3_both 74 = .ok (.iload_n 2, 1) := by decide +kernel
theorem dX3_both_75 : decode cX3_both 75 = .ok (.iload_n 3, 1) := by decide +kernel
theorem dX3_both_76 : decode cX3_both 76 = .ok (.invokevirtual 179, 3) := by decide +kernel
theorem dX3_both_79 : decode cX3_both 79 = .ok (.aload_n 0, 1) := by decide +kernel
theorem dX3_both_80 : decode cX3_both 80 = .ok (.iload_n 1, 1) := by decide +kernel
theorem dX3_both_81 : decode cX3_both 81 = .ok (.iload_n 2, 1) := by decide +kernel
theorem dX3_both_82 : decode cX3_both 82 = .ok (.invokevirtual 167, 3) := by decide +kernel
theorem dX3_both_85 : decode cX3_both 85 = .ok (.aload_n 0, 1) := by decide +kernel
theorem dX3_both_86 : decode cX3_both 86 = .ok (.bipush 21, 2) := by decide +kernel
theorem dX3_both_88 : decode cX3_both 88 = .ok (.invokevirtual 170, 3) := by decide +kernel
theorem dX3_both_91 : decode cX3_both 91 = .ok (.ireturn, 1) := by decide +kernel
theorem dX3_chosen_0 : decode cX3_chosen 0 = .ok (.aload_n 0, 1) := by decide +kernel
theorem dX3_chosen_1 : decode cX3_chosen 1 = .ok (.iload_n 1, 1) := by decide +kernel
theorem dX3_chosen_2 : decode cX3_chosen 2 = .ok (.invokevirtual 160, 3) := by decide +kernel
theorem dX3_chosen_5 : decode cX3_chosen 5 = .ok (.ifCond .ne 6, 3) := by decide +kernel
theorem dX3_chosen_8 : decode cX3_chosen 8 = .ok (.bipush (-101), 2) := by decide +kernel
theorem dX3_chosen_10 : decode cX3_chosen 10 = .ok (.ireturn, 1) := by decide +kernel
theorem dX3_chosen_11 : decode cX3_chosen 11 = .ok (.iload_n 2, 1) := by decide +kernel
theorem dX3_chosen_12 : decode cX3_chosen 12 = .ok (.iconst 1, 1) := by decide +kernel
theorem dX3_chosen_13 : decode cX3_chosen 13 = .ok (.sipush 999, 3) := by decide +kernel
theorem dX3_chosen_16 : decode cX3_chosen 16 = .ok (.invokestatic 81, 3) := by decide +kernel
theorem dX3_chosen_19 : decode cX3_chosen 19 = .ok (.ifCond .eq 14, 3) := by decide +kernel
theorem dX3_chosen_22 : decode cX3_chosen 22 = .ok (.iload_n 3, 1) := by decide +kernel
theorem dX3_chosen_23 : decode cX3_chosen 23 = .ok (.iconst 0, 1) := by decide +kernel
theorem dX3_chosen_24 : decode cX3_chosen 24 = .ok (.iload_n 2, 1) := by decide +kernel
theorem dX3_chosen_25 : decode cX3_chosen 25 = .ok (.iconst 1, 1) := by decide +kernel
theorem dX3_chosen_26 : decode cX3_chosen 26 = .ok (.isub, 1) := by decide +kernel
theorem dX3_chosen_27 : decode cX3_chosen 27 = .ok (.invokestatic 81, 3) := by decide +kernel
theorem dX3_chosen_30 : decode cX3_chosen 30 = .ok (.ifCond .ne 6, 3) := by decide +kernel
theorem dX3_chosen_33 : decode cX3_chosen 33 = .ok (.bipush (-102), 2) := by decide +kernel
theorem dX3_chosen_35 : decode cX3_chosen 35 = .ok (.ireturn, 1) := by decide +kernel
theorem dX3_chosen_36 : decode cX3_chosen 36 = .ok (.aload_n 0, 1) := by decide +kernel
theorem dX3_chosen_37 : decode cX3_chosen 37 = .ok (.getfield 20, 3) := by decide +kernel
theorem dX3_chosen_40 : decode cX3_chosen 40 = .ok (.bipush 20, 2) := by decide +kernel
theorem dX3_chosen_42 : decode cX3_chosen 42 = .ok (.if_icmp .ne 6, 3) := by decide +kernel
theorem dX3_chosen_45 : decode cX3_chosen 45 = .ok (.bipush (-104), 2) := by decide +kernel
theorem dX3_chosen_47 : decode cX3_chosen 47 = .ok (.ireturn, 1) := by decide +kernel
theorem dX3_chosen_48 : decode cX3_chosen 48 = .ok (.aload_n 0, 1) := by decide +kernel
theorem dX3_chosen_49 : decode cX3_chosen 49 = .ok (.getfield 23, 3) := by decide +kernel
theorem dX3_chosen_52 : decode cX3_chosen 52 = .ok (.bipush 21, 2) := by decide +kernel
theorem dX3_chosen_54 : decode cX3_chosen 54 = .ok (.iconst 0, 1) := by decide +kernel
theorem dX3_chosen_55 : decode cX3_chosen 55 = .ok (.iastore, 1) := by decide +kernel
theorem dX3_chosen_56 : decode cX3_chosen 56 = .ok (.iconst 0, 1) := by decide +kernel
theorem dX3_chosen_57 : decode cX3_chosen 57 = .ok (.istore 4, 2) := by decide +kernel
theorem dX3_chosen_59 : decode cX3_chosen 59 = .ok (.iload 4, 2) := by decide +kernel
theorem dX3_chosen_61 : decode cX3_chosen 61 = .ok (.aload_n 0, 1) := by decide +kernel
theorem dX3_chosen_62 : decode cX3_chosen 62 = .ok (.getfield 23, 3) := by decide +kernel
theorem dX3_chosen_65 : decode cX3_chosen 65 = .ok (.iload_n 1, 1) := by decide +kernel
theorem dX3_chosen_66 : decode cX3_chosen 66 = .ok (.iaload, 1) := by decide +kernel
theorem dX3_chosen_67 : decode cX3_chosen 67 = .ok (.if_icmp .ge 42, 3) := by decide +kernel
theorem dX3_chosen_70 : decode cX3_chosen 70 = .ok (.aload_n 0, 1) := by decide +kernel
theorem dX3_chosen_71 : decode cX3_chosen 71 = .ok (.iload_n 1, 1) := by decide +kernel
theorem dX3_chosen_72 : decode cX3_chosen 72 = .ok (.iload 4, 2) := by decide +kernel
theorem dX3_chosen_74 : decode cX3_chosen 74 = .ok (.invokevirtual 101, 3) := by decide +kernel
theorem dX3_chosen_77 : decode cX3_chosen 77 = .ok (.iload_n 2, 1) := by decide +kernel
theorem dX3_chosen_78 : decode cX3_chosen 78 = .ok (.irem, 1) := by decide +kernel
theorem dX3_chosen_79 : decode cX3_chosen 79 = .ok (.iload_n 3, 1) := by decide +kernel
theorem dX3_chosen_80 : decode cX3_chosen 80 = .ok (.if_icmp .ne 23, 3) := by decide +kernel
theorem dX3_chosen_83 : decode cX3_chosen 83 = .ok (.aload_n 0, 1) := by decide +kernel
theorem dX3_chosen_84 : decode cX3_chosen 84 = .ok (.bipush 21, 2) := by decide +kernel
theorem dX3_chosen_86 : decode cX3_chosen 86 = .ok (.aload_n 0, 1) := by decide +kernel
theorem dX3_chosen_87 : decode cX3_chosen 87 = .ok (.iload_n 1, 1) := by decide +kernel
theorem dX3_chosen_88 : decode cX3_chosen 88 = .ok (.iload 4, 2) := by decide +kernel
theorem dX3_chosen_90 : decode cX3_chosen 90 = .ok (.invokevirtual 98, 3) := by decide +kernel
theorem dX3_chosen_93 : decode cX3_chosen 93 = .ok (.aload_n 0, 1) := by decide +kernel
theorem dX3_chosen_94 : decode cX3_chosen 94 = .ok (.iload_n 1, 1) := by decide +kernel
theorem dX3_chosen_95 : decode cX3_chosen 95 = .ok (.iload 4, 2) := by decide +kernel
theorem dX3_chosen_97 : decode cX3_chosen 97 = .ok (.invokevirtual 101, 3) := by decide +kernel
theorem dX3_chosen_100 : decode cX3_chosen 100 = .ok (.invokevirtual 164, 3) := by decide +kernel
theorem dX3_chosen_103 : decode cX3_chosen 103 = .ok (.iinc 4 1, 3) := by decide +kernel
theorem dX3_chosen_106 : decode cX3_chosen 106 = .ok (.goto (-47), 3) := by decide +kernel
theorem dX3_chosen_109 : decode cX3_chosen 109 = .ok (.aload_n 0, 1) := by decide +kernel
theorem dX3_chosen_110 : decode cX3_chosen 110 = .ok (.iload_n 1, 1) := by decide +kernel
theorem dX3_chosen_111 : decode cX3_chosen 111 = .ok (.iconst (-1), 1) := by decide +kernel
theorem dX3_chosen_112 : decode cX3_chosen 112 = .ok (.invokevirtual 167, 3) := by decide +kernel
theorem dX3_chosen_115 : decode cX3_chosen 115 = .ok (.aload_n 0, 1) := by decide +kernel
theorem dX3_chosen_116 : decode cX3_chosen 116 = .ok (.bipush 21, 2) := by decide +kernel
theorem dX3_chosen_118 : decode cX3_chosen 118 = .ok (.invokevirtual 170, 3) := by decide +kernel
theorem dX3_chosen_121 : decode cX3_chosen 121 = .ok (.ireturn, 1) := by decide +kernel
theorem dX3_forget_0 : decode cX3_forget 0 = .ok (.aload_n 0, 1) := by decide +kernel
theorem dX3_forget_1 : decode cX3_forget 1 = .ok (.getfield 20, 3) := by decide +kernel
theorem dX3_forget_4 : decode cX3_forget 4 = .ok (.iconst 1, 1) := by decide +kernel
theorem dX3_forget_5 : decode cX3_forget 5 = .ok (.if_icmp .ne 6, 3) := by decide +kernel
theorem dX3_forget_8 : decode cX3_forget 8 = .ok (.bipush (-103), 2) := by decide +kernel
theorem dX3_forget_10 : decode cX3_forget 10 = .ok (.ireturn, 1) := by decide +kernel
theorem dX3_forget_11 : decode cX3_forget 11 = .ok (.aload_n 0, 1) := by decide +kernel
theorem dX3_forget_12 : decode cX3_forget 12 = .ok (.dup, 1) := by decide +kernel
theorem dX3_forget_13 : decode cX3_forget 13 = .ok (.getfield 20, 3) := by decide +kernel
theorem dX3_forget_16 : decode cX3_forget 16 = .ok (.iconst 1, 1) := by decide +kernel
theorem dX3_forget_17 : decode cX3_forget 17 = .ok (.isub, 1) := by decide +kernel
theorem dX3_forget_18 : decode cX3_forget 18 = .ok (.putfield 20, 3) := by decide +kernel
theorem dX3_forget_21 : decode cX3_forget 21 = .ok (.aload_n 0, 1) := by decide +kernel
theorem dX3_forget_22 : decode cX3_forget 22 = .ok (.getfield 20, 3) := by decide +kernel
theorem dX3_forget_25 : decode cX3_forget 25 = .ok (.ireturn, 1) := by decide +kernel
theorem dX3_steadOf_0 : decode cX3_steadOf 0 = .ok (.sipush 2016, 3) := by decide +kernel
theorem dX3_steadOf_3 : decode cX3_steadOf 3 = .ok (.iload_n 1, 1) := by decide +kernel
theorem dX3_steadOf_4 : decode cX3_steadOf 4 = .ok (.iadd, 1) := by decide +kernel
theorem dX3_steadOf_5 : decode cX3_steadOf 5 = .ok (.istore_n 2, 1) := by decide +kernel
theorem dX3_steadOf_6 : decode cX3_steadOf 6 = .ok (.aload_n 0, 1) := by decide +kernel
theorem dX3_steadOf_7 : decode cX3_steadOf 7 = .ok (.bipush 21, 2) := by decide +kernel
theorem dX3_steadOf_9 : decode cX3_steadOf 9 = .ok (.aload_n 0, 1) := by decide +kernel
theorem dX3_steadOf_10 : decode cX3_steadOf 10 = .ok (.getfield 41, 3) := by decide +kernel
theorem dX3_steadOf_13 : decode cX3_steadOf 13 = .ok (.iload_n 2, 1) := by decide +kernel
theorem dX3_steadOf_14 : decode cX3_steadOf 14 = .ok (.iaload, 1) := by decide +kernel
theorem dX3_steadOf_15 : decode cX3_steadOf 15 = .ok (.invokevirtual 98, 3) := by decide +kernel
theorem dX3_steadOf_18 : decode cX3_steadOf 18 = .ok (.istore_n 3, 1) := by decide +kernel
theorem dX3_steadOf_19 : decode cX3_steadOf 19 = .ok (.iconst 0, 1) := by decide +kernel
theorem dX3_steadOf_20 : decode cX3_steadOf 20 = .ok (.istore 4, 2) := by decide +kernel
theorem dX3_steadOf_22 : decode cX3_steadOf 22 = .ok (.iload 4, 2) := by decide +kernel
theorem dX3_steadOf_24 : decode cX3_steadOf 24 = .ok (.aload_n 0, 1) := by decide +kernel
theorem dX3_steadOf_25 : decode cX3_steadOf 25 = .ok (.getfield 32, 3) := by decide +kernel
theorem dX3_steadOf_28 : decode cX3_steadOf 28 = .ok (.bipush 20, 2) := by decide +kernel
theorem dX3_steadOf_30 : decode cX3_steadOf 30 = .ok (.iaload, 1) := by decide +kernel
theorem dX3_steadOf_31 : decode cX3_steadOf 31 = .ok (.if_icmp .ge 70, 3) := by decide +kernel
theorem dX3_steadOf_34 : decode cX3_steadOf 34 = .ok (.sipush 1920, 3) := by decide +kernel
theorem dX3_steadOf_37 : decode cX3_steadOf 37 = .ok (.iload 4, 2) := by decide +kernel
theorem dX3_steadOf_39 : decode cX3_steadOf 39 = .ok (.iadd, 1) := by decide +kernel
theorem dX3_steadOf_40 : decode cX3_steadOf 40 = .ok (.istore 5, 2) := by decide +kernel
theorem dX3_steadOf_42 : decode cX3_steadOf 42 = .ok (.aload_n 0, 1) := by decide +kernel
theorem dX3_steadOf_43 : decode cX3_steadOf 43 = .ok (.getfield 50, 3) := by decide +kernel
theorem dX3_steadOf_46 : decode cX3_steadOf 46 = .ok (.iload 5, 2) := by decide +kernel
theorem dX3_steadOf_48 : decode cX3_steadOf 48 = .ok (.baload, 1) := by decide +kernel
theorem dX3_steadOf_49 : decode cX3_steadOf 49 = .ok (.ifCond .eq 46, 3) := by decide +kernel
theorem dX3_steadOf_52 : decode cX3_steadOf 52 = .ok (.aload_n 0, 1) := by decide +kernel
theorem dX3_steadOf_53 : decode cX3_steadOf 53 = .ok (.getfield 35, 3) := by decide +kernel
theorem dX3_steadOf_56 : decode cX3_steadOf 56 = .ok (.iload 5, 2) := by decide +kernel
theorem dX3_steadOf_58 : decode cX3_steadOf 58 = .ok (.iaload, 1) := by decide +kernel
theorem dX3_steadOf_59 : decode cX3_steadOf 59 = .ok (.aload_n 0, 1) := by decide +kernel
theorem dX3_steadOf_60 : decode cX3_steadOf 60 = .ok (.getfield 35, 3) := by decide +kernel
theorem dX3_steadOf_63 : decode cX3_steadOf 63 = .ok (.iload_n 2, 1) := by decide +kernel
theorem dX3_steadOf_64 : decode cX3_steadOf 64 = .ok (.iaload, 1) := by decide +kernel
theorem dX3_steadOf_65 : decode cX3_steadOf 65 = .ok (.if_icmp .ne 30, 3) := by decide +kernel
theorem dX3_steadOf_68 : decode cX3_steadOf 68 = .ok (.aload_n 0, 1) := by decide +kernel
theorem dX3_steadOf_69 : decode cX3_steadOf 69 = .ok (.iload_n 2, 1) := by decide +kernel
theorem dX3_steadOf_70 : decode cX3_steadOf 70 = .ok (.iload_n 3, 1) := by decide +kernel
theorem dX3_steadOf_71 : decode cX3_steadOf 71 = .ok (.iload 5, 2) := by decide +kernel
theorem dX3_steadOf_73 : decode cX3_steadOf 73 = .ok (.aload_n 0, 1) := by decide +kernel
theorem dX3_steadOf_74 : decode cX3_steadOf 74 = .ok (.bipush 20, 2) := by decide +kernel
theorem dX3_steadOf_76 : decode cX3_steadOf 76 = .ok (.aload_n 0, 1) := by decide +kernel
theorem dX3_steadOf_77 : decode cX3_steadOf 77 = .ok (.getfield 41, 3) := by decide +kernel
theorem dX3_steadOf_80 : decode cX3_steadOf 80 = .ok (.iload 5, 2) := by decide +kernel
theorem dX3_steadOf_82 : decode cX3_steadOf 82 = .ok (.iaload, 1) := by decide +kernel
theorem dX3_steadOf_83 : decode cX3_steadOf 83 = .ok (.invokevirtual 98, 3) := by decide +kernel
theorem dX3_steadOf_86 : decode cX3_steadOf 86 = .ok (.invokevirtual 182, 3) := by decide +kernel
theorem dX3_steadOf_89 : decode cX3_steadOf 89 = .ok (.ifCond .eq 6, 3) := by decide +kernel
theorem dX3_steadOf_92 : decode cX3_steadOf 92 = .ok (.iload 4, 2) := by decide +kernel
theorem dX3_steadOf_94 : decode cX3_steadOf 94 = .ok (.ireturn, 1) := by decide +kernel
theorem dX3_steadOf_95 : decode cX3_steadOf 95 = .ok (.iinc 4 1, 3) := by decide +kernel
theorem dX3_steadOf_98 : decode cX3_steadOf 98 = .ok (.goto (-76), 3) := by decide +kernel
theorem dX3_steadOf_101 : decode cX3_steadOf 101 = .ok (.iconst (-1), 1) := by decide +kernel
theorem dX3_steadOf_102 : decode cX3_steadOf 102 = .ok (.ireturn, 1) := by decide +kernel
theorem dX3_isStead_0 : decode cX3_isStead 0 = .ok (.aload_n 0, 1) := by decide +kernel
theorem dX3_isStead_1 : decode cX3_isStead 1 = .ok (.getfield 35, 3) := by decide +kernel
theorem dX3_isStead_4 : decode cX3_isStead 4 = .ok (.iload_n 1, 1) := by decide +kernel
theorem dX3_isStead_5 : decode cX3_isStead 5 = .ok (.iaload, 1) := by decide +kernel
theorem dX3_isStead_6 : decode cX3_isStead 6 = .ok (.lookupswitch 58 #[(0, 26), (1, 38)], 26) := by decide +kernel
theorem dX3_isStead_32 : decode cX3_isStead 32 = .ok (.iload_n 2, 1) := by decide +kernel
theorem dX3_isStead_33 : decode cX3_isStead 33 = .ok (.iload 4, 2) := by decide +kernel
theorem dX3_isStead_35 : decode cX3_isStead 35 = .ok (.if_icmp .ne 7, 3) := by decide +kernel
theorem dX3_isStead_38 : decode cX3_isStead 38 = .ok (.iconst 1, 1) := by decide +kernel
theorem dX3_isStead_39 : decode cX3_isStead 39 = .ok (.goto 4, 3) := by decide +kernel
theorem dX3_isStead_42 : decode cX3_isStead 42 = .ok (.iconst 0, 1) := by decide +kernel
theorem dX3_isStead_43 : decode cX3_isStead 43 = .ok (.ireturn, 1) := by decide +kernel
theorem dX3_isStead_44 : decode cX3_isStead 44 = .ok (.aload_n 0, 1) := by decide +kernel
theorem dX3_isStead_45 : decode cX3_isStead 45 = .ok (.iload_n 2, 1) := by decide +kernel
theorem dX3_isStead_46 : decode cX3_isStead 46 = .ok (.invokevirtual 85, 3) := by decide +kernel
theorem dX3_isStead_49 : decode cX3_isStead 49 = .ok (.aload_n 0, 1) := by decide +kernel
theorem dX3_isStead_50 : decode cX3_isStead 50 = .ok (.iload 4, 2) := by decide +kernel
theorem dX3_isStead_52 : decode cX3_isStead 52 = .ok (.invokevirtual 85, 3) := by decide +kernel
theorem dX3_isStead_55 : decode cX3_isStead 55 = .ok (.if_icmp .ne 7, 3) := by decide +kernel
theorem dX3_isStead_58 : decode cX3_isStead 58 = .ok (.iconst 1, 1) := by decide +kernel
theorem dX3_isStead_59 : decode cX3_isStead 59 = .ok (.goto 4, 3) := by decide +kernel
theorem dX3_isStead_62 : decode cX3_isStead 62 = .ok (.iconst 0, 1) := by decide +kernel
theorem dX3_isStead_63 : decode cX3_isStead 63 = .ok (.ireturn, 1) := by decide +kernel
theorem dX3_isStead_64 : decode cX3_isStead 64 = .ok (.iconst 1, 1) := by decide +kernel
theorem dX3_isStead_65 : decode cX3_isStead 65 = .ok (.iconst 5, 1) := by decide +kernel
theorem dX3_isStead_66 : decode cX3_isStead 66 = .ok (.aload_n 0, 1) := by decide +kernel
theorem dX3_isStead_67 : decode cX3_isStead 67 = .ok (.getfield 38, 3) := by decide +kernel
theorem dX3_isStead_70 : decode cX3_isStead 70 = .ok (.iload_n 1, 1) := by decide +kernel
theorem dX3_isStead_71 : decode cX3_isStead 71 = .ok (.iaload, 1) := by decide +kernel
theorem dX3_isStead_72 : decode cX3_isStead 72 = .ok (.imul, 1) := by decide +kernel
theorem dX3_isStead_73 : decode cX3_isStead 73 = .ok (.ishl, 1) := by decide +kernel
theorem dX3_isStead_74 : decode cX3_isStead 74 = .ok (.iconst 1, 1) := by decide +kernel
theorem dX3_isStead_75 : decode cX3_isStead 75 = .ok (.isub, 1) := by decide +kernel
theorem dX3_isStead_76 : decode cX3_isStead 76 = .ok (.istore 5, 2) := by decide +kernel
theorem dX3_isStead_78 : decode cX3_isStead 78 = .ok (.aload_n 0, 1) := by decide +kernel
theorem dX3_isStead_79 : decode cX3_isStead 79 = .ok (.getfield 38, 3) := by decide +kernel
theorem dX3_isStead_82 : decode cX3_isStead 82 = .ok (.iload_n 1, 1) := by decide +kernel
theorem dX3_isStead_83 : decode cX3_isStead 83 = .ok (.iaload, 1) := by decide +kernel
theorem dX3_isStead_84 : decode cX3_isStead 84 = .ok (.aload_n 0, 1) := by decide +kernel
theorem dX3_isStead_85 : decode cX3_isStead 85 = .ok (.getfield 38, 3) := by decide +kernel
theorem dX3_isStead_88 : decode cX3_isStead 88 = .ok (.iload_n 3, 1) := by decide +kernel
theorem dX3_isStead_89 : decode cX3_isStead 89 = .ok (.iaload, 1) := by decide +kernel
theorem dX3_isStead_90 : decode cX3_isStead 90 = .ok (.if_icmp .ne 27, 3) := by decide +kernel
theorem dX3_isStead_93 : decode cX3_isStead 93 = .ok (.aload_n 0, 1) := by decide +kernel
theorem dX3_isStead_94 : decode cX3_isStead 94 = .ok (.iload_n 2, 1) := by decide +kernel
theorem dX3_isStead_95 : decode cX3_isStead 95 = .ok (.invokevirtual 85, 3) := by decide +kernel
theorem dX3_isStead_98 : decode cX3_isStead 98 = .ok (.iload 5, 2) := by decide +kernel
theorem dX3_isStead_100 : decode cX3_isStead 100 = .ok (.iand, 1) := by decide +kernel
theorem dX3_isStead_101 : decode cX3_isStead 101 = .ok (.aload_n 0, 1) := by decide +kernel
theorem dX3_isStead_102 : decode cX3_isStead 102 = .ok (.iload 4, 2) := by decide +kernel
theorem dX3_isStead_104 : decode cX3_isStead 104 = .ok (.invokevirtual 85, 3) := by decide +kernel
theorem dX3_isStead_107 : decode cX3_isStead 107 = .ok (.iload 5, 2) := by decide +kernel
theorem dX3_isStead_109 : decode cX3_isStead 109 = .ok (.iand, 1) := by decide +kernel
theorem dX3_isStead_110 : decode cX3_isStead 110 = .ok (.if_icmp .ne 7, 3) := by decide +kernel
theorem dX3_isStead_113 : decode cX3_isStead 113 = .ok (.iconst 1, 1) := by decide +kernel
theorem dX3_isStead_114 : decode cX3_isStead 114 = .ok (.goto 4, 3) := by decide +kernel
theorem dX3_isStead_117 : decode cX3_isStead 117 = .ok (.iconst 0, 1) := by decide +kernel
theorem dX3_isStead_118 : decode cX3_isStead 118 = .ok (.ireturn, 1) := by decide +kernel
theorem dX3_tellEdit_0 : decode cX3_tellEdit 0 = .ok (.aload_n 0, 1) := by decide +kernel
theorem dX3_tellEdit_1 : decode cX3_tellEdit 1 = .ok (.bipush 21, 2) := by decide +kernel
theorem dX3_tellEdit_3 : decode cX3_tellEdit 3 = .ok (.invokevirtual 139, 3) := by decide +kernel
theorem dX3_tellEdit_6 : decode cX3_tellEdit 6 = .ok (.iconst 0, 1) := by decide +kernel
theorem dX3_tellEdit_7 : decode cX3_tellEdit 7 = .ok (.istore_n 1, 1) := by decide +kernel
theorem dX3_tellEdit_8 : decode cX3_tellEdit 8 = .ok (.iload_n 1, 1) := by decide +kernel
theorem dX3_tellEdit_9 : decode cX3_tellEdit 9 = .ok (.aload_n 0, 1) := by decide +kernel
theorem dX3_tellEdit_10 : decode cX3_tellEdit 10 = .ok (.getfield 32, 3) := by decide +kernel
theorem dX3_tellEdit_13 : decode cX3_tellEdit 13 = .ok (.bipush 21, 2) := by decide +kernel
theorem dX3_tellEdit_15 : decode cX3_tellEdit 15 = .ok (.iaload, 1) := by decide +kernel
theorem dX3_tellEdit_16 : decode cX3_tellEdit 16 = .ok (.if_icmp .ge 101, 3) := by decide +kernel
theorem dX3_tellEdit_19 : decode cX3_tellEdit 19 = .ok (.aload_n 0, 1) := by decide +kernel
theorem dX3_tellEdit_20 : decode cX3_tellEdit 20 = .ok (.bipush 21, 2) := by decide +kernel
theorem dX3_tellEdit_22 : decode cX3_tellEdit 22 = .ok (.iload_n 1, 1) := by decide +kernel
theorem dX3_tellEdit_23 : decode cX3_tellEdit 23 = .ok (.bipush 20, 2) := by decide +kernel
theorem dX3_tellEdit_25 : decode cX3_tellEdit 25 = .ok (.invokevirtual 143, 3) := by decide +kernel
theorem dX3_tellEdit_28 : decode cX3_tellEdit 28 = .ok (.istore_n 2, 1) := by decide +kernel
theorem dX3_tellEdit_29 : decode cX3_tellEdit 29 = .ok (.iload_n 2, 1) := by decide +kernel
theorem dX3_tellEdit_30 : decode cX3_tellEdit 30 = .ok (.iconst (-1), 1) := by decide +kernel
theorem dX3_tellEdit_31 : decode cX3_tellEdit 31 = .ok (.if_icmp .eq 19, 3) := by decide +kernel
theorem dX3_tellEdit_34 : decode cX3_tellEdit 34 = .ok (.iload_n 1, 1) := by decide +kernel
theorem dX3_tellEdit_35 : decode cX3_tellEdit 35 = .ok (.aload_n 0, 1) := by decide +kernel
theorem dX3_tellEdit_36 : decode cX3_tellEdit 36 = .ok (.bipush 21, 2) := by decide +kernel
theorem dX3_tellEdit_38 : decode cX3_tellEdit 38 = .ok (.iload_n 1, 1) := by decide +kernel
theorem dX3_tellEdit_39 : decode cX3_tellEdit 39 = .ok (.bipush 20, 2) := by decide +kernel
theorem dX3_tellEdit_41 : decode cX3_tellEdit 41 = .ok (.iload_n 2, 1) := by decide +kernel
theorem dX3_tellEdit_42 : decode cX3_tellEdit 42 = .ok (.invokevirtual 146, 3) := by decide +kernel
theorem dX3_tellEdit_45 : decode cX3_tellEdit 45 = .ok (.iadd, 1) := by decide +kernel
theorem dX3_tellEdit_46 : decode cX3_tellEdit 46 = .ok (.istore_n 1, 1) := by decide +kernel
theorem dX3_tellEdit_47 : decode cX3_tellEdit 47 = .ok (.goto 67, 3) := by decide +kernel
theorem dX3_tellEdit_50 : decode cX3_tellEdit 50 = .ok (.sipush 2016, 3) := by decide +kernel
theorem dX3_tellEdit_53 : decode cX3_tellEdit 53 = .ok (.iload_n 1, 1) := by decide +kernel
theorem dX3_tellEdit_54 : decode cX3_tellEdit 54 = .ok (.iadd, 1) := by decide +kernel
theorem dX3_tellEdit_55 : decode cX3_tellEdit 55 = .ok (.istore_n 3, 1) := by decide +kernel
theorem dX3_tellEdit_56 : decode cX3_tellEdit 56 = .ok (.aload_n 0, 1) := by decide +kernel
theorem dX3_tellEdit_57 : decode cX3_tellEdit 57 = .ok (.iload_n 1, 1) := by decide +kernel
theorem dX3_tellEdit_58 : decode cX3_tellEdit 58 = .ok (.invokevirtual 185, 3) := by decide +kernel
theorem dX3_tellEdit_61 : decode cX3_tellEdit 61 = .ok (.istore 4, 2) := by decide +kernel
theorem dX3_tellEdit_63 : decode cX3_tellEdit 63 = .ok (.iload 4, 2) := by decide +kernel
theorem dX3_tellEdit_65 : decode cX3_tellEdit 65 = .ok (.iconst (-1), 1) := by decide +kernel
theorem dX3_tellEdit_66 : decode cX3_tellEdit 66 = .ok (.if_icmp .ne 21, 3) := by decide +kernel
theorem dX3_tellEdit_69 : decode cX3_tellEdit 69 = .ok (.aload_n 0, 1) := by decide +kernel
theorem dX3_tellEdit_70 : decode cX3_tellEdit 70 = .ok (.iload_n 3, 1) := by decide +kernel
theorem dX3_tellEdit_71 : decode cX3_tellEdit 71 = .ok (.invokevirtual 150, 3) := by decide +kernel
theorem dX3_tellEdit_74 : decode cX3_tellEdit 74 = .ok (.aload_n 0, 1) := by decide +kernel
theorem dX3_tellEdit_75 : decode cX3_tellEdit 75 = .ok (.dup, 1) := by decide +kernel
theorem dX3_tellEdit_76 : decode cX3_tellEdit 76 = .ok (.getfield 188, 3) := by decide +kernel
theorem dX3_tellEdit_79 : decode cX3_tellEdit 79 = .ok (.iconst 1, 1) := by decide +kernel
theorem dX3_tellEdit_80 : decode cX3_tellEdit 80 = .ok (.iadd, 1) := by decide +kernel
theorem dX3_tellEdit_81 : decode cX3_tellEdit 81 = .ok (.putfield 188, 3) := by decide +kernel
theorem dX3_tellEdit_84 : decode cX3_tellEdit 84 = .ok (.goto 20, 3) := by decide +kernel
theorem dX3_tellEdit_87 : decode cX3_tellEdit 87 = .ok (.aload_n 0, 1) := by decide +kernel
theorem dX3_tellEdit_88 : decode cX3_tellEdit 88 = .ok (.getfield 47, 3) := by decide +kernel
theorem dX3_tellEdit_91 : decode cX3_tellEdit 91 = .ok (.iload_n 3, 1) := by decide +kernel
theorem dX3_tellEdit_92 : decode cX3_tellEdit 92 = .ok (.aload_n 0, 1) := by decide +kernel
theorem dX3_tellEdit_93 : decode cX3_tellEdit 93 = .ok (.getfield 47, 3) := by decide +kernel
theorem dX3_tellEdit_96 : decode cX3_tellEdit 96 = .ok (.sipush 1920, 3) := by decide +kernel
theorem dX3_tellEdit_99 : decode cX3_tellEdit 99 = .ok (.iload 4, 2) := by decide +kernel
theorem dX3_tellEdit_101 : decode cX3_tellEdit 101 = .ok (.iadd, 1) := by decide +kernel
theorem dX3_tellEdit_102 : decode cX3_tellEdit 102 = .ok (.iaload, 1) := by decide +kernel
theorem dX3_tellEdit_103 : decode cX3_tellEdit 103 = .ok (.iastore, 1) := by decide +kernel
theorem dX3_tellEdit_104 : decode cX3_tellEdit 104 = .ok (.aload_n 0, 1) := by decide +kernel
theorem dX3_tellEdit_105 : decode cX3_tellEdit 105 = .ok (.getfield 50, 3) := by decide +kernel
theorem dX3_tellEdit_108 : decode cX3_tellEdit 108 = .ok (.iload_n 3, 1) := by decide +kernel
theorem dX3_tellEdit_109 : decode cX3_tellEdit 109 = .ok (.iconst 1, 1) := by decide +kernel
theorem dX3_tellEdit_110 : decode cX3_tellEdit 110 = .ok (.bastore, 1) := by decide +kernel
theorem dX3_tellEdit_111 : decode cX3_tellEdit 111 = .ok (.iinc 1 1, 3) := by decide +kernel
theorem dX3_tellEdit_114 : decode cX3_tellEdit 114 = .ok (.goto (-106), 3) := by decide +kernel
theorem dX3_tellEdit_117 : decode cX3_tellEdit 117 = .ok (.aload_n 0, 1) := by decide +kernel
theorem dX3_tellEdit_118 : decode cX3_tellEdit 118 = .ok (.invokevirtual 191, 3) := by decide +kernel
theorem dX3_tellEdit_121 : decode cX3_tellEdit 121 = .ok (.return_, 1) := by decide +kernel
theorem dX3_takeNew_0 : decode cX3_takeNew 0 = .ok (.aload_n 0, 1) := by decide +kernel
theorem dX3_takeNew_1 : decode cX3_takeNew 1 = .ok (.bipush 20, 2) := by decide +kernel
theorem dX3_takeNew_3 : decode cX3_takeNew 3 = .ok (.bipush 21, 2) := by decide +kernel
theorem dX3_takeNew_5 : decode cX3_takeNew 5 = .ok (.invokevirtual 153, 3) := by decide +kernel
theorem dX3_takeNew_8 : decode cX3_takeNew 8 = .ok (.aload_n 0, 1) := by decide +kernel
theorem dX3_takeNew_9 : decode cX3_takeNew 9 = .ok (.getfield 32, 3) := by decide +kernel
theorem dX3_takeNew_12 : decode cX3_takeNew 12 = .ok (.bipush 20, 2) := by decide +kernel
theorem dX3_takeNew_14 : decode cX3_takeNew 14 = .ok (.aload_n 0, 1) := by decide +kernel
theorem dX3_takeNew_15 : decode cX3_takeNew 15 = .ok (.getfield 32, 3) := by decide +kernel
theorem dX3_takeNew_18 : decode cX3_takeNew 18 = .ok (.bipush 21, 2) := by decide +kernel
theorem dX3_takeNew_20 : decode cX3_takeNew 20 = .ok (.iaload, 1) := by decide +kernel
theorem dX3_takeNew_21 : decode cX3_takeNew 21 = .ok (.iastore, 1) := by decide +kernel
theorem dX3_takeNew_22 : decode cX3_takeNew 22 = .ok (.iconst 0, 1) := by decide +kernel
theorem dX3_takeNew_23 : decode cX3_takeNew 23 = .ok (.istore_n 1, 1) := by decide +kernel
theorem dX3_takeNew_24 : decode cX3_takeNew 24 = .ok (.iload_n 1, 1) := by decide +kernel
theorem dX3_takeNew_25 : decode cX3_takeNew 25 = .ok (.aload_n 0, 1) := by decide +kernel
theorem dX3_takeNew_26 : decode cX3_takeNew 26 = .ok (.getfield 32, 3) := by decide +kernel
theorem dX3_takeNew_29 : decode cX3_takeNew 29 = .ok (.bipush 21, 2) := by decide +kernel
theorem dX3_takeNew_31 : decode cX3_takeNew 31 = .ok (.iaload, 1) := by decide +kernel
theorem dX3_takeNew_32 : decode cX3_takeNew 32 = .ok (.if_icmp .ge 18, 3) := by decide +kernel
theorem dX3_takeNew_35 : decode cX3_takeNew 35 = .ok (.aload_n 0, 1) := by decide +kernel
theorem dX3_takeNew_36 : decode cX3_takeNew 36 = .ok (.bipush 20, 2) := by decide +kernel
theorem dX3_takeNew_38 : decode cX3_takeNew 38 = .ok (.iload_n 1, 1) := by decide +kernel
theorem dX3_takeNew_39 : decode cX3_takeNew 39 = .ok (.bipush 21, 2) := by decide +kernel
theorem dX3_takeNew_41 : decode cX3_takeNew 41 = .ok (.invokevirtual 157, 3) := by decide +kernel
theorem dX3_takeNew_44 : decode cX3_takeNew 44 = .ok (.iinc 1 1, 3) := by decide +kernel
theorem dX3_takeNew_47 : decode cX3_takeNew 47 = .ok (.goto (-23), 3) := by decide +kernel
theorem dX3_takeNew_50 : decode cX3_takeNew 50 = .ok (.return_, 1) := by decide +kernel
theorem dX3_beginEdit_0 : decode cX3_beginEdit 0 = .ok (.aload_n 0, 1) := by decide +kernel
theorem dX3_beginEdit_1 : decode cX3_beginEdit 1 = .ok (.bipush 20, 2) := by decide +kernel
theorem dX3_beginEdit_3 : decode cX3_beginEdit 3 = .ok (.iload_n 1, 1) := by decide +kernel
theorem dX3_beginEdit_4 : decode cX3_beginEdit 4 = .ok (.invokevirtual 153, 3) := by decide +kernel
theorem dX3_beginEdit_7 : decode cX3_beginEdit 7 = .ok (.aload_n 0, 1) := by decide +kernel
theorem dX3_beginEdit_8 : decode cX3_beginEdit 8 = .ok (.getfield 32, 3) := by decide +kernel
theorem dX3_beginEdit_11 : decode cX3_beginEdit 11 = .ok (.bipush 20, 2) := by decide +kernel
theorem dX3_beginEdit_13 : decode cX3_beginEdit 13 = .ok (.aload_n 0, 1) := by decide +kernel
theorem dX3_beginEdit_14 : decode cX3_beginEdit 14 = .ok (.getfield 32, 3) := by decide +kernel
theorem dX3_beginEdit_17 : decode cX3_beginEdit 17 = .ok (.iload_n 1, 1) := by decide +kernel
theorem dX3_beginEdit_18 : decode cX3_beginEdit 18 = .ok (.iaload, 1) := by decide +kernel
theorem dX3_beginEdit_19 : decode cX3_beginEdit 19 = .ok (.iastore, 1) := by decide +kernel
theorem dX3_beginEdit_20 : decode cX3_beginEdit 20 = .ok (.iconst 0, 1) := by decide +kernel
theorem dX3_beginEdit_21 : decode cX3_beginEdit 21 = .ok (.istore_n 2, 1) := by decide +kernel
theorem dX3_beginEdit_22 : decode cX3_beginEdit 22 = .ok (.iload_n 2, 1) := by decide +kernel
theorem dX3_beginEdit_23 : decode cX3_beginEdit 23 = .ok (.aload_n 0, 1) := by decide +kernel
theorem dX3_beginEdit_24 : decode cX3_beginEdit 24 = .ok (.getfield 32, 3) := by decide +kernel
theorem dX3_beginEdit_27 : decode cX3_beginEdit 27 = .ok (.iload_n 1, 1) := by decide +kernel
theorem dX3_beginEdit_28 : decode cX3_beginEdit 28 = .ok (.iaload, 1) := by decide +kernel
theorem dX3_beginEdit_29 : decode cX3_beginEdit 29 = .ok (.if_icmp .ge 28, 3) := by decide +kernel
theorem dX3_beginEdit_32 : decode cX3_beginEdit 32 = .ok (.aload_n 0, 1) := by decide +kernel
theorem dX3_beginEdit_33 : decode cX3_beginEdit 33 = .ok (.bipush 20, 2) := by decide +kernel
theorem dX3_beginEdit_35 : decode cX3_beginEdit 35 = .ok (.iload_n 2, 1) := by decide +kernel
theorem dX3_beginEdit_36 : decode cX3_beginEdit 36 = .ok (.iload_n 1, 1) := by decide +kernel
theorem dX3_beginEdit_37 : decode cX3_beginEdit 37 = .ok (.invokevirtual 157, 3) := by decide +kernel
theorem dX3_beginEdit_40 : decode cX3_beginEdit 40 = .ok (.aload_n 0, 1) := by decide +kernel
theorem dX3_beginEdit_41 : decode cX3_beginEdit 41 = .ok (.getfield 50, 3) := by decide +kernel
theorem dX3_beginEdit_44 : decode cX3_beginEdit 44 = .ok (.sipush 1920, 3) := by decide +kernel
theorem dX3_beginEdit_47 : decode cX3_beginEdit 47 = .ok (.iload_n 2, 1) := by decide +kernel
theorem dX3_beginEdit_48 : decode cX3_beginEdit 48 = .ok (.iadd, 1) := by decide +kernel
theorem dX3_beginEdit_49 : decode cX3_beginEdit 49 = .ok (.iconst 0, 1) := by decide +kernel
theorem dX3_beginEdit_50 : decode cX3_beginEdit 50 = .ok (.bastore, 1) := by decide +kernel
theorem dX3_beginEdit_51 : decode cX3_beginEdit 51 = .ok (.iinc 2 1, 3) := by decide +kernel
theorem dX3_beginEdit_54 : decode cX3_beginEdit 54 = .ok (.goto (-32), 3) := by decide +kernel
theorem dX3_beginEdit_57 : decode cX3_beginEdit 57 = .ok (.aload_n 0, 1) := by decide +kernel
theorem dX3_beginEdit_58 : decode cX3_beginEdit 58 = .ok (.iconst 0, 1) := by decide +kernel
theorem dX3_beginEdit_59 : decode cX3_beginEdit 59 = .ok (.putfield 188, 3) := by decide +kernel
theorem dX3_beginEdit_62 : decode cX3_beginEdit 62 = .ok (.return_, 1) := by decide +kernel
theorem dX3_setNow_0 : decode cX3_setNow 0 = .ok (.aload_n 0, 1) := by decide +kernel
theorem dX3_setNow_1 : decode cX3_setNow 1 = .ok (.bipush 21, 2) := by decide +kernel
theorem dX3_setNow_3 : decode cX3_setNow 3 = .ok (.bipush 20, 2) := by decide +kernel
theorem dX3_setNow_5 : decode cX3_setNow 5 = .ok (.invokevirtual 153, 3) := by decide +kernel
theorem dX3_setNow_8 : decode cX3_setNow 8 = .ok (.aload_n 0, 1) := by decide +kernel
theorem dX3_setNow_9 : decode cX3_setNow 9 = .ok (.bipush 21, 2) := by decide +kernel
theorem dX3_setNow_11 : decode cX3_setNow 11 = .ok (.iload_n 1, 1) := by decide +kernel
theorem dX3_setNow_12 : decode cX3_setNow 12 = .ok (.iload_n 2, 1) := by decide +kernel
theorem dX3_setNow_13 : decode cX3_setNow 13 = .ok (.invokevirtual 164, 3) := by decide +kernel
theorem dX3_setNow_16 : decode cX3_setNow 16 = .ok (.aload_n 0, 1) := by decide +kernel
theorem dX3_setNow_17 : decode cX3_setNow 17 = .ok (.invokevirtual 194, 3) := by decide +kernel
theorem dX3_setNow_20 : decode cX3_setNow 20 = .ok (.return_, 1) := by decide +kernel
theorem dX3_begin_0 : decode cX3_begin 0 = .ok (.aload_n 0, 1) := by decide +kernel
theorem dX3_begin_1 : decode cX3_begin 1 = .ok (.iload_n 1, 1) := by decide +kernel
theorem dX3_begin_2 : decode cX3_begin 2 = .ok (.invokevirtual 160, 3) := by decide +kernel
theorem dX3_begin_5 : decode cX3_begin 5 = .ok (.ifCond .ne 6, 3) := by decide +kernel
theorem dX3_begin_8 : decode cX3_begin 8 = .ok (.bipush (-101), 2) := by decide +kernel
theorem dX3_begin_10 : decode cX3_begin 10 = .ok (.ireturn, 1) := by decide +kernel
theorem dX3_begin_11 : decode cX3_begin 11 = .ok (.aload_n 0, 1) := by decide +kernel
theorem dX3_begin_12 : decode cX3_begin 12 = .ok (.getfield 90, 3) := by decide +kernel
theorem dX3_begin_15 : decode cX3_begin 15 = .ok (.ifCond .eq 6, 3) := by decide +kernel
theorem dX3_begin_18 : decode cX3_begin 18 = .ok (.bipush (-103), 2) := by decide +kernel
theorem dX3_begin_20 : decode cX3_begin 20 = .ok (.ireturn, 1) := by decide +kernel
theorem dX3_begin_21 : decode cX3_begin 21 = .ok (.aload_n 0, 1) := by decide +kernel
theorem dX3_begin_22 : decode cX3_begin 22 = .ok (.iload_n 1, 1) := by decide +kernel
theorem dX3_begin_23 : decode cX3_begin 23 = .ok (.invokevirtual 197, 3) := by decide +kernel
theorem dX3_begin_26 : decode cX3_begin 26 = .ok (.aload_n 0, 1) := by decide +kernel
theorem dX3_begin_27 : decode cX3_begin 27 = .ok (.iconst 1, 1) := by decide +kernel
theorem dX3_begin_28 : decode cX3_begin 28 = .ok (.putfield 90, 3) := by decide +kernel
theorem dX3_begin_31 : decode cX3_begin 31 = .ok (.aload_n 0, 1) := by decide +kernel
theorem dX3_begin_32 : decode cX3_begin 32 = .ok (.getfield 23, 3) := by decide +kernel
theorem dX3_begin_35 : decode cX3_begin 35 = .ok (.bipush 20, 2) := by decide +kernel
theorem dX3_begin_37 : decode cX3_begin 37 = .ok (.iaload, 1) := by decide +kernel
theorem dX3_begin_38 : decode cX3_begin 38 = .ok (.ireturn, 1) := by decide +kernel
theorem dX3_set_0 : decode cX3_set 0 = .ok (.aload_n 0, 1) := by decide +kernel
theorem dX3_set_1 : decode cX3_set 1 = .ok (.getfield 90, 3) := by decide +kernel
theorem dX3_set_4 : decode cX3_set 4 = .ok (.ifCond .ne 6, 3) := by decide +kernel
theorem dX3_set_7 : decode cX3_set 7 = .ok (.bipush (-103), 2) := by decide +kernel
theorem dX3_set_9 : decode cX3_set 9 = .ok (.ireturn, 1) := by decide +kernel
theorem dX3_set_10 : decode cX3_set 10 = .ok (.iload_n 1, 1) := by decide +kernel
theorem dX3_set_11 : decode cX3_set 11 = .ok (.iconst 0, 1) := by decide +kernel
theorem dX3_set_12 : decode cX3_set 12 = .ok (.sipush 4095, 3) := by decide +kernel
theorem dX3_set_15 : decode cX3_set 15 = .ok (.invokestatic 81, 3) := by decide +kernel
theorem dX3_set_18 : decode cX3_set 18 = .ok (.ifCond .eq 14, 3) := by decide +kernel
theorem dX3_set_21 : decode cX3_set 21 = .ok (.iload_n 2, 1) := by decide +kernel
theorem dX3_set_22 : decode cX3_set 22 = .ok (.iconst 0, 1) := by decide +kernel
theorem dX3_set_23 : decode cX3_set 23 = .ok (.sipush 999, 3) := by decide +kernel
theorem dX3_set_26 : decode cX3_set 26 = .ok (.invokestatic 81, 3) := by decide +kernel
theorem dX3_set_29 : decode cX3_set 29 = .ok (.ifCond .ne 6, 3) := by decide +kernel
theorem dX3_set_32 : decode cX3_set 32 = .ok (.bipush (-102), 2) := by decide +kernel
theorem dX3_set_34 : decode cX3_set 34 = .ok (.ireturn, 1) := by decide +kernel
theorem dX3_set_35 : decode cX3_set 35 = .ok (.aload_n 0, 1) := by decide +kernel
theorem dX3_set_36 : decode cX3_set 36 = .ok (.getfield 23, 3) := by decide +kernel
theorem dX3_set_39 : decode cX3_set 39 = .ok (.bipush 20, 2) := by decide +kernel
theorem dX3_set_41 : decode cX3_set 41 = .ok (.iaload, 1) := by decide +kernel
theorem dX3_set_42 : decode cX3_set 42 = .ok (.bipush 24, 2) := by decide +kernel
theorem dX3_set_44 : decode cX3_set 44 = .ok (.if_icmp .ne 17, 3) := by decide +kernel
theorem dX3_set_47 : decode cX3_set 47 = .ok (.aload_n 0, 1) := by decide +kernel
theorem dX3_set_48 : decode cX3_set 48 = .ok (.bipush 20, 2) := by decide +kernel
theorem dX3_set_50 : decode cX3_set 50 = .ok (.iload_n 1, 1) := by decide +kernel
theorem dX3_set_51 : decode cX3_set 51 = .ok (.invokevirtual 104, 3) := by decide +kernel
theorem dX3_set_54 : decode cX3_set 54 = .ok (.iconst (-1), 1) := by decide +kernel
theorem dX3_set_55 : decode cX3_set 55 = .ok (.if_icmp .ne 6, 3) := by decide +kernel
theorem dX3_set_58 : decode cX3_set 58 = .ok (.bipush (-104), 2) := by decide +kernel
theorem dX3_set_60 : decode cX3_set 60 = .ok (.ireturn, 1) := by decide +kernel
theorem dX3_set_61 : decode cX3_set 61 = .ok (.aload_n 0, 1) := by decide +kernel
theorem dX3_set_62 : decode cX3_set 62 = .ok (.iload_n 1, 1) := by decide +kernel
theorem dX3_set_63 : decode cX3_set 63 = .ok (.iload_n 2, 1) := by decide +kernel
theorem dX3_set_64 : decode cX3_set 64 = .ok (.invokevirtual 200, 3) := by decide +kernel
theorem dX3_set_67 : decode cX3_set 67 = .ok (.aload_n 0, 1) := by decide +kernel
theorem dX3_set_68 : decode cX3_set 68 = .ok (.getfield 23, 3) := by decide +kernel
theorem dX3_set_71 : decode cX3_set 71 = .ok (.bipush 20, 2) := by decide +kernel
theorem dX3_set_73 : decode cX3_set 73 = .ok (.iaload, 1) := by decide +kernel
theorem dX3_set_74 : decode cX3_set 74 = .ok (.ireturn, 1) := by decide +kernel
theorem dX3_unset_0 : decode cX3_unset 0 = .ok (.aload_n 0, 1) := by decide +kernel
theorem dX3_unset_1 : decode cX3_unset 1 = .ok (.getfield 90, 3) := by decide +kernel
theorem dX3_unset_4 : decode cX3_unset 4 = .ok (.ifCond .ne 6, 3) := by decide +kernel
theorem dX3_unset_7 : decode cX3_unset 7 = .ok (.bipush (-103), 2) := by decide +kernel
theorem dX3_unset_9 : decode cX3_unset 9 = .ok (.ireturn, 1) := by decide +kernel
theorem dX3_unset_10 : decode cX3_unset 10 = .ok (.iload_n 1, 1) := by decide +kernel
theorem dX3_unset_11 : decode cX3_unset 11 = .ok (.iconst 0, 1) := by decide +kernel
theorem dX3_unset_12 : decode cX3_unset 12 = .ok (.sipush 4095, 3) := by decide +kernel
theorem dX3_unset_15 : decode cX3_unset 15 = .ok (.invokestatic 81, 3) := by decide +kernel
theorem dX3_unset_18 : decode cX3_unset 18 = .ok (.ifCond .ne 6, 3) := by decide +kernel
theorem dX3_unset_21 : decode cX3_unset 21 = .ok (.bipush (-102), 2) := by decide +kernel
theorem dX3_unset_23 : decode cX3_unset 23 = .ok (.ireturn, 1) := by decide +kernel
theorem dX3_unset_24 : decode cX3_unset 24 = .ok (.aload_n 0, 1) := by decide +kernel
theorem dX3_unset_25 : decode cX3_unset 25 = .ok (.bipush 21, 2) := by decide +kernel
theorem dX3_unset_27 : decode cX3_unset 27 = .ok (.bipush 20, 2) := by decide +kernel
theorem dX3_unset_29 : decode cX3_unset 29 = .ok (.invokevirtual 153, 3) := by decide +kernel
theorem dX3_unset_32 : decode cX3_unset 32 = .ok (.aload_n 0, 1) := by decide +kernel
theorem dX3_unset_33 : decode cX3_unset 33 = .ok (.bipush 21, 2) := by decide +kernel
theorem dX3_unset_35 : decode cX3_unset 35 = .ok (.iload_n 1, 1) := by decide +kernel
theorem dX3_unset_36 : decode cX3_unset 36 = .ok (.invokevirtual 173, 3) := by decide +kernel
theorem dX3_unset_39 : decode cX3_unset 39 = .ok (.aload_n 0, 1) := by decide +kernel
theorem dX3_unset_40 : decode cX3_unset 40 = .ok (.invokevirtual 194, 3) := by decide +kernel
theorem dX3_unset_43 : decode cX3_unset 43 = .ok (.aload_n 0, 1) := by decide +kernel
theorem dX3_unset_44 : decode cX3_unset 44 = .ok (.getfield 23, 3) := by decide +kernel
theorem dX3_unset_47 : decode cX3_unset 47 = .ok (.bipush 20, 2) := by decide +kernel
theorem dX3_unset_49 : decode cX3_unset 49 = .ok (.iaload, 1) := by decide +kernel
theorem dX3_unset_50 : decode cX3_unset 50 = .ok (.ireturn, 1) := by decide +kernel
theorem dX3_seal_0 : decode cX3_seal 0 = .ok (.aload_n 0, 1) := by decide +kernel
theorem dX3_seal_1 : decode cX3_seal 1 = .ok (.getfield 90, 3) := by decide +kernel
theorem dX3_seal_4 : decode cX3_seal 4 = .ok (.ifCond .ne 6, 3) := by decide +kernel
theorem dX3_seal_7 : decode cX3_seal 7 = .ok (.bipush (-103), 2) := by decide +kernel
theorem dX3_seal_9 : decode cX3_seal 9 = .ok (.ireturn, 1) := by decide +kernel
theorem dX3_seal_10 : decode cX3_seal 10 = .ok (.aload_n 0, 1) := by decide +kernel
theorem dX3_seal_11 : decode cX3_seal 11 = .ok (.getfield 20, 3) := by decide +kernel
theorem dX3_seal_14 : decode cX3_seal 14 = .ok (.bipush 20, 2) := by decide +kernel
theorem dX3_seal_16 : decode cX3_seal 16 = .ok (.if_icmp .ne 6, 3) := by decide +kernel
theorem dX3_seal_19 : decode cX3_seal 19 = .ok (.bipush (-104), 2) := by decide +kernel
theorem dX3_seal_21 : decode cX3_seal 21 = .ok (.ireturn, 1) := by decide +kernel
theorem dX3_seal_22 : decode cX3_seal 22 = .ok (.aload_n 0, 1) := by decide +kernel
theorem dX3_seal_23 : decode cX3_seal 23 = .ok (.iconst 0, 1) := by decide +kernel
theorem dX3_seal_24 : decode cX3_seal 24 = .ok (.putfield 90, 3) := by decide +kernel
theorem dX3_seal_27 : decode cX3_seal 27 = .ok (.aload_n 0, 1) := by decide +kernel
theorem dX3_seal_28 : decode cX3_seal 28 = .ok (.dup, 1) := by decide +kernel
theorem dX3_seal_29 : decode cX3_seal 29 = .ok (.getfield 203, 3) := by decide +kernel
theorem dX3_seal_32 : decode cX3_seal 32 = .ok (.iconst 1, 1) := by decide +kernel
theorem dX3_seal_33 : decode cX3_seal 33 = .ok (.iadd, 1) := by decide +kernel
theorem dX3_seal_34 : decode cX3_seal 34 = .ok (.putfield 203, 3) := by decide +kernel
theorem dX3_seal_37 : decode cX3_seal 37 = .ok (.aload_n 0, 1) := by decide +kernel
theorem dX3_seal_38 : decode cX3_seal 38 = .ok (.bipush 20, 2) := by decide +kernel
theorem dX3_seal_40 : decode cX3_seal 40 = .ok (.invokevirtual 170, 3) := by decide +kernel
theorem dX3_seal_43 : decode cX3_seal 43 = .ok (.ireturn, 1) := by decide +kernel
theorem dX3_ownMany_0 : decode cX3_ownMany 0 = .ok (.iconst 0, 1) := by decide +kernel
theorem dX3_ownMany_1 : decode cX3_ownMany 1 = .ok (.istore_n 1, 1) := by decide +kernel
theorem dX3_ownMany_2 : decode cX3_ownMany 2 = .ok (.iconst 0, 1) := by decide +kernel
theorem dX3_ownMany_3 : decode cX3_ownMany 3 = .ok (.istore_n 2, 1) := by decide +kernel
theorem dX3_ownMany_4 : decode cX3_ownMany 4 = .ok (.iload_n 2, 1) := by decide +kernel
theorem dX3_ownMany_5 : decode cX3_ownMany 5 = .ok (.aload_n 0, 1) := by decide +kernel
theorem dX3_ownMany_6 : decode cX3_ownMany 6 = .ok (.getfield 32, 3) := by decide +kernel
theorem dX3_ownMany_9 : decode cX3_ownMany 9 = .ok (.bipush 20, 2) := by decide +kernel
theorem dX3_ownMany_11 : decode cX3_ownMany 11 = .ok (.iaload, 1) := by decide +kernel
theorem dX3_ownMany_12 : decode cX3_ownMany 12 = .ok (.if_icmp .ge 30, 3) := by decide +kernel
theorem dX3_ownMany_15 : decode cX3_ownMany 15 = .ok (.iload_n 1, 1) := by decide +kernel
theorem dX3_ownMany_16 : decode cX3_ownMany 16 = .ok (.aload_n 0, 1) := by decide +kernel
theorem dX3_ownMany_17 : decode cX3_ownMany 17 = .ok (.getfield 50, 3) := by decide +kernel
theorem dX3_ownMany_20 : decode cX3_ownMany 20 = .ok (.sipush 1920, 3) := by decide +kernel
theorem dX3_ownMany_23 : decode cX3_ownMany 23 = .ok (.iload_n 2, 1) := by decide +kernel
theorem dX3_ownMany_24 : decode cX3_ownMany 24 = .ok (.iadd, 1) := by decide +kernel
theorem dX3_ownMany_25 : decode cX3_ownMany 25 = .ok (.baload, 1) := by decide +kernel
theorem dX3_ownMany_26 : decode cX3_ownMany 26 = .ok (.ifCond .eq 7, 3) := by decide +kernel
theorem dX3_ownMany_29 : decode cX3_ownMany 29 = .ok (.iconst 1, 1) := by decide +kernel
theorem dX3_ownMany_30 : decode cX3_ownMany 30 = .ok (.goto 4, 3) := by decide +kernel
theorem dX3_ownMany_33 : decode cX3_ownMany 33 = .ok (.iconst 0, 1) := by decide +kernel
theorem dX3_ownMany_34 : decode cX3_ownMany 34 = .ok (.iadd, 1) := by decide +kernel
theorem dX3_ownMany_35 : decode cX3_ownMany 35 = .ok (.istore_n 1, 1) := by decide +kernel
theorem dX3_ownMany_36 : decode cX3_ownMany 36 = .ok (.iinc 2 1, 3) := by decide +kernel
theorem dX3_ownMany_39 : decode cX3_ownMany 39 = .ok (.goto (-35), 3) := by decide +kernel
theorem dX3_ownMany_42 : decode cX3_ownMany 42 = .ok (.iload_n 1, 1) := by decide +kernel
theorem dX3_ownMany_43 : decode cX3_ownMany 43 = .ok (.ireturn, 1) := by decide +kernel
theorem dX3_leave_0 : decode cX3_leave 0 = .ok (.aload_n 0, 1) := by decide +kernel
theorem dX3_leave_1 : decode cX3_leave 1 = .ok (.getfield 90, 3) := by decide +kernel
theorem dX3_leave_4 : decode cX3_leave 4 = .ok (.ifCond .ne 6, 3) := by decide +kernel
theorem dX3_leave_7 : decode cX3_leave 7 = .ok (.bipush (-103), 2) := by decide +kernel
theorem dX3_leave_9 : decode cX3_leave 9 = .ok (.ireturn, 1) := by decide +kernel
theorem dX3_leave_10 : decode cX3_leave 10 = .ok (.aload_n 0, 1) := by decide +kernel
theorem dX3_leave_11 : decode cX3_leave 11 = .ok (.iconst 0, 1) := by decide +kernel
theorem dX3_leave_12 : decode cX3_leave 12 = .ok (.putfield 90, 3) := by decide +kernel
theorem dX3_leave_15 : decode cX3_leave 15 = .ok (.aload_n 0, 1) := by decide +kernel
theorem dX3_leave_16 : decode cX3_leave 16 = .ok (.invokevirtual 206, 3) := by decide +kernel
theorem dX3_leave_19 : decode cX3_leave 19 = .ok (.ireturn, 1) := by decide +kernel
theorem dX3_editNow_0 : decode cX3_editNow 0 = .ok (.iload_n 1, 1) := by decide +kernel
theorem dX3_editNow_1 : decode cX3_editNow 1 = .ok (.ifCond .ne 13, 3) := by decide +kernel
theorem dX3_editNow_4 : decode cX3_editNow 4 = .ok (.aload_n 0, 1) := by decide +kernel
theorem dX3_editNow_5 : decode cX3_editNow 5 = .ok (.getfield 23, 3) := by decide +kernel
theorem dX3_editNow_8 : decode cX3_editNow 8 = .ok (.bipush 20, 2) := by decide +kernel
theorem dX3_editNow_10 : decode cX3_editNow 10 = .ok (.iaload, 1) := by decide +kernel
theorem dX3_editNow_11 : decode cX3_editNow 11 = .ok (.goto 34, 3) := by decide +kernel
theorem dX3_editNow_14 : decode cX3_editNow 14 = .ok (.iload_n 1, 1) := by decide +kernel
theorem dX3_editNow_15 : decode cX3_editNow 15 = .ok (.iconst 1, 1) := by decide +kernel
theorem dX3_editNow_16 : decode cX3_editNow 16 = .ok (.if_icmp .ne 13, 3) := by decide +kernel
theorem dX3_editNow_19 : decode cX3_editNow 19 = .ok (.aload_n 0, 1) := by decide +kernel
theorem dX3_editNow_20 : decode cX3_editNow 20 = .ok (.getfield 32, 3) := by decide +kernel
theorem dX3_editNow_23 : decode cX3_editNow 23 = .ok (.bipush 20, 2) := by decide +kernel
theorem dX3_editNow_25 : decode cX3_editNow 25 = .ok (.iaload, 1) := by decide +kernel
theorem dX3_editNow_26 : decode cX3_editNow 26 = .ok (.goto 19, 3) := by decide +kernel
theorem dX3_editNow_29 : decode cX3_editNow 29 = .ok (.iload_n 1, 1) := by decide +kernel
theorem dX3_editNow_30 : decode cX3_editNow 30 = .ok (.iconst 2, 1) := by decide +kernel
theorem dX3_editNow_31 : decode cX3_editNow 31 = .ok (.if_icmp .ne 10, 3) := by decide +kernel
theorem dX3_editNow_34 : decode cX3_editNow 34 = .ok (.aload_n 0, 1) := by decide +kernel
theorem dX3_editNow_35 : decode cX3_editNow 35 = .ok (.invokevirtual 206, 3) := by decide +kernel
theorem dX3_editNow_38 : decode cX3_editNow 38 = .ok (.goto 7, 3) := by decide +kernel
theorem dX3_editNow_41 : decode cX3_editNow 41 = .ok (.aload_n 0, 1) := by decide +kernel
theorem dX3_editNow_42 : decode cX3_editNow 42 = .ok (.getfield 188, 3) := by decide +kernel
theorem dX3_editNow_45 : decode cX3_editNow 45 = .ok (.ireturn, 1) := by decide +kernel
theorem dX3_edit_0 : decode cX3_edit 0 = .ok (.aload_n 0, 1) := by decide +kernel
theorem dX3_edit_1 : decode cX3_edit 1 = .ok (.getfield 90, 3) := by decide +kernel
theorem dX3_edit_4 : decode cX3_edit 4 = .ok (.ifCond .ne 6, 3) := by decide +kernel
theorem dX3_edit_7 : decode cX3_edit 7 = .ok (.bipush (-103), 2) := by decide +kernel
theorem dX3_edit_9 : decode cX3_edit 9 = .ok (.ireturn, 1) := by decide +kernel
theorem dX3_edit_10 : decode cX3_edit 10 = .ok (.iload_n 1, 1) := by decide +kernel
theorem dX3_edit_11 : decode cX3_edit 11 = .ok (.iconst 0, 1) := by decide +kernel
theorem dX3_edit_12 : decode cX3_edit 12 = .ok (.iconst 3, 1) := by decide +kernel
theorem dX3_edit_13 : decode cX3_edit 13 = .ok (.invokestatic 81, 3) := by decide +kernel
theorem dX3_edit_16 : decode cX3_edit 16 = .ok (.ifCond .eq 11, 3) := by decide +kernel
theorem dX3_edit_19 : decode cX3_edit 19 = .ok (.aload_n 0, 1) := by decide +kernel
theorem dX3_edit_20 : decode cX3_edit 20 = .ok (.iload_n 1, 1) := by decide +kernel
theorem dX3_edit_21 : decode cX3_edit 21 = .ok (.invokevirtual 210, 3) := by decide +kernel
theorem dX3_edit_24 : decode cX3_edit 24 = .ok (.goto 5, 3) := by decide +kernel
theorem dX3_edit_27 : decode cX3_edit 27 = .ok (.bipush (-102), 2) := by decide +kernel
theorem dX3_edit_29 : decode cX3_edit 29 = .ok (.ireturn, 1) := by decide +kernel
theorem dX3_letter_0 : decode cX3_letter 0 = .ok (.iload_n 1, 1) := by decide +kernel
theorem dX3_letter_1 : decode cX3_letter 1 = .ok (.bipush 32, 2) := by decide +kernel
theorem dX3_letter_3 : decode cX3_letter 3 = .ok (.bipush 126, 2) := by decide +kernel
theorem dX3_letter_5 : decode cX3_letter 5 = .ok (.invokestatic 81, 3) := by decide +kernel
theorem dX3_letter_8 : decode cX3_letter 8 = .ok (.ifCond .ne 6, 3) := by decide +kernel
theorem dX3_letter_11 : decode cX3_letter 11 = .ok (.bipush (-102), 2) := by decide +kernel
theorem dX3_letter_13 : decode cX3_letter 13 = .ok (.ireturn, 1) := by decide +kernel
theorem dX3_letter_14 : decode cX3_letter 14 = .ok (.aload_n 0, 1) := by decide +kernel
theorem dX3_letter_15 : decode cX3_letter 15 = .ok (.getfield 213, 3) := by decide +kernel
theorem dX3_letter_18 : decode cX3_letter 18 = .ok (.bipush 60, 2) := by decide +kernel
theorem dX3_letter_20 : decode cX3_letter 20 = .ok (.if_icmp .ne 6, 3) := by decide +kernel
theorem dX3_letter_23 : decode cX3_letter 23 = .ok (.bipush (-104), 2) := by decide +kernel
theorem dX3_letter_25 : decode cX3_letter 25 = .ok (.ireturn, 1) := by decide +kernel
theorem dX3_letter_26 : decode cX3_letter 26 = .ok (.aload_n 0, 1) := by decide +kernel
theorem dX3_letter_27 : decode cX3_letter 27 = .ok (.getfield 7, 3) := by decide +kernel
theorem dX3_letter_30 : decode cX3_letter 30 = .ok (.aload_n 0, 1) := by decide +kernel
theorem dX3_letter_31 : decode cX3_letter 31 = .ok (.getfield 213, 3) := by decide +kernel
theorem dX3_letter_34 : decode cX3_letter 34 = .ok (.iload_n 1, 1) := by decide +kernel
theorem dX3_letter_35 : decode cX3_letter 35 = .ok (.iastore, 1) := by decide +kernel
theorem dX3_letter_36 : decode cX3_letter 36 = .ok (.aload_n 0, 1) := by decide +kernel
theorem dX3_letter_37 : decode cX3_letter 37 = .ok (.dup, 1) := by decide +kernel
theorem dX3_letter_38 : decode cX3_letter 38 = .ok (.getfield 213, 3) := by decide +kernel
theorem dX3_letter_41 : decode cX3_letter 41 = .ok (.iconst 1, 1) := by decide +kernel
theorem dX3_letter_42 : decode cX3_letter 42 = .ok (.iadd, 1) := by decide +kernel
theorem dX3_letter_43 : decode cX3_letter 43 = .ok (.putfield 213, 3) := by decide +kernel
theorem dX3_letter_46 : decode cX3_letter 46 = .ok (.aload_n 0, 1) := by decide +kernel
theorem dX3_letter_47 : decode cX3_letter 47 = .ok (.getfield 213, 3) := by decide +kernel
theorem dX3_letter_50 : decode cX3_letter 50 = .ok (.ireturn, 1) := by decide +kernel
theorem dX3_blank_0 : decode cX3_blank 0 = .ok (.aload_n 0, 1) := by decide +kernel
theorem dX3_blank_1 : decode cX3_blank 1 = .ok (.getfield 213, 3) := by decide +kernel
theorem dX3_blank_4 : decode cX3_blank 4 = .ok (.istore_n 1, 1) := by decide +kernel
theorem dX3_blank_5 : decode cX3_blank 5 = .ok (.aload_n 0, 1) := by decide +kernel
theorem dX3_blank_6 : decode cX3_blank 6 = .ok (.iconst 0, 1) := by decide +kernel
theorem dX3_blank_7 : decode cX3_blank 7 = .ok (.putfield 213, 3) := by decide +kernel
theorem dX3_blank_10 : decode cX3_blank 10 = .ok (.iload_n 1, 1) := by decide +kernel
theorem dX3_blank_11 : decode cX3_blank 11 = .ok (.ireturn, 1) := by decide +kernel
theorem dX3_takesFigure_0 : decode cX3_takesFigure 0 = .ok (.aload_n 0, 1) := by decide +kernel
theorem dX3_takesFigure_1 : decode cX3_takesFigure 1 = .ok (.getfield 216, 3) := by decide +kernel
theorem dX3_takesFigure_4 : decode cX3_takesFigure 4 = .ok (.iconst (-1), 1) := by decide +kernel
theorem dX3_takesFigure_5 : decode cX3_takesFigure 5 = .ok (.if_icmp .ne 7, 3) := by decide +kernel
theorem dX3_takesFigure_8 : decode cX3_takesFigure 8 = .ok (.iload_n 1, 1) := by decide +kernel
theorem dX3_takesFigure_9 : decode cX3_takesFigure 9 = .ok (.goto 12, 3) := by decide +kernel
theorem dX3_takesFigure_12 : decode cX3_takesFigure 12 = .ok (.bipush 10, 2) := by decide +kernel
theorem dX3_takesFigure_14 : decode cX3_takesFigure 14 = .ok (.aload_n 0, 1) := by decide +kernel
theorem dX3_takesFigure_15 : decode cX3_takesFigure 15 = .ok (.getfield 216, 3) := by decide +kernel
theorem dX3_takesFigure_18 : decode cX3_takesFigure 18 = .ok (.imul, 1) := by decide +kernel
theorem dX3_takesFigure_19 : decode cX3_takesFigure 19 = .ok (.iload_n 1, 1) := by decide +kernel
theorem dX3_takesFigure_20 : decode cX3_takesFigure 20 = .ok (.iadd, 1) := by decide +kernel
theorem dX3_takesFigure_21 : decode cX3_takesFigure 21 = .ok (.istore_n 2, 1) := by decide +kernel
theorem dX3_takesFigure_22 : decode cX3_takesFigure 22 = .ok (.aload_n 0, 1) := by decide +kernel
theorem dX3_takesFigure_23 : decode cX3_takesFigure 23 = .ok (.getfield 216, 3) := by decide +kernel
theorem dX3_takesFigure_26 : decode cX3_takesFigure 26 = .ok (.ifCond .eq 27, 3) := by decide +kernel
theorem dX3_takesFigure_29 : decode cX3_takesFigure 29 = .ok (.iload_n 2, 1) := by decide +kernel
theorem dX3_takesFigure_30 : decode cX3_takesFigure 30 = .ok (.aload_n 0, 1) := by decide +kernel
theorem dX3_takesFigure_31 : decode cX3_takesFigure 31 = .ok (.getfield 219, 3) := by decide +kernel
theorem dX3_takesFigure_34 : decode cX3_takesFigure 34 = .ok (.ifCond .eq 9, 3) := by decide +kernel
theorem dX3_takesFigure_37 : decode cX3_takesFigure 37 = .ok (.sipush 999, 3) := by decide +kernel
theorem dX3_takesFigure_40 : decode cX3_takesFigure 40 = .ok (.goto 6, 3) := by decide +kernel
theorem dX3_takesFigure_43 : decode cX3_takesFigure 43 = .ok (.sipush 4095, 3) := by decide +kernel
theorem dX3_takesFigure_46 : decode cX3_takesFigure 46 = .ok (.if_icmp .gt 7, 3) := by decide +kernel
theorem dX3_takesFigure_49 : decode cX3_takesFigure 49 = .ok (.iconst 1, 1) := by decide +kernel
theorem dX3_takesFigure_50 : decode cX3_takesFigure 50 = .ok (.goto 4, 3) := by decide +kernel
theorem dX3_takesFigure_53 : decode cX3_takesFigure 53 = .ok (.iconst 0, 1) := by decide +kernel
theorem dX3_takesFigure_54 : decode cX3_takesFigure 54 = .ok (.istore_n 3, 1) := by decide +kernel
theorem dX3_takesFigure_55 : decode cX3_takesFigure 55 = .ok (.aload_n 0, 1) := by decide +kernel
theorem dX3_takesFigure_56 : decode cX3_takesFigure 56 = .ok (.iload_n 3, 1) := by decide +kernel
theorem dX3_takesFigure_57 : decode cX3_takesFigure 57 = .ok (.ifCond .eq 7, 3) := by decide +kernel
theorem dX3_takesFigure_60 : decode cX3_takesFigure 60 = .ok (.iload_n 2, 1) := by decide +kernel
theorem dX3_takesFigure_61 : decode cX3_takesFigure 61 = .ok (.goto 7, 3) := by decide +kernel
theorem dX3_takesFigure_64 : decode cX3_takesFigure 64 = .ok (.aload_n 0, 1) := by decide +kernel
theorem dX3_takesFigure_65 : decode cX3_takesFigure 65 = .ok (.getfield 216, 3) := by decide +kernel
theorem dX3_takesFigure_68 : decode cX3_takesFigure 68 = .ok (.putfield 216, 3) := by decide +kernel
theorem dX3_takesFigure_71 : decode cX3_takesFigure 71 = .ok (.iload_n 3, 1) := by decide +kernel
theorem dX3_takesFigure_72 : decode cX3_takesFigure 72 = .ok (.ireturn, 1) := by decide +kernel
theorem dX3_takes_0 : decode cX3_takes 0 = .ok (.iload_n 1, 1) := by decide +kernel
theorem dX3_takes_1 : decode cX3_takes 1 = .ok (.bipush 48, 2) := by decide +kernel
theorem dX3_takes_3 : decode cX3_takes 3 = .ok (.bipush 57, 2) := by decide +kernel
theorem dX3_takes_5 : decode cX3_takes 5 = .ok (.invokestatic 81, 3) := by decide +kernel
theorem dX3_takes_8 : decode cX3_takes 8 = .ok (.ifCond .eq 12, 3) := by decide +kernel
theorem dX3_takes_11 : decode cX3_takes 11 = .ok (.aload_n 0, 1) := by decide +kernel
theorem dX3_takes_12 : decode cX3_takes 12 = .ok (.iload_n 1, 1) := by decide +kernel
theorem dX3_takes_13 : decode cX3_takes 13 = .ok (.bipush 48, 2) := by decide +kernel
theorem dX3_takes_15 : decode cX3_takes 15 = .ok (.isub, 1) := by decide +kernel
theorem dX3_takes_16 : decode cX3_takes 16 = .ok (.invokevirtual 222, 3) := by decide +kernel
theorem dX3_takes_19 : decode cX3_takes 19 = .ok (.ireturn, 1) := by decide +kernel
theorem dX3_takes_20 : decode cX3_takes 20 = .ok (.aload_n 0, 1) := by decide +kernel
theorem dX3_takes_21 : decode cX3_takes 21 = .ok (.getfield 216, 3) := by decide +kernel
theorem dX3_takes_24 : decode cX3_takes 24 = .ok (.iconst (-1), 1) := by decide +kernel
theorem dX3_takes_25 : decode cX3_takes 25 = .ok (.if_icmp .eq 25, 3) := by decide +kernel
theorem dX3_takes_28 : decode cX3_takes 28 = .ok (.iload_n 1, 1) := by decide +kernel
theorem dX3_takes_29 : decode cX3_takes 29 = .ok (.aload_n 0, 1) := by decide +kernel
theorem dX3_takes_30 : decode cX3_takes 30 = .ok (.getfield 219, 3) := by decide +kernel
theorem dX3_takes_33 : decode cX3_takes 33 = .ok (.ifCond .eq 8, 3) := by decide +kernel
theorem dX3_takes_36 : decode cX3_takes 36 = .ok (.bipush 59, 2) := by decide +kernel
theorem dX3_takes_38 : decode cX3_takes 38 = .ok (.goto 5, 3) := by decide +kernel
theorem dX3_takes_41 : decode cX3_takes 41 = .ok (.bipush 61, 2) := by decide +kernel
theorem dX3_takes_43 : decode cX3_takes 43 = .ok (.if_icmp .ne 7, 3) := by decide +kernel
theorem dX3_takes_46 : decode cX3_takes 46 = .ok (.iconst 1, 1) := by decide +kernel
theorem dX3_takes_47 : decode cX3_takes 47 = .ok (.goto 4, 3) := by decide +kernel
theorem dX3_takes_50 : decode cX3_takes 50 = .ok (.iconst 0, 1) := by decide +kernel
theorem dX3_takes_51 : decode cX3_takes 51 = .ok (.istore_n 2, 1) := by decide +kernel
theorem dX3_takes_52 : decode cX3_takes 52 = .ok (.iload_n 2, 1) := by decide +kernel
theorem dX3_takes_53 : decode cX3_takes 53 = .ok (.ifCond .eq 51, 3) := by decide +kernel
theorem dX3_takes_56 : decode cX3_takes 56 = .ok (.aload_n 0, 1) := by decide +kernel
theorem dX3_takes_57 : decode cX3_takes 57 = .ok (.getfield 219, 3) := by decide +kernel
theorem dX3_takes_60 : decode cX3_takes 60 = .ok (.ifCond .eq 10, 3) := by decide +kernel
theorem dX3_takes_63 : decode cX3_takes 63 = .ok (.aload_n 0, 1) := by decide +kernel
theorem dX3_takes_64 : decode cX3_takes 64 = .ok (.invokevirtual 225, 3) := by decide +kernel
theorem dX3_takes_67 : decode cX3_takes 67 = .ok (.goto 16, 3) := by decide +kernel
theorem dX3_takes_70 : decode cX3_takes 70 = .ok (.aload_n 0, 1) := by decide +kernel
theorem dX3_takes_71 : decode cX3_takes 71 = .ok (.getfield 63, 3) := by decide +kernel
theorem dX3_takes_74 : decode cX3_takes 74 = .ok (.aload_n 0, 1) := by decide +kernel
theorem dX3_takes_75 : decode cX3_takes 75 = .ok (.getfield 228, 3) := by decide +kernel
theorem dX3_takes_78 : decode cX3_takes 78 = .ok (.aload_n 0, 1) := by decide +kernel
theorem dX3_takes_79 : decode cX3_takes 79 = .ok (.getfield 216, 3) := by decide +kernel
theorem dX3_takes_82 : decode cX3_takes 82 = .ok (.iastore, 1) := by decide +kernel
theorem dX3_takes_83 : decode cX3_takes 83 = .ok (.aload_n 0, 1) := by decide +kernel
theorem dX3_takes_84 : decode cX3_takes 84 = .ok (.aload_n 0, 1) := by decide +kernel
theorem dX3_takes_85 : decode cX3_takes 85 = .ok (.getfield 219, 3) := by decide +kernel
theorem dX3_takes_88 : decode cX3_takes 88 = .ok (.ifCond .ne 7, 3) := by decide +kernel
theorem dX3_takes_91 : decode cX3_takes 91 = .ok (.iconst 1, 1) := by decide +kernel
theorem dX3_takes_92 : decode cX3_takes 92 = .ok (.goto 4, 3) := by decide +kernel
theorem dX3_takes_95 : decode cX3_takes 95 = .ok (.iconst 0, 1) := by decide +kernel
theorem dX3_takes_96 : decode cX3_takes 96 = .ok (.putfield 219, 3) := by decide +kernel
theorem dX3_takes_99 : decode cX3_takes 99 = .ok (.aload_n 0, 1) := by decide +kernel
theorem dX3_takes_100 : decode cX3_takes 100 = .ok (.iconst (-1), 1) := by decide +kernel
theorem dX3_takes_101 : decode cX3_takes 101 = .ok (.putfield 216, 3) := by decide +kernel
theorem dX3_takes_104 : decode cX3_takes 104 = .ok (.iload_n 2, 1) := by decide +kernel
theorem dX3_takes_105 : decode cX3_takes 105 = .ok (.ireturn, 1) := by decide +kernel
theorem dX3_keepEntry_0 : decode cX3_keepEntry 0 = .ok (.aload_n 0, 1) := by decide +kernel
theorem dX3_keepEntry_1 : decode cX3_keepEntry 1 = .ok (.getfield 66, 3) := by decide +kernel
theorem dX3_keepEntry_4 : decode cX3_keepEntry 4 = .ok (.aload_n 0, 1) := by decide +kernel
theorem dX3_keepEntry_5 : decode cX3_keepEntry 5 = .ok (.getfield 228, 3) := by decide +kernel
theorem dX3_keepEntry_8 : decode cX3_keepEntry 8 = .ok (.aload_n 0, 1) := by decide +kernel
theorem dX3_keepEntry_9 : decode cX3_keepEntry 9 = .ok (.getfield 216, 3) := by decide +kernel
theorem dX3_keepEntry_12 : decode cX3_keepEntry 12 = .ok (.iastore, 1) := by decide +kernel
theorem dX3_keepEntry_13 : decode cX3_keepEntry 13 = .ok (.aload_n 0, 1) := by decide +kernel
theorem dX3_keepEntry_14 : decode cX3_keepEntry 14 = .ok (.dup, 1) := by decide +kernel
theorem dX3_keepEntry_15 : decode cX3_keepEntry 15 = .ok (.getfield 228, 3) := by decide +kernel
theorem dX3_keepEntry_18 : decode cX3_keepEntry 18 = .ok (.iconst 1, 1) := by decide +kernel
theorem dX3_keepEntry_19 : decode cX3_keepEntry 19 = .ok (.iadd, 1) := by decide +kernel
theorem dX3_keepEntry_20 : decode cX3_keepEntry 20 = .ok (.putfield 228, 3) := by decide +kernel
theorem dX3_keepEntry_23 : decode cX3_keepEntry 23 = .ok (.return_, 1) := by decide +kernel
theorem dX3_goAlong_0 : decode cX3_goAlong 0 = .ok (.aload_n 0, 1) := by decide +kernel
theorem dX3_goAlong_1 : decode cX3_goAlong 1 = .ok (.iconst 0, 1) := by decide +kernel
theorem dX3_goAlong_2 : decode cX3_goAlong 2 = .ok (.putfield 228, 3) := by decide +kernel
theorem dX3_goAlong_5 : decode cX3_goAlong 5 = .ok (.aload_n 0, 1) := by decide +kernel
theorem dX3_goAlong_6 : decode cX3_goAlong 6 = .ok (.iconst 0, 1) := by decide +kernel
theorem dX3_goAlong_7 : decode cX3_goAlong 7 = .ok (.putfield 219, 3) := by decide +kernel
theorem dX3_goAlong_10 : decode cX3_goAlong 10 = .ok (.aload_n 0, 1) := by decide +kernel
theorem dX3_goAlong_11 : decode cX3_goAlong 11 = .ok (.iconst (-1), 1) := by decide +kernel
theorem dX3_goAlong_12 : decode cX3_goAlong 12 = .ok (.putfield 216, 3) := by decide +kernel
theorem dX3_goAlong_15 : decode cX3_goAlong 15 = .ok (.iconst 0, 1) := by decide +kernel
theorem dX3_goAlong_16 : decode cX3_goAlong 16 = .ok (.istore_n 1, 1) := by decide +kernel
theorem dX3_goAlong_17 : decode cX3_goAlong 17 = .ok (.iload_n 1, 1) := by decide +kernel
