theorem dX12_numberNow_0 : decode cX12_numberNow 0 = .ok (.aload_n 0, 1) := by decide +kernel
theorem dX12_numberNow_1 : decode cX12_numberNow 1 = .ok (.getfield 160, 3) := by decide +kernel
theorem dX12_numberNow_4 : decode cX12_numberNow 4 = .ok (.ifCond .eq 5, 3) := by decide +kernel
theorem dX12_numberNow_7 : decode cX12_numberNow 7 = .ok (.iload_n 1, 1) := by decide +kernel
theorem dX12_numberNow_8 : decode cX12_numberNow 8 = .ok (.ireturn, 1) := by decide +kernel
theorem dX12_numberNow_9 : decode cX12_numberNow 9 = .ok (.aload_n 0, 1) := by decide +kernel
theorem dX12_numberNow_10 : decode cX12_numberNow 10 = .ok (.getfield 137, 3) := by decide +kernel
theorem dX12_numberNow_13 : decode cX12_numberNow 13 = .ok (.iconst 2, 1) := by decide +kernel
theorem dX12_numberNow_14 : decode cX12_numberNow 14 = .ok (.if_icmp .eq 11, 3) := by decide +kernel
theorem dX12_numberNow_17 : decode cX12_numberNow 17 = .ok (.aload_n 0, 1) := by decide +kernel
theorem dX12_numberNow_18 : decode cX12_numberNow 18 = .ok (.iconst 1, 1) := by decide +kernel
theorem dX12_numberNow_19 : decode cX12_numberNow 19 = .ok (.invokevirtual 178, 3) := by decide +kernel
theorem dX12_numberNow_22 : decode cX12_numberNow 22 = .ok (.goto 37, 3) := by decide +kernel
theorem dX12_numberNow_25 : decode cX12_numberNow 25 = .ok (.aload_n 0, 1) := by decide +kernel
theorem dX12_numberNow_26 : decode cX12_numberNow 26 = .ok (.getfield 157, 3) := by decide +kernel
theorem dX12_numberNow_29 : decode cX12_numberNow 29 = .ok (.aload_n 0, 1) := by decide +kernel
theorem dX12_numberNow_30 : decode cX12_numberNow 30 = .ok (.getfield 134, 3) := by decide +kernel
theorem dX12_numberNow_33 : decode cX12_numberNow 33 = .ok (.isub, 1) := by decide +kernel
theorem dX12_numberNow_34 : decode cX12_numberNow 34 = .ok (.iconst 3, 1) := by decide +kernel
theorem dX12_numberNow_35 : decode cX12_numberNow 35 = .ok (.if_icmp .gt 19, 3) := by decide +kernel
theorem dX12_numberNow_38 : decode cX12_numberNow 38 = .ok (.aload_n 0, 1) := by decide +kernel
theorem dX12_numberNow_39 : decode cX12_numberNow 39 = .ok (.getfield 147, 3) := by decide +kernel
theorem dX12_numberNow_42 : decode cX12_numberNow 42 = .ok (.iload_n 1, 1) := by decide +kernel
theorem dX12_numberNow_43 : decode cX12_numberNow 43 = .ok (.if_icmp .lt 11, 3) := by decide +kernel
theorem dX12_numberNow_46 : decode cX12_numberNow 46 = .ok (.aload_n 0, 1) := by decide +kernel
theorem dX12_numberNow_47 : decode cX12_numberNow 47 = .ok (.getfield 147, 3) := by decide +kernel
theorem dX12_numberNow_50 : decode cX12_numberNow 50 = .ok (.iload_n 2, 1) := by decide +kernel
theorem dX12_numberNow_51 : decode cX12_numberNow 51 = .ok (.if_icmp .le 8, 3) := by decide +kernel
theorem dX12_numberNow_54 : decode cX12_numberNow 54 = .ok (.aload_n 0, 1) := by decide +kernel
theorem dX12_numberNow_55 : decode cX12_numberNow 55 = .ok (.iconst 2, 1) := by decide +kernel
theorem dX12_numberNow_56 : decode cX12_numberNow 56 = .ok (.invokevirtual 178, 3) := by decide +kernel
theorem dX12_numberNow_59 : decode cX12_numberNow 59 = .ok (.aload_n 0, 1) := by decide +kernel
theorem dX12_numberNow_60 : decode cX12_numberNow 60 = .ok (.getfield 160, 3) := by decide +kernel
theorem dX12_numberNow_63 : decode cX12_numberNow 63 = .ok (.ifCond .ne 10, 3) := by decide +kernel
theorem dX12_numberNow_66 : decode cX12_numberNow 66 = .ok (.aload_n 0, 1) := by decide +kernel
theorem dX12_numberNow_67 : decode cX12_numberNow 67 = .ok (.getfield 147, 3) := by decide +kernel
theorem dX12_numberNow_70 : decode cX12_numberNow 70 = .ok (.goto 4, 3) := by decide +kernel
theorem dX12_numberNow_73 : decode cX12_numberNow 73 = .ok (.iload_n 1, 1) := by decide +kernel
theorem dX12_numberNow_74 : decode cX12_numberNow 74 = .ok (.ireturn, 1) := by decide +kernel
theorem dX12_readNumber_0 : decode cX12_readNumber 0 = .ok (.aload_n 0, 1) := by decide +kernel
theorem dX12_readNumber_1 : decode cX12_readNumber 1 = .ok (.iload_n 1, 1) := by decide +kernel
theorem dX12_readNumber_2 : decode cX12_readNumber 2 = .ok (.iload_n 2, 1) := by decide +kernel
theorem dX12_readNumber_3 : decode cX12_readNumber 3 = .ok (.invokevirtual 182, 3) := by decide +kernel
theorem dX12_readNumber_6 : decode cX12_readNumber 6 = .ok (.istore_n 3, 1) := by decide +kernel
theorem dX12_readNumber_7 : decode cX12_readNumber 7 = .ok (.aload_n 0, 1) := by decide +kernel
theorem dX12_readNumber_8 : decode cX12_readNumber 8 = .ok (.getfield 160, 3) := by decide +kernel
theorem dX12_readNumber_11 : decode cX12_readNumber 11 = .ok (.ifCond .ne 7, 3) := by decide +kernel
theorem dX12_readNumber_14 : decode cX12_readNumber 14 = .ok (.aload_n 0, 1) := by decide +kernel
theorem dX12_readNumber_15 : decode cX12_readNumber 15 = .ok (.invokevirtual 185, 3) := by decide +kernel
theorem dX12_readNumber_18 : decode cX12_readNumber 18 = .ok (.iload_n 3, 1) := by decide +kernel
theorem dX12_readNumber_19 : decode cX12_readNumber 19 = .ok (.ireturn, 1) := by decide +kernel
theorem dX12_newClasses_0 : decode cX12_newClasses 0 = .ok (.aload_n 0, 1) := by decide +kernel
theorem dX12_newClasses_1 : decode cX12_newClasses 1 = .ok (.getfield 21, 3) := by decide +kernel
theorem dX12_newClasses_4 : decode cX12_newClasses 4 = .ok (.iconst 2, 1) := by decide +kernel
theorem dX12_newClasses_5 : decode cX12_newClasses 5 = .ok (.iaload, 1) := by decide +kernel
theorem dX12_newClasses_6 : decode cX12_newClasses 6 = .ok (.ireturn, 1) := by decide +kernel
theorem dX12_hasNewFlow_0 : decode cX12_hasNewFlow 0 = .ok (.iconst 0, 1) := by decide +kernel
theorem dX12_hasNewFlow_1 : decode cX12_hasNewFlow 1 = .ok (.istore_n 2, 1) := by decide +kernel
theorem dX12_hasNewFlow_2 : decode cX12_hasNewFlow 2 = .ok (.iload_n 2, 1) := by decide +kernel
theorem dX12_hasNewFlow_3 : decode cX12_hasNewFlow 3 = .ok (.aload_n 0, 1) := by decide +kernel
theorem dX12_hasNewFlow_4 : decode cX12_hasNewFlow 4 = .ok (.getfield 21, 3) := by decide +kernel
theorem dX12_hasNewFlow_7 : decode cX12_hasNewFlow 7 = .ok (.iconst 3, 1) := by decide +kernel
theorem dX12_hasNewFlow_8 : decode cX12_hasNewFlow 8 = .ok (.iaload, 1) := by decide +kernel
theorem dX12_hasNewFlow_9 : decode cX12_hasNewFlow 9 = .ok (.if_icmp .ge 24, 3) := by decide +kernel
theorem dX12_hasNewFlow_12 : decode cX12_hasNewFlow 12 = .ok (.aload_n 0, 1) := by decide +kernel
theorem dX12_hasNewFlow_13 : decode cX12_hasNewFlow 13 = .ok (.getfield 28, 3) := by decide +kernel
theorem dX12_hasNewFlow_16 : decode cX12_hasNewFlow 16 = .ok (.bipush 8, 2) := by decide +kernel
theorem dX12_hasNewFlow_18 : decode cX12_hasNewFlow 18 = .ok (.iload_n 2, 1) := by decide +kernel
theorem dX12_hasNewFlow_19 : decode cX12_hasNewFlow 19 = .ok (.iadd, 1) := by decide +kernel
theorem dX12_hasNewFlow_20 : decode cX12_hasNewFlow 20 = .ok (.iaload, 1) := by decide +kernel
theorem dX12_hasNewFlow_21 : decode cX12_hasNewFlow 21 = .ok (.iload_n 1, 1) := by decide +kernel
theorem dX12_hasNewFlow_22 : decode cX12_hasNewFlow 22 = .ok (.if_icmp .ne 5, 3) := by decide +kernel
theorem dX12_hasNewFlow_25 : decode cX12_hasNewFlow 25 = .ok (.iconst 1, 1) := by decide +kernel
theorem dX12_hasNewFlow_26 : decode cX12_hasNewFlow 26 = .ok (.ireturn, 1) := by decide +kernel
theorem dX12_hasNewFlow_27 : decode cX12_hasNewFlow 27 = .ok (.iinc 2 1, 3) := by decide +kernel
theorem dX12_hasNewFlow_30 : decode cX12_hasNewFlow 30 = .ok (.goto (-28), 3) := by decide +kernel
theorem dX12_hasNewFlow_33 : decode cX12_hasNewFlow 33 = .ok (.iconst 0, 1) := by decide +kernel
theorem dX12_hasNewFlow_34 : decode cX12_hasNewFlow 34 = .ok (.ireturn, 1) := by decide +kernel
theorem dX12_isNewLeaf_0 : decode cX12_isNewLeaf 0 = .ok (.iconst 0, 1) := by decide +kernel
theorem dX12_isNewLeaf_1 : decode cX12_isNewLeaf 1 = .ok (.istore_n 2, 1) := by decide +kernel
theorem dX12_isNewLeaf_2 : decode cX12_isNewLeaf 2 = .ok (.iload_n 2, 1) := by decide +kernel
theorem dX12_isNewLeaf_3 : decode cX12_isNewLeaf 3 = .ok (.aload_n 0, 1) := by decide +kernel
theorem dX12_isNewLeaf_4 : decode cX12_isNewLeaf 4 = .ok (.invokevirtual 188, 3) := by decide +kernel
theorem dX12_isNewLeaf_7 : decode cX12_isNewLeaf 7 = .ok (.if_icmp .ge 24, 3) := by decide +kernel
theorem dX12_isNewLeaf_10 : decode cX12_isNewLeaf 10 = .ok (.aload_n 0, 1) := by decide +kernel
theorem dX12_isNewLeaf_11 : decode cX12_isNewLeaf 11 = .ok (.getfield 25, 3) := by decide +kernel
theorem dX12_isNewLeaf_14 : decode cX12_isNewLeaf 14 = .ok (.bipush 12, 2) := by decide +kernel
theorem dX12_isNewLeaf_16 : decode cX12_isNewLeaf 16 = .ok (.iload_n 2, 1) := by decide +kernel
theorem dX12_isNewLeaf_17 : decode cX12_isNewLeaf 17 = .ok (.iadd, 1) := by decide +kernel
theorem dX12_isNewLeaf_18 : decode cX12_isNewLeaf 18 = .ok (.iaload, 1) := by decide +kernel
theorem dX12_isNewLeaf_19 : decode cX12_isNewLeaf 19 = .ok (.iload_n 1, 1) := by decide +kernel
theorem dX12_isNewLeaf_20 : decode cX12_isNewLeaf 20 = .ok (.if_icmp .ne 5, 3) := by decide +kernel
theorem dX12_isNewLeaf_23 : decode cX12_isNewLeaf 23 = .ok (.iconst 0, 1) := by decide +kernel
theorem dX12_isNewLeaf_24 : decode cX12_isNewLeaf 24 = .ok (.ireturn, 1) := by decide +kernel
theorem dX12_isNewLeaf_25 : decode cX12_isNewLeaf 25 = .ok (.iinc 2 1, 3) := by decide +kernel
theorem dX12_isNewLeaf_28 : decode cX12_isNewLeaf 28 = .ok (.goto (-26), 3) := by decide +kernel
theorem dX12_isNewLeaf_31 : decode cX12_isNewLeaf 31 = .ok (.iconst 1, 1) := by decide +kernel
theorem dX12_isNewLeaf_32 : decode cX12_isNewLeaf 32 = .ok (.ireturn, 1) := by decide +kernel
theorem dX12_readCurves_0 : decode cX12_readCurves 0 = .ok (.bipush 12, 2) := by decide +kernel
theorem dX12_readCurves_2 : decode cX12_readCurves 2 = .ok (.bipush 12, 2) := by decide +kernel
theorem dX12_readCurves_4 : decode cX12_readCurves 4 = .ok (.iload_n 1, 1) := by decide +kernel
theorem dX12_readCurves_5 : decode cX12_readCurves 5 = .ok (.iadd, 1) := by decide +kernel
theorem dX12_readCurves_6 : decode cX12_readCurves 6 = .ok (.imul, 1) := by decide +kernel
theorem dX12_readCurves_7 : decode cX12_readCurves 7 = .ok (.istore_n 2, 1) := by decide +kernel
theorem dX12_readCurves_8 : decode cX12_readCurves 8 = .ok (.iconst 0, 1) := by decide +kernel
theorem dX12_readCurves_9 : decode cX12_readCurves 9 = .ok (.istore_n 3, 1) := by decide +kernel
theorem dX12_readCurves_10 : decode cX12_readCurves 10 = .ok (.aload_n 0, 1) := by decide +kernel
theorem dX12_readCurves_11 : decode cX12_readCurves 11 = .ok (.aload_n 0, 1) := by decide +kernel
theorem dX12_readCurves_12 : decode cX12_readCurves 12 = .ok (.getfield 15, 3) := by decide +kernel
theorem dX12_readCurves_15 : decode cX12_readCurves 15 = .ok (.invokevirtual 191, 3) := by decide +kernel
theorem dX12_readCurves_18 : decode cX12_readCurves 18 = .ok (.istore 4, 2) := by decide +kernel
theorem dX12_readCurves_20 : decode cX12_readCurves 20 = .ok (.iload 4, 2) := by decide +kernel
theorem dX12_readCurves_22 : decode cX12_readCurves 22 = .ok (.iconst (-1), 1) := by decide +kernel
theorem dX12_readCurves_23 : decode cX12_readCurves 23 = .ok (.if_icmp .eq 121, 3) := by decide +kernel
theorem dX12_readCurves_26 : decode cX12_readCurves 26 = .ok (.iload_n 3, 1) := by decide +kernel
theorem dX12_readCurves_27 : decode cX12_readCurves 27 = .ok (.iload 4, 2) := by decide +kernel
theorem dX12_readCurves_29 : decode cX12_readCurves 29 = .ok (.ishr, 1) := by decide +kernel
theorem dX12_readCurves_30 : decode cX12_readCurves 30 = .ok (.iconst 1, 1) := by decide +kernel
theorem dX12_readCurves_31 : decode cX12_readCurves 31 = .ok (.iand, 1) := by decide +kernel
theorem dX12_readCurves_32 : decode cX12_readCurves 32 = .ok (.iconst 1, 1) := by decide +kernel
theorem dX12_readCurves_33 : decode cX12_readCurves 33 = .ok (.if_icmp .ne 8, 3) := by decide +kernel
theorem dX12_readCurves_36 : decode cX12_readCurves 36 = .ok (.aload_n 0, 1) := by decide +kernel
theorem dX12_readCurves_37 : decode cX12_readCurves 37 = .ok (.iconst 5, 1) := by decide +kernel
theorem dX12_readCurves_38 : decode cX12_readCurves 38 = .ok (.invokevirtual 178, 3) := by decide +kernel
theorem dX12_readCurves_41 : decode cX12_readCurves 41 = .ok (.iload_n 3, 1) := by decide +kernel
theorem dX12_readCurves_42 : decode cX12_readCurves 42 = .ok (.iconst 1, 1) := by decide +kernel
theorem dX12_readCurves_43 : decode cX12_readCurves 43 = .ok (.iload 4, 2) := by decide +kernel
theorem dX12_readCurves_45 : decode cX12_readCurves 45 = .ok (.ishl, 1) := by decide +kernel
theorem dX12_readCurves_46 : decode cX12_readCurves 46 = .ok (.ior, 1) := by decide +kernel
theorem dX12_readCurves_47 : decode cX12_readCurves 47 = .ok (.istore_n 3, 1) := by decide +kernel
theorem dX12_readCurves_48 : decode cX12_readCurves 48 = .ok (.aload_n 0, 1) := by decide +kernel
theorem dX12_readCurves_49 : decode cX12_readCurves 49 = .ok (.getfield 160, 3) := by decide +kernel
theorem dX12_readCurves_52 : decode cX12_readCurves 52 = .ok (.ifCond .ne 7, 3) := by decide +kernel
theorem dX12_readCurves_55 : decode cX12_readCurves 55 = .ok (.aload_n 0, 1) := by decide +kernel
theorem dX12_readCurves_56 : decode cX12_readCurves 56 = .ok (.invokevirtual 185, 3) := by decide +kernel
theorem dX12_readCurves_59 : decode cX12_readCurves 59 = .ok (.aload_n 0, 1) := by decide +kernel
theorem dX12_readCurves_60 : decode cX12_readCurves 60 = .ok (.getfield 40, 3) := by decide +kernel
theorem dX12_readCurves_63 : decode cX12_readCurves 63 = .ok (.iload_n 2, 1) := by decide +kernel
theorem dX12_readCurves_64 : decode cX12_readCurves 64 = .ok (.iconst 4, 1) := by decide +kernel
theorem dX12_readCurves_65 : decode cX12_readCurves 65 = .ok (.iload 4, 2) := by decide +kernel
theorem dX12_readCurves_67 : decode cX12_readCurves 67 = .ok (.imul, 1) := by decide +kernel
theorem dX12_readCurves_68 : decode cX12_readCurves 68 = .ok (.iadd, 1) := by decide +kernel
theorem dX12_readCurves_69 : decode cX12_readCurves 69 = .ok (.iconst 1, 1) := by decide +kernel
theorem dX12_readCurves_70 : decode cX12_readCurves 70 = .ok (.iastore, 1) := by decide +kernel
theorem dX12_readCurves_71 : decode cX12_readCurves 71 = .ok (.aload_n 0, 1) := by decide +kernel
theorem dX12_readCurves_72 : decode cX12_readCurves 72 = .ok (.getfield 40, 3) := by decide +kernel
theorem dX12_readCurves_75 : decode cX12_readCurves 75 = .ok (.iload_n 2, 1) := by decide +kernel
theorem dX12_readCurves_76 : decode cX12_readCurves 76 = .ok (.iconst 4, 1) := by decide +kernel
theorem dX12_readCurves_77 : decode cX12_readCurves 77 = .ok (.iload 4, 2) := by decide +kernel
theorem dX12_readCurves_79 : decode cX12_readCurves 79 = .ok (.imul, 1) := by decide +kernel
theorem dX12_readCurves_80 : decode cX12_readCurves 80 = .ok (.iadd, 1) := by decide +kernel
theorem dX12_readCurves_81 : decode cX12_readCurves 81 = .ok (.iconst 1, 1) := by decide +kernel
theorem dX12_readCurves_82 : decode cX12_readCurves 82 = .ok (.iadd, 1) := by decide +kernel
theorem dX12_readCurves_83 : decode cX12_readCurves 83 = .ok (.aload_n 0, 1) := by decide +kernel
theorem dX12_readCurves_84 : decode cX12_readCurves 84 = .ok (.iconst 0, 1) := by decide +kernel
theorem dX12_readCurves_85 : decode cX12_readCurves 85 = .ok (.bipush 100, 2) := by decide +kernel
theorem dX12_readCurves_87 : decode cX12_readCurves 87 = .ok (.invokevirtual 195, 3) := by decide +kernel
theorem dX12_readCurves_90 : decode cX12_readCurves 90 = .ok (.iastore, 1) := by decide +kernel
theorem dX12_readCurves_91 : decode cX12_readCurves 91 = .ok (.aload_n 0, 1) := by decide +kernel
theorem dX12_readCurves_92 : decode cX12_readCurves 92 = .ok (.getfield 40, 3) := by decide +kernel
theorem dX12_readCurves_95 : decode cX12_readCurves 95 = .ok (.iload_n 2, 1) := by decide +kernel
theorem dX12_readCurves_96 : decode cX12_readCurves 96 = .ok (.iconst 4, 1) := by decide +kernel
theorem dX12_readCurves_97 : decode cX12_readCurves 97 = .ok (.iload 4, 2) := by decide +kernel
theorem dX12_readCurves_99 : decode cX12_readCurves 99 = .ok (.imul, 1) := by decide +kernel
theorem dX12_readCurves_100 : decode cX12_readCurves 100 = .ok (.iadd, 1) := by decide +kernel
theorem dX12_readCurves_101 : decode cX12_readCurves 101 = .ok (.iconst 2, 1) := by decide +kernel
theorem dX12_readCurves_102 : decode cX12_readCurves 102 = .ok (.iadd, 1) := by decide +kernel
theorem dX12_readCurves_103 : decode cX12_readCurves 103 = .ok (.aload_n 0, 1) := by decide +kernel
theorem dX12_readCurves_104 : decode cX12_readCurves 104 = .ok (.iconst 0, 1) := by decide +kernel
theorem dX12_readCurves_105 : decode cX12_readCurves 105 = .ok (.bipush 30, 2) := by decide +kernel
theorem dX12_readCurves_107 : decode cX12_readCurves 107 = .ok (.invokevirtual 195, 3) := by decide +kernel
theorem dX12_readCurves_110 : decode cX12_readCurves 110 = .ok (.iastore, 1) := by decide +kernel
theorem dX12_readCurves_111 : decode cX12_readCurves 111 = .ok (.aload_n 0, 1) := by decide +kernel
theorem dX12_readCurves_112 : decode cX12_readCurves 112 = .ok (.getfield 40, 3) := by decide +kernel
theorem dX12_readCurves_115 : decode cX12_readCurves 115 = .ok (.iload_n 2, 1) := by decide +kernel
theorem dX12_readCurves_116 : decode cX12_readCurves 116 = .ok (.iconst 4, 1) := by decide +kernel
theorem dX12_readCurves_117 : decode cX12_readCurves 117 = .ok (.iload 4, 2) := by decide +kernel
theorem dX12_readCurves_119 : decode cX12_readCurves 119 = .ok (.imul, 1) := by decide +kernel
theorem dX12_readCurves_120 : decode cX12_readCurves 120 = .ok (.iadd, 1) := by decide +kernel
theorem dX12_readCurves_121 : decode cX12_readCurves 121 = .ok (.iconst 3, 1) := by decide +kernel
theorem dX12_readCurves_122 : decode cX12_readCurves 122 = .ok (.iadd, 1) := by decide +kernel
theorem dX12_readCurves_123 : decode cX12_readCurves 123 = .ok (.aload_n 0, 1) := by decide +kernel
theorem dX12_readCurves_124 : decode cX12_readCurves 124 = .ok (.iconst 1, 1) := by decide +kernel
theorem dX12_readCurves_125 : decode cX12_readCurves 125 = .ok (.bipush 100, 2) := by decide +kernel
theorem dX12_readCurves_127 : decode cX12_readCurves 127 = .ok (.invokevirtual 195, 3) := by decide +kernel
theorem dX12_readCurves_130 : decode cX12_readCurves 130 = .ok (.iastore, 1) := by decide +kernel
theorem dX12_readCurves_131 : decode cX12_readCurves 131 = .ok (.aload_n 0, 1) := by decide +kernel
theorem dX12_readCurves_132 : decode cX12_readCurves 132 = .ok (.aload_n 0, 1) := by decide +kernel
theorem dX12_readCurves_133 : decode cX12_readCurves 133 = .ok (.getfield 15, 3) := by decide +kernel
theorem dX12_readCurves_136 : decode cX12_readCurves 136 = .ok (.invokevirtual 191, 3) := by decide +kernel
theorem dX12_readCurves_139 : decode cX12_readCurves 139 = .ok (.istore 4, 2) := by decide +kernel
theorem dX12_readCurves_141 : decode cX12_readCurves 141 = .ok (.goto (-121), 3) := by decide +kernel
theorem dX12_readCurves_144 : decode cX12_readCurves 144 = .ok (.return_, 1) := by decide +kernel
theorem dX12_readClass_0 : decode cX12_readClass 0 = .ok (.aload_n 0, 1) := by decide +kernel
theorem dX12_readClass_1 : decode cX12_readClass 1 = .ok (.invokevirtual 188, 3) := by decide +kernel
theorem dX12_readClass_4 : decode cX12_readClass 4 = .ok (.bipush 12, 2) := by decide +kernel
theorem dX12_readClass_6 : decode cX12_readClass 6 = .ok (.if_icmp .ne 8, 3) := by decide +kernel
theorem dX12_readClass_9 : decode cX12_readClass 9 = .ok (.aload_n 0, 1) := by decide +kernel
theorem dX12_readClass_10 : decode cX12_readClass 10 = .ok (.iconst 2, 1) := by decide +kernel
theorem dX12_readClass_11 : decode cX12_readClass 11 = .ok (.invokevirtual 178, 3) := by decide +kernel
theorem dX12_readClass_14 : decode cX12_readClass 14 = .ok (.aload_n 0, 1) := by decide +kernel
theorem dX12_readClass_15 : decode cX12_readClass 15 = .ok (.getfield 160, 3) := by decide +kernel
theorem dX12_readClass_18 : decode cX12_readClass 18 = .ok (.ifCond .eq 4, 3) := by decide +kernel
theorem dX12_readClass_21 : decode cX12_readClass 21 = .ok (.return_, 1) := by decide +kernel
theorem dX12_readClass_22 : decode cX12_readClass 22 = .ok (.aload_n 0, 1) := by decide +kernel
theorem dX12_readClass_23 : decode cX12_readClass 23 = .ok (.invokevirtual 185, 3) := by decide +kernel
theorem dX12_readClass_26 : decode cX12_readClass 26 = .ok (.aload_n 0, 1) := by decide +kernel
theorem dX12_readClass_27 : decode cX12_readClass 27 = .ok (.invokevirtual 188, 3) := by decide +kernel
theorem dX12_readClass_30 : decode cX12_readClass 30 = .ok (.istore_n 1, 1) := by decide +kernel
theorem dX12_readClass_31 : decode cX12_readClass 31 = .ok (.aload_n 0, 1) := by decide +kernel
theorem dX12_readClass_32 : decode cX12_readClass 32 = .ok (.getfield 25, 3) := by decide +kernel
theorem dX12_readClass_35 : decode cX12_readClass 35 = .ok (.bipush 12, 2) := by decide +kernel
theorem dX12_readClass_37 : decode cX12_readClass 37 = .ok (.iload_n 1, 1) := by decide +kernel
theorem dX12_readClass_38 : decode cX12_readClass 38 = .ok (.iadd, 1) := by decide +kernel
theorem dX12_readClass_39 : decode cX12_readClass 39 = .ok (.iconst (-1), 1) := by decide +kernel
theorem dX12_readClass_40 : decode cX12_readClass 40 = .ok (.iastore, 1) := by decide +kernel
theorem dX12_readClass_41 : decode cX12_readClass 41 = .ok (.iconst 0, 1) := by decide +kernel
theorem dX12_readClass_42 : decode cX12_readClass 42 = .ok (.istore_n 2, 1) := by decide +kernel
theorem dX12_readClass_43 : decode cX12_readClass 43 = .ok (.iload_n 2, 1) := by decide +kernel
theorem dX12_readClass_44 : decode cX12_readClass 44 = .ok (.bipush 12, 2) := by decide +kernel
theorem dX12_readClass_46 : decode cX12_readClass 46 = .ok (.if_icmp .ge 24, 3) := by decide +kernel
theorem dX12_readClass_49 : decode cX12_readClass 49 = .ok (.aload_n 0, 1) := by decide +kernel
theorem dX12_readClass_50 : decode cX12_readClass 50 = .ok (.getfield 40, 3) := by decide +kernel
theorem dX12_readClass_53 : decode cX12_readClass 53 = .ok (.bipush 12, 2) := by decide +kernel
theorem dX12_readClass_55 : decode cX12_readClass 55 = .ok (.bipush 12, 2) := by decide +kernel
theorem dX12_readClass_57 : decode cX12_readClass 57 = .ok (.iload_n 1, 1) := by decide +kernel
theorem dX12_readClass_58 : decode cX12_readClass 58 = .ok (.iadd, 1) := by decide +kernel
theorem dX12_readClass_59 : decode cX12_readClass 59 = .ok (.imul, 1) := by decide +kernel
theorem dX12_readClass_60 : decode cX12_readClass 60 = .ok (.iload_n 2, 1) := by decide +kernel
theorem dX12_readClass_61 : decode cX12_readClass 61 = .ok (.iadd, 1) := by decide +kernel
theorem dX12_readClass_62 : decode cX12_readClass 62 = .ok (.iconst 0, 1) := by decide +kernel
theorem dX12_readClass_63 : decode cX12_readClass 63 = .ok (.iastore, 1) := by decide +kernel
theorem dX12_readClass_64 : decode cX12_readClass 64 = .ok (.iinc 2 1, 3) := by decide +kernel
theorem dX12_readClass_67 : decode cX12_readClass 67 = .ok (.goto (-24), 3) := by decide +kernel
theorem dX12_readClass_70 : decode cX12_readClass 70 = .ok (.bipush 12, 2) := by decide +kernel
theorem dX12_readClass_72 : decode cX12_readClass 72 = .ok (.bipush 12, 2) := by decide +kernel
theorem dX12_readClass_74 : decode cX12_readClass 74 = .ok (.iload_n 1, 1) := by decide +kernel
theorem dX12_readClass_75 : decode cX12_readClass 75 = .ok (.iadd, 1) := by decide +kernel
theorem dX12_readClass_76 : decode cX12_readClass 76 = .ok (.imul, 1) := by decide +kernel
theorem dX12_readClass_77 : decode cX12_readClass 77 = .ok (.iconst 4, 1) := by decide +kernel
theorem dX12_readClass_78 : decode cX12_readClass 78 = .ok (.iadd, 1) := by decide +kernel
theorem dX12_readClass_79 : decode cX12_readClass 79 = .ok (.istore_n 2, 1) := by decide +kernel
theorem dX12_readClass_80 : decode cX12_readClass 80 = .ok (.aload_n 0, 1) := by decide +kernel
theorem dX12_readClass_81 : decode cX12_readClass 81 = .ok (.getfield 40, 3) := by decide +kernel
theorem dX12_readClass_84 : decode cX12_readClass 84 = .ok (.iload_n 2, 1) := by decide +kernel
theorem dX12_readClass_85 : decode cX12_readClass 85 = .ok (.iconst 1, 1) := by decide +kernel
theorem dX12_readClass_86 : decode cX12_readClass 86 = .ok (.iastore, 1) := by decide +kernel
theorem dX12_readClass_87 : decode cX12_readClass 87 = .ok (.aload_n 0, 1) := by decide +kernel
theorem dX12_readClass_88 : decode cX12_readClass 88 = .ok (.getfield 40, 3) := by decide +kernel
theorem dX12_readClass_91 : decode cX12_readClass 91 = .ok (.iload_n 2, 1) := by decide +kernel
theorem dX12_readClass_92 : decode cX12_readClass 92 = .ok (.iconst 1, 1) := by decide +kernel
theorem dX12_readClass_93 : decode cX12_readClass 93 = .ok (.iadd, 1) := by decide +kernel
theorem dX12_readClass_94 : decode cX12_readClass 94 = .ok (.bipush 10, 2) := by decide +kernel
theorem dX12_readClass_96 : decode cX12_readClass 96 = .ok (.iastore, 1) := by decide +kernel
theorem dX12_readClass_97 : decode cX12_readClass 97 = .ok (.aload_n 0, 1) := by decide +kernel
theorem dX12_readClass_98 : decode cX12_readClass 98 = .ok (.getfield 40, 3) := by decide +kernel
theorem dX12_readClass_101 : decode cX12_readClass 101 = .ok (.iload_n 2, 1) := by decide +kernel
theorem dX12_readClass_102 : decode cX12_readClass 102 = .ok (.iconst 3, 1) := by decide +kernel
theorem dX12_readClass_103 : decode cX12_readClass 103 = .ok (.iadd, 1) := by decide +kernel
theorem dX12_readClass_104 : decode cX12_readClass 104 = .ok (.bipush 10, 2) := by decide +kernel
theorem dX12_readClass_106 : decode cX12_readClass 106 = .ok (.iastore, 1) := by decide +kernel
theorem dX12_readClass_107 : decode cX12_readClass 107 = .ok (.aload_n 0, 1) := by decide +kernel
theorem dX12_readClass_108 : decode cX12_readClass 108 = .ok (.ldc 198, 2) := by decide +kernel
theorem dX12_readClass_110 : decode cX12_readClass 110 = .ok (.invokevirtual 174, 3) := by decide +kernel
theorem dX12_readClass_113 : decode cX12_readClass 113 = .ok (.ifCond .eq 77, 3) := by decide +kernel
theorem dX12_readClass_116 : decode cX12_readClass 116 = .ok (.aload_n 0, 1) := by decide +kernel
theorem dX12_readClass_117 : decode cX12_readClass 117 = .ok (.invokevirtual 185, 3) := by decide +kernel
theorem dX12_readClass_120 : decode cX12_readClass 120 = .ok (.aload_n 0, 1) := by decide +kernel
theorem dX12_readClass_121 : decode cX12_readClass 121 = .ok (.iconst 0, 1) := by decide +kernel
theorem dX12_readClass_122 : decode cX12_readClass 122 = .ok (.bipush 11, 2) := by decide +kernel
theorem dX12_readClass_124 : decode cX12_readClass 124 = .ok (.invokevirtual 182, 3) := by decide +kernel
theorem dX12_readClass_127 : decode cX12_readClass 127 = .ok (.istore_n 3, 1) := by decide +kernel
theorem dX12_readClass_128 : decode cX12_readClass 128 = .ok (.aload_n 0, 1) := by decide +kernel
theorem dX12_readClass_129 : decode cX12_readClass 129 = .ok (.getfield 160, 3) := by decide +kernel
theorem dX12_readClass_132 : decode cX12_readClass 132 = .ok (.ifCond .ne 37, 3) := by decide +kernel
theorem dX12_readClass_135 : decode cX12_readClass 135 = .ok (.iload_n 3, 1) := by decide +kernel
theorem dX12_readClass_136 : decode cX12_readClass 136 = .ok (.iload_n 1, 1) := by decide +kernel
theorem dX12_readClass_137 : decode cX12_readClass 137 = .ok (.if_icmp .ge 27, 3) := by decide +kernel
theorem dX12_readClass_140 : decode cX12_readClass 140 = .ok (.aload_n 0, 1) := by decide +kernel
theorem dX12_readClass_141 : decode cX12_readClass 141 = .ok (.getfield 40, 3) := by decide +kernel
theorem dX12_readClass_144 : decode cX12_readClass 144 = .ok (.bipush 12, 2) := by decide +kernel
theorem dX12_readClass_146 : decode cX12_readClass 146 = .ok (.bipush 12, 2) := by decide +kernel
theorem dX12_readClass_148 : decode cX12_readClass 148 = .ok (.iload_n 3, 1) := by decide +kernel
theorem dX12_readClass_149 : decode cX12_readClass 149 = .ok (.iadd, 1) := by decide +kernel
theorem dX12_readClass_150 : decode cX12_readClass 150 = .ok (.imul, 1) := by decide +kernel
theorem dX12_readClass_151 : decode cX12_readClass 151 = .ok (.iaload, 1) := by decide +kernel
theorem dX12_readClass_152 : decode cX12_readClass 152 = .ok (.iconst 1, 1) := by decide +kernel
theorem dX12_readClass_153 : decode cX12_readClass 153 = .ok (.if_icmp .eq 11, 3) := by decide +kernel
theorem dX12_readClass_156 : decode cX12_readClass 156 = .ok (.aload_n 0, 1) := by decide +kernel
theorem dX12_readClass_157 : decode cX12_readClass 157 = .ok (.iload_n 3, 1) := by decide +kernel
theorem dX12_readClass_158 : decode cX12_readClass 158 = .ok (.invokevirtual 200, 3) := by decide +kernel
theorem dX12_readClass_161 : decode cX12_readClass 161 = .ok (.ifCond .eq 8, 3) := by decide +kernel
theorem dX12_readClass_164 : decode cX12_readClass 164 = .ok (.aload_n 0, 1) := by decide +kernel
theorem dX12_readClass_165 : decode cX12_readClass 165 = .ok (.iconst 3, 1) := by decide +kernel
theorem dX12_readClass_166 : decode cX12_readClass 166 = .ok (.invokevirtual 178, 3) := by decide +kernel
theorem dX12_readClass_169 : decode cX12_readClass 169 = .ok (.aload_n 0, 1) := by decide +kernel
theorem dX12_readClass_170 : decode cX12_readClass 170 = .ok (.getfield 160, 3) := by decide +kernel
theorem dX12_readClass_173 : decode cX12_readClass 173 = .ok (.ifCond .ne 7, 3) := by decide +kernel
theorem dX12_readClass_176 : decode cX12_readClass 176 = .ok (.aload_n 0, 1) := by decide +kernel
theorem dX12_readClass_177 : decode cX12_readClass 177 = .ok (.invokevirtual 185, 3) := by decide +kernel
theorem dX12_readClass_180 : decode cX12_readClass 180 = .ok (.aload_n 0, 1) := by decide +kernel
theorem dX12_readClass_181 : decode cX12_readClass 181 = .ok (.getfield 25, 3) := by decide +kernel
theorem dX12_readClass_184 : decode cX12_readClass 184 = .ok (.bipush 12, 2) := by decide +kernel
theorem dX12_readClass_186 : decode cX12_readClass 186 = .ok (.iload_n 1, 1) := by decide +kernel
theorem dX12_readClass_187 : decode cX12_readClass 187 = .ok (.iadd, 1) := by decide +kernel
theorem dX12_readClass_188 : decode cX12_readClass 188 = .ok (.iload_n 3, 1) := by decide +kernel
theorem dX12_readClass_189 : decode cX12_readClass 189 = .ok (.iastore, 1) := by decide +kernel
theorem dX12_readClass_190 : decode cX12_readClass 190 = .ok (.aload_n 0, 1) := by decide +kernel
theorem dX12_readClass_191 : decode cX12_readClass 191 = .ok (.iload_n 1, 1) := by decide +kernel
theorem dX12_readClass_192 : decode cX12_readClass 192 = .ok (.invokevirtual 203, 3) := by decide +kernel
theorem dX12_readClass_195 : decode cX12_readClass 195 = .ok (.aload_n 0, 1) := by decide +kernel
theorem dX12_readClass_196 : decode cX12_readClass 196 = .ok (.getfield 21, 3) := by decide +kernel
theorem dX12_readClass_199 : decode cX12_readClass 199 = .ok (.iconst 2, 1) := by decide +kernel
theorem dX12_readClass_200 : decode cX12_readClass 200 = .ok (.dup2, 1) := by decide +kernel
theorem dX12_readClass_201 : decode cX12_readClass 201 = .ok (.iaload, 1) := by decide +kernel
theorem dX12_readClass_202 : decode cX12_readClass 202 = .ok (.iconst 1, 1) := by decide +kernel
theorem dX12_readClass_203 : decode cX12_readClass 203 = .ok (.iadd, 1) := by decide +kernel
theorem dX12_readClass_204 : decode cX12_readClass 204 = .ok (.iastore, 1) := by decide +kernel
theorem dX12_readClass_205 : decode cX12_readClass 205 = .ok (.return_, 1) := by decide +kernel
theorem dX12_readFlow_0 : decode cX12_readFlow 0 = .ok (.aload_n 0, 1) := by decide +kernel
theorem dX12_readFlow_1 : decode cX12_readFlow 1 = .ok (.getfield 21, 3) := by decide +kernel
theorem dX12_readFlow_4 : decode cX12_readFlow 4 = .ok (.iconst 3, 1) := by decide +kernel
theorem dX12_readFlow_5 : decode cX12_readFlow 5 = .ok (.iaload, 1) := by decide +kernel
theorem dX12_readFlow_6 : decode cX12_readFlow 6 = .ok (.bipush 8, 2) := by decide +kernel
theorem dX12_readFlow_8 : decode cX12_readFlow 8 = .ok (.if_icmp .ne 8, 3) := by decide +kernel
theorem dX12_readFlow_11 : decode cX12_readFlow 11 = .ok (.aload_n 0, 1) := by decide +kernel
theorem dX12_readFlow_12 : decode cX12_readFlow 12 = .ok (.iconst 2, 1) := by decide +kernel
theorem dX12_readFlow_13 : decode cX12_readFlow 13 = .ok (.invokevirtual 178, 3) := by decide +kernel
theorem dX12_readFlow_16 : decode cX12_readFlow 16 = .ok (.aload_n 0, 1) := by decide +kernel
theorem dX12_readFlow_17 : decode cX12_readFlow 17 = .ok (.getfield 160, 3) := by decide +kernel
theorem dX12_readFlow_20 : decode cX12_readFlow 20 = .ok (.ifCond .eq 4, 3) := by decide +kernel
theorem dX12_readFlow_23 : decode cX12_readFlow 23 = .ok (.return_, 1) := by decide +kernel
theorem dX12_readFlow_24 : decode cX12_readFlow 24 = .ok (.aload_n 0, 1) := by decide +kernel
theorem dX12_readFlow_25 : decode cX12_readFlow 25 = .ok (.invokevirtual 185, 3) := by decide +kernel
theorem dX12_readFlow_28 : decode cX12_readFlow 28 = .ok (.aload_n 0, 1) := by decide +kernel
theorem dX12_readFlow_29 : decode cX12_readFlow 29 = .ok (.getfield 21, 3) := by decide +kernel
theorem dX12_readFlow_32 : decode cX12_readFlow 32 = .ok (.iconst 3, 1) := by decide +kernel
theorem dX12_readFlow_33 : decode cX12_readFlow 33 = .ok (.iaload, 1) := by decide +kernel
theorem dX12_readFlow_34 : decode cX12_readFlow 34 = .ok (.istore_n 1, 1) := by decide +kernel
theorem dX12_readFlow_35 : decode cX12_readFlow 35 = .ok (.aload_n 0, 1) := by decide +kernel
theorem dX12_readFlow_36 : decode cX12_readFlow 36 = .ok (.iconst 0, 1) := by decide +kernel
theorem dX12_readFlow_37 : decode cX12_readFlow 37 = .ok (.bipush 11, 2) := by decide +kernel
theorem dX12_readFlow_39 : decode cX12_readFlow 39 = .ok (.invokevirtual 182, 3) := by decide +kernel
theorem dX12_readFlow_42 : decode cX12_readFlow 42 = .ok (.istore_n 2, 1) := by decide +kernel
theorem dX12_readFlow_43 : decode cX12_readFlow 43 = .ok (.aload_n 0, 1) := by decide +kernel
theorem dX12_readFlow_44 : decode cX12_readFlow 44 = .ok (.getfield 160, 3) := by decide +kernel
theorem dX12_readFlow_47 : decode cX12_readFlow 47 = .ok (.ifCond .ne 24, 3) := by decide +kernel
theorem dX12_readFlow_50 : decode cX12_readFlow 50 = .ok (.iload_n 2, 1) := by decide +kernel
theorem dX12_readFlow_51 : decode cX12_readFlow 51 = .ok (.aload_n 0, 1) := by decide +kernel
theorem dX12_readFlow_52 : decode cX12_readFlow 52 = .ok (.invokevirtual 188, 3) := by decide +kernel
theorem dX12_readFlow_55 : decode cX12_readFlow 55 = .ok (.if_icmp .ge 11, 3) := by decide +kernel
theorem dX12_readFlow_58 : decode cX12_readFlow 58 = .ok (.aload_n 0, 1) := by decide +kernel
theorem dX12_readFlow_59 : decode cX12_readFlow 59 = .ok (.iload_n 2, 1) := by decide +kernel
theorem dX12_readFlow_60 : decode cX12_readFlow 60 = .ok (.invokevirtual 206, 3) := by decide +kernel
theorem dX12_readFlow_63 : decode cX12_readFlow 63 = .ok (.ifCond .ne 8, 3) := by decide +kernel
theorem dX12_readFlow_66 : decode cX12_readFlow 66 = .ok (.aload_n 0, 1) := by decide +kernel
theorem dX12_readFlow_67 : decode cX12_readFlow 67 = .ok (.iconst 3, 1) := by decide +kernel
theorem dX12_readFlow_68 : decode cX12_readFlow 68 = .ok (.invokevirtual 178, 3) := by decide +kernel
theorem dX12_readFlow_71 : decode cX12_readFlow 71 = .ok (.aload_n 0, 1) := by decide +kernel
theorem dX12_readFlow_72 : decode cX12_readFlow 72 = .ok (.getfield 160, 3) := by decide +kernel
theorem dX12_readFlow_75 : decode cX12_readFlow 75 = .ok (.ifCond .ne 7, 3) := by decide +kernel
theorem dX12_readFlow_78 : decode cX12_readFlow 78 = .ok (.aload_n 0, 1) := by decide +kernel
theorem dX12_readFlow_79 : decode cX12_readFlow 79 = .ok (.invokevirtual 185, 3) := by decide +kernel
theorem dX12_readFlow_82 : decode cX12_readFlow 82 = .ok (.aload_n 0, 1) := by decide +kernel
theorem dX12_readFlow_83 : decode cX12_readFlow 83 = .ok (.getfield 28, 3) := by decide +kernel
theorem dX12_readFlow_86 : decode cX12_readFlow 86 = .ok (.bipush 8, 2) := by decide +kernel
theorem dX12_readFlow_88 : decode cX12_readFlow 88 = .ok (.iload_n 1, 1) := by decide +kernel
theorem dX12_readFlow_89 : decode cX12_readFlow 89 = .ok (.iadd, 1) := by decide +kernel
theorem dX12_readFlow_90 : decode cX12_readFlow 90 = .ok (.iload_n 2, 1) := by decide +kernel
theorem dX12_readFlow_91 : decode cX12_readFlow 91 = .ok (.iastore, 1) := by decide +kernel
theorem dX12_readFlow_92 : decode cX12_readFlow 92 = .ok (.aload_n 0, 1) := by decide +kernel
theorem dX12_readFlow_93 : decode cX12_readFlow 93 = .ok (.getfield 31, 3) := by decide +kernel
theorem dX12_readFlow_96 : decode cX12_readFlow 96 = .ok (.bipush 8, 2) := by decide +kernel
theorem dX12_readFlow_98 : decode cX12_readFlow 98 = .ok (.iload_n 1, 1) := by decide +kernel
theorem dX12_readFlow_99 : decode cX12_readFlow 99 = .ok (.iadd, 1) := by decide +kernel
theorem dX12_readFlow_100 : decode cX12_readFlow 100 = .ok (.aload_n 0, 1) := by decide +kernel
theorem dX12_readFlow_101 : decode cX12_readFlow 101 = .ok (.iconst 1, 1) := by decide +kernel
theorem dX12_readFlow_102 : decode cX12_readFlow 102 = .ok (.sipush 200, 3) := by decide +kernel
theorem dX12_readFlow_105 : decode cX12_readFlow 105 = .ok (.invokevirtual 195, 3) := by decide +kernel
theorem dX12_readFlow_108 : decode cX12_readFlow 108 = .ok (.iastore, 1) := by decide +kernel
theorem dX12_readFlow_109 : decode cX12_readFlow 109 = .ok (.aload_n 0, 1) := by decide +kernel
theorem dX12_readFlow_110 : decode cX12_readFlow 110 = .ok (.getfield 34, 3) := by decide +kernel
theorem dX12_readFlow_113 : decode cX12_readFlow 113 = .ok (.bipush 8, 2) := by decide +kernel
theorem dX12_readFlow_115 : decode cX12_readFlow 115 = .ok (.iload_n 1, 1) := by decide +kernel
theorem dX12_readFlow_116 : decode cX12_readFlow 116 = .ok (.iadd, 1) := by decide +kernel
theorem dX12_readFlow_117 : decode cX12_readFlow 117 = .ok (.aload_n 0, 1) := by decide +kernel
theorem dX12_readFlow_118 : decode cX12_readFlow 118 = .ok (.iconst 0, 1) := by decide +kernel
theorem dX12_readFlow_119 : decode cX12_readFlow 119 = .ok (.sipush 199, 3) := by decide +kernel
theorem dX12_readFlow_122 : decode cX12_readFlow 122 = .ok (.invokevirtual 195, 3) := by decide +kernel
theorem dX12_readFlow_125 : decode cX12_readFlow 125 = .ok (.iastore, 1) := by decide +kernel
theorem dX12_readFlow_126 : decode cX12_readFlow 126 = .ok (.aload_n 0, 1) := by decide +kernel
theorem dX12_readFlow_127 : decode cX12_readFlow 127 = .ok (.getfield 37, 3) := by decide +kernel
theorem dX12_readFlow_130 : decode cX12_readFlow 130 = .ok (.bipush 8, 2) := by decide +kernel
theorem dX12_readFlow_132 : decode cX12_readFlow 132 = .ok (.iload_n 1, 1) := by decide +kernel
theorem dX12_readFlow_133 : decode cX12_readFlow 133 = .ok (.iadd, 1) := by decide +kernel
theorem dX12_readFlow_134 : decode cX12_readFlow 134 = .ok (.aload_n 0, 1) := by decide +kernel
theorem dX12_readFlow_135 : decode cX12_readFlow 135 = .ok (.iconst 1, 1) := by decide +kernel
theorem dX12_readFlow_136 : decode cX12_readFlow 136 = .ok (.bipush 64, 2) := by decide +kernel
theorem dX12_readFlow_138 : decode cX12_readFlow 138 = .ok (.invokevirtual 195, 3) := by decide +kernel
theorem dX12_readFlow_141 : decode cX12_readFlow 141 = .ok (.iastore, 1) := by decide +kernel
theorem dX12_readFlow_142 : decode cX12_readFlow 142 = .ok (.aload_n 0, 1) := by decide +kernel
theorem dX12_readFlow_143 : decode cX12_readFlow 143 = .ok (.getfield 21, 3) := by decide +kernel
theorem dX12_readFlow_146 : decode cX12_readFlow 146 = .ok (.iconst 3, 1) := by decide +kernel
theorem dX12_readFlow_147 : decode cX12_readFlow 147 = .ok (.dup2, 1) := by decide +kernel
theorem dX12_readFlow_148 : decode cX12_readFlow 148 = .ok (.iaload, 1) := by decide +kernel
theorem dX12_readFlow_149 : decode cX12_readFlow 149 = .ok (.iconst 1, 1) := by decide +kernel
theorem dX12_readFlow_150 : decode cX12_readFlow 150 = .ok (.iadd, 1) := by decide +kernel
theorem dX12_readFlow_151 : decode cX12_readFlow 151 = .ok (.iastore, 1) := by decide +kernel
theorem dX12_readFlow_152 : decode cX12_readFlow 152 = .ok (.return_, 1) := by decide +kernel
theorem dX12_readClause_0 : decode cX12_readClause 0 = .ok (.aload_n 0, 1) := by decide +kernel
theorem dX12_readClause_1 : decode cX12_readClause 1 = .ok (.ldc 209, 2) := by decide +kernel
theorem dX12_readClause_3 : decode cX12_readClause 3 = .ok (.invokevirtual 174, 3) := by decide +kernel
theorem dX12_readClause_6 : decode cX12_readClause 6 = .ok (.ifCond .eq 10, 3) := by decide +kernel
theorem dX12_readClause_9 : decode cX12_readClause 9 = .ok (.aload_n 0, 1) := by decide +kernel
theorem dX12_readClause_10 : decode cX12_readClause 10 = .ok (.invokevirtual 211, 3) := by decide +kernel
theorem dX12_readClause_13 : decode cX12_readClause 13 = .ok (.goto 24, 3) := by decide +kernel
theorem dX12_readClause_16 : decode cX12_readClause 16 = .ok (.aload_n 0, 1) := by decide +kernel
theorem dX12_readClause_17 : decode cX12_readClause 17 = .ok (.ldc 214, 2) := by decide +kernel
theorem dX12_readClause_19 : decode cX12_readClause 19 = .ok (.invokevirtual 174, 3) := by decide +kernel
theorem dX12_readClause_22 : decode cX12_readClause 22 = .ok (.ifCond .eq 10, 3) := by decide +kernel
theorem dX12_readClause_25 : decode cX12_readClause 25 = .ok (.aload_n 0, 1) := by decide +kernel
theorem dX12_readClause_26 : decode cX12_readClause 26 = .ok (.invokevirtual 216, 3) := by decide +kernel
theorem dX12_readClause_29 : decode cX12_readClause 29 = .ok (.goto 8, 3) := by decide +kernel
theorem dX12_readClause_32 : decode cX12_readClause 32 = .ok (.aload_n 0, 1) := by decide +kernel
theorem dX12_readClause_33 : decode cX12_readClause 33 = .ok (.iconst 1, 1) := by decide +kernel
theorem dX12_readClause_34 : decode cX12_readClause 34 = .ok (.invokevirtual 178, 3) := by decide +kernel
theorem dX12_readClause_37 : decode cX12_readClause 37 = .ok (.aload_n 0, 1) := by decide +kernel
theorem dX12_readClause_38 : decode cX12_readClause 38 = .ok (.getfield 160, 3) := by decide +kernel
theorem dX12_readClause_41 : decode cX12_readClause 41 = .ok (.ifCond .ne 16, 3) := by decide +kernel
theorem dX12_readClause_44 : decode cX12_readClause 44 = .ok (.aload_n 0, 1) := by decide +kernel
theorem dX12_readClause_45 : decode cX12_readClause 45 = .ok (.getfield 137, 3) := by decide +kernel
theorem dX12_readClause_48 : decode cX12_readClause 48 = .ok (.iconst 3, 1) := by decide +kernel
theorem dX12_readClause_49 : decode cX12_readClause 49 = .ok (.if_icmp .eq 8, 3) := by decide +kernel
theorem dX12_readClause_52 : decode cX12_readClause 52 = .ok (.aload_n 0, 1) := by decide +kernel
theorem dX12_readClause_53 : decode cX12_readClause 53 = .ok (.iconst 1, 1) := by decide +kernel
theorem dX12_readClause_54 : decode cX12_readClause 54 = .ok (.invokevirtual 178, 3) := by decide +kernel
theorem dX12_readClause_57 : decode cX12_readClause 57 = .ok (.aload_n 0, 1) := by decide +kernel
theorem dX12_readClause_58 : decode cX12_readClause 58 = .ok (.getfield 160, 3) := by decide +kernel
theorem dX12_readClause_61 : decode cX12_readClause 61 = .ok (.ifCond .ne 7, 3) := by decide +kernel
theorem dX12_readClause_64 : decode cX12_readClause 64 = .ok (.aload_n 0, 1) := by decide +kernel
theorem dX12_readClause_65 : decode cX12_readClause 65 = .ok (.invokevirtual 185, 3) := by decide +kernel
theorem dX12_readClause_68 : decode cX12_readClause 68 = .ok (.return_, 1) := by decide +kernel
theorem dX12_link_0 : decode cX12_link 0 = .ok (.aload_n 0, 1) := by decide +kernel
theorem dX12_link_1 : decode cX12_link 1 = .ok (.iconst 0, 1) := by decide +kernel
theorem dX12_link_2 : decode cX12_link 2 = .ok (.putfield 118, 3) := by decide +kernel
theorem dX12_link_5 : decode cX12_link 5 = .ok (.iload_n 1, 1) := by decide +kernel
theorem dX12_link_6 : decode cX12_link 6 = .ok (.ifCond .lt 11, 3) := by decide +kernel
theorem dX12_link_9 : decode cX12_link 9 = .ok (.iload_n 1, 1) := by decide +kernel
theorem dX12_link_10 : decode cX12_link 10 = .ok (.aload_n 0, 1) := by decide +kernel
theorem dX12_link_11 : decode cX12_link 11 = .ok (.getfield 121, 3) := by decide +kernel
theorem dX12_link_14 : decode cX12_link 14 = .ok (.if_icmp .le 9, 3) := by decide +kernel
theorem dX12_link_17 : decode cX12_link 17 = .ok (.aload_n 0, 1) := by decide +kernel
theorem dX12_link_18 : decode cX12_link 18 = .ok (.iconst 1, 1) := by decide +kernel
theorem dX12_link_19 : decode cX12_link 19 = .ok (.invokevirtual 219, 3) := by decide +kernel
theorem dX12_link_22 : decode cX12_link 22 = .ok (.ireturn, 1) := by decide +kernel
theorem dX12_link_23 : decode cX12_link 23 = .ok (.aload_n 0, 1) := by decide +kernel
theorem dX12_link_24 : decode cX12_link 24 = .ok (.iconst 0, 1) := by decide +kernel
theorem dX12_link_25 : decode cX12_link 25 = .ok (.putfield 121, 3) := by decide +kernel
theorem dX12_link_28 : decode cX12_link 28 = .ok (.aload_n 0, 1) := by decide +kernel
theorem dX12_link_29 : decode cX12_link 29 = .ok (.iload_n 1, 1) := by decide +kernel
theorem dX12_link_30 : decode cX12_link 30 = .ok (.putfield 124, 3) := by decide +kernel
theorem dX12_link_33 : decode cX12_link 33 = .ok (.aload_n 0, 1) := by decide +kernel
theorem dX12_link_34 : decode cX12_link 34 = .ok (.iconst 0, 1) := by decide +kernel
theorem dX12_link_35 : decode cX12_link 35 = .ok (.putfield 127, 3) := by decide +kernel
theorem dX12_link_38 : decode cX12_link 38 = .ok (.aload_n 0, 1) := by decide +kernel
theorem dX12_link_39 : decode cX12_link 39 = .ok (.iconst 0, 1) := by decide +kernel
theorem dX12_link_40 : decode cX12_link 40 = .ok (.putfield 160, 3) := by decide +kernel
theorem dX12_link_43 : decode cX12_link 43 = .ok (.aload_n 0, 1) := by decide +kernel
theorem dX12_link_44 : decode cX12_link 44 = .ok (.iconst (-1), 1) := by decide +kernel
theorem dX12_link_45 : decode cX12_link 45 = .ok (.putfield 52, 3) := by decide +kernel
theorem dX12_link_48 : decode cX12_link 48 = .ok (.aload_n 0, 1) := by decide +kernel
theorem dX12_link_49 : decode cX12_link 49 = .ok (.getfield 21, 3) := by decide +kernel
theorem dX12_link_52 : decode cX12_link 52 = .ok (.iconst 2, 1) := by decide +kernel
theorem dX12_link_53 : decode cX12_link 53 = .ok (.iconst 0, 1) := by decide +kernel
theorem dX12_link_54 : decode cX12_link 54 = .ok (.iastore, 1) := by decide +kernel
theorem dX12_link_55 : decode cX12_link 55 = .ok (.aload_n 0, 1) := by decide +kernel
theorem dX12_link_56 : decode cX12_link 56 = .ok (.getfield 21, 3) := by decide +kernel
theorem dX12_link_59 : decode cX12_link 59 = .ok (.iconst 3, 1) := by decide +kernel
theorem dX12_link_60 : decode cX12_link 60 = .ok (.iconst 0, 1) := by decide +kernel
theorem dX12_link_61 : decode cX12_link 61 = .ok (.iastore, 1) := by decide +kernel
theorem dX12_link_62 : decode cX12_link 62 = .ok (.aload_n 0, 1) := by decide +kernel
theorem dX12_link_63 : decode cX12_link 63 = .ok (.invokevirtual 185, 3) := by decide +kernel
theorem dX12_link_66 : decode cX12_link 66 = .ok (.aload_n 0, 1) := by decide +kernel
theorem dX12_link_67 : decode cX12_link 67 = .ok (.getfield 160, 3) := by decide +kernel
theorem dX12_link_70 : decode cX12_link 70 = .ok (.ifCond .ne 17, 3) := by decide +kernel
theorem dX12_link_73 : decode cX12_link 73 = .ok (.aload_n 0, 1) := by decide +kernel
theorem dX12_link_74 : decode cX12_link 74 = .ok (.getfield 137, 3) := by decide +kernel
theorem dX12_link_77 : decode cX12_link 77 = .ok (.ifCond .eq 10, 3) := by decide +kernel
theorem dX12_link_80 : decode cX12_link 80 = .ok (.aload_n 0, 1) := by decide +kernel
theorem dX12_link_81 : decode cX12_link 81 = .ok (.invokevirtual 222, 3) := by decide +kernel
theorem dX12_link_84 : decode cX12_link 84 = .ok (.goto (-18), 3) := by decide +kernel
theorem dX12_link_87 : decode cX12_link 87 = .ok (.aload_n 0, 1) := by decide +kernel
theorem dX12_link_88 : decode cX12_link 88 = .ok (.getfield 160, 3) := by decide +kernel
theorem dX12_link_91 : decode cX12_link 91 = .ok (.ifCond .eq 26, 3) := by decide +kernel
theorem dX12_link_94 : decode cX12_link 94 = .ok (.aload_n 0, 1) := by decide +kernel
theorem dX12_link_95 : decode cX12_link 95 = .ok (.aload_n 0, 1) := by decide +kernel
theorem dX12_link_96 : decode cX12_link 96 = .ok (.getfield 163, 3) := by decide +kernel
theorem dX12_link_99 : decode cX12_link 99 = .ok (.putfield 52, 3) := by decide +kernel
theorem dX12_link_102 : decode cX12_link 102 = .ok (.aload_n 0, 1) := by decide +kernel
theorem dX12_link_103 : decode cX12_link 103 = .ok (.getfield 46, 3) := by decide +kernel
theorem dX12_link_106 : decode cX12_link 106 = .ok (.iconst 0, 1) := by decide +kernel
theorem dX12_link_107 : decode cX12_link 107 = .ok (.dup2, 1) := by decide +kernel
theorem dX12_link_108 : decode cX12_link 108 = .ok (.iaload, 1) := by decide +kernel
theorem dX12_link_109 : decode cX12_link 109 = .ok (.iconst 1, 1) := by decide +kernel
theorem dX12_link_110 : decode cX12_link 110 = .ok (.iadd, 1) := by decide +kernel
theorem dX12_link_111 : decode cX12_link 111 = .ok (.iastore, 1) := by decide +kernel
theorem dX12_link_112 : decode cX12_link 112 = .ok (.aload_n 0, 1) := by decide +kernel
theorem dX12_link_113 : decode cX12_link 113 = .ok (.getfield 160, 3) := by decide +kernel
theorem dX12_link_116 : decode cX12_link 116 = .ok (.ireturn, 1) := by decide +kernel
theorem dX12_link_117 : decode cX12_link 117 = .ok (.aload_n 0, 1) := by decide +kernel
theorem dX12_link_118 : decode cX12_link 118 = .ok (.invokevirtual 225, 3) := by decide +kernel
theorem dX12_link_121 : decode cX12_link 121 = .ok (.iconst 0, 1) := by decide +kernel
theorem dX12_link_122 : decode cX12_link 122 = .ok (.ireturn, 1) := by decide +kernel
theorem dX12_takeHalf_0 : decode cX12_takeHalf 0 = .ok (.iconst 0, 1) := by decide +kernel
theorem dX12_takeHalf_1 : decode cX12_takeHalf 1 = .ok (.istore_n 1, 1) := by decide +kernel
theorem dX12_takeHalf_2 : decode cX12_takeHalf 2 = .ok (.iload_n 1, 1) := by decide +kernel
theorem dX12_takeHalf_3 : decode cX12_takeHalf 3 = .ok (.aload_n 0, 1) := by decide +kernel
theorem dX12_takeHalf_4 : decode cX12_takeHalf 4 = .ok (.arraylength, 1) := by decide +kernel
theorem dX12_takeHalf_5 : decode cX12_takeHalf 5 = .ok (.iconst 2, 1) := by decide +kernel
theorem dX12_takeHalf_6 : decode cX12_takeHalf 6 = .ok (.idiv, 1) := by decide +kernel
theorem dX12_takeHalf_7 : decode cX12_takeHalf 7 = .ok (.if_icmp .ge 20, 3) := by decide +kernel
theorem dX12_takeHalf_10 : decode cX12_takeHalf 10 = .ok (.aload_n 0, 1) := by decide +kernel
theorem dX12_takeHalf_11 : decode cX12_takeHalf 11 = .ok (.iload_n 1, 1) := by decide +kernel
theorem dX12_takeHalf_12 : decode cX12_takeHalf 12 = .ok (.aload_n 0, 1) := by decide +kernel
theorem dX12_takeHalf_13 : decode cX12_takeHalf 13 = .ok (.aload_n 0, 1) := by decide +kernel
theorem dX12_takeHalf_14 : decode cX12_takeHalf 14 = .ok (.arraylength, 1) := by decide +kernel
theorem dX12_takeHalf_15 : decode cX12_takeHalf 15 = .ok (.iconst 2, 1) := by decide +kernel
theorem dX12_takeHalf_16 : decode cX12_takeHalf 16 = .ok (.idiv, 1) := by decide +kernel
theorem dX12_takeHalf_17 : decode cX12_takeHalf 17 = .ok (.iload_n 1, 1) := by decide +kernel
theorem dX12_takeHalf_18 : decode cX12_takeHalf 18 = .ok (.iadd, 1) := by decide +kernel
theorem dX12_takeHalf_19 : decode cX12_takeHalf 19 = .ok (.iaload, 1) := by decide +kernel
theorem dX12_takeHalf_20 : decode cX12_takeHalf 20 = .ok (.iastore, 1) := by decide +kernel
theorem dX12_takeHalf_21 : decode cX12_takeHalf 21 = .ok (.iinc 1 1, 3) := by decide +kernel
theorem dX12_takeHalf_24 : decode cX12_takeHalf 24 = .ok (.goto (-22), 3) := by decide +kernel
theorem dX12_takeHalf_27 : decode cX12_takeHalf 27 = .ok (.return_, 1) := by decide +kernel
theorem dX12_takeOver_0 : decode cX12_takeOver 0 = .ok (.aload_n 0, 1) := by decide +kernel
theorem dX12_takeOver_1 : decode cX12_takeOver 1 = .ok (.getfield 21, 3) := by decide +kernel
theorem dX12_takeOver_4 : decode cX12_takeOver 4 = .ok (.invokestatic 228, 3) := by decide +kernel
theorem dX12_takeOver_7 : decode cX12_takeOver 7 = .ok (.aload_n 0, 1) := by decide +kernel
theorem dX12_takeOver_8 : decode cX12_takeOver 8 = .ok (.getfield 25, 3) := by decide +kernel
theorem dX12_takeOver_11 : decode cX12_takeOver 11 = .ok (.invokestatic 228, 3) := by decide +kernel
theorem dX12_takeOver_14 : decode cX12_takeOver 14 = .ok (.aload_n 0, 1) := by decide +kernel
theorem dX12_takeOver_15 : decode cX12_takeOver 15 = .ok (.getfield 28, 3) := by decide +kernel
theorem dX12_takeOver_18 : decode cX12_takeOver 18 = .ok (.invokestatic 228, 3) := by decide +kernel
theorem dX12_takeOver_21 : decode cX12_takeOver 21 = .ok (.aload_n 0, 1) := by decide +kernel
theorem dX12_takeOver_22 : decode cX12_takeOver 22 = .ok (.getfield 31, 3) := by decide +kernel
theorem dX12_takeOver_25 : decode cX12_takeOver 25 = .ok (.invokestatic 228, 3) := by decide +kernel
theorem dX12_takeOver_28 : decode cX12_takeOver 28 = .ok (.aload_n 0, 1) := by decide +kernel
theorem dX12_takeOver_29 : decode cX12_takeOver 29 = .ok (.getfield 34, 3) := by decide +kernel
theorem dX12_takeOver_32 : decode cX12_takeOver 32 = .ok (.invokestatic 228, 3) := by decide +kernel
theorem dX12_takeOver_35 : decode cX12_takeOver 35 = .ok (.aload_n 0, 1) := by decide +kernel
theorem dX12_takeOver_36 : decode cX12_takeOver 36 = .ok (.getfield 37, 3) := by decide +kernel
theorem dX12_takeOver_39 : decode cX12_takeOver 39 = .ok (.invokestatic 228, 3) := by decide +kernel
theorem dX12_takeOver_42 : decode cX12_takeOver 42 = .ok (.aload_n 0, 1) := by decide +kernel
theorem dX12_takeOver_43 : decode cX12_takeOver 43 = .ok (.getfield 40, 3) := by decide +kernel
theorem dX12_takeOver_46 : decode cX12_takeOver 46 = .ok (.invokestatic 228, 3) := by decide +kernel
theorem dX12_takeOver_49 : decode cX12_takeOver 49 = .ok (.iconst 0, 1) := by decide +kernel
theorem dX12_takeOver_50 : decode cX12_takeOver 50 = .ok (.istore_n 1, 1) := by decide +kernel
theorem dX12_takeOver_51 : decode cX12_takeOver 51 = .ok (.iload_n 1, 1) := by decide +kernel
theorem dX12_takeOver_52 : decode cX12_takeOver 52 = .ok (.sipush 3099, 3) := by decide +kernel
theorem dX12_takeOver_55 : decode cX12_takeOver 55 = .ok (.if_icmp .ge 16, 3) := by decide +kernel
theorem dX12_takeOver_58 : decode cX12_takeOver 58 = .ok (.aload_n 0, 1) := by decide +kernel
theorem dX12_takeOver_59 : decode cX12_takeOver 59 = .ok (.getfield 43, 3) := by decide +kernel
theorem dX12_takeOver_62 : decode cX12_takeOver 62 = .ok (.iload_n 1, 1) := by decide +kernel
theorem dX12_takeOver_63 : decode cX12_takeOver 63 = .ok (.iconst 0, 1) := by decide +kernel
theorem dX12_takeOver_64 : decode cX12_takeOver 64 = .ok (.iastore, 1) := by decide +kernel
theorem dX12_takeOver_65 : decode cX12_takeOver 65 = .ok (.iinc 1 1, 3) := by decide +kernel
theorem dX12_takeOver_68 : decode cX12_takeOver 68 = .ok (.goto (-17), 3) := by decide +kernel
theorem dX12_takeOver_71 : decode cX12_takeOver 71 = .ok (.iconst 0, 1) := by decide +kernel
theorem dX12_takeOver_72 : decode cX12_takeOver 72 = .ok (.istore_n 1, 1) := by decide +kernel
theorem dX12_takeOver_73 : decode cX12_takeOver 73 = .ok (.iload_n 1, 1) := by decide +kernel
theorem dX12_takeOver_74 : decode cX12_takeOver 74 = .ok (.aload_n 0, 1) := by decide +kernel
theorem dX12_takeOver_75 : decode cX12_takeOver 75 = .ok (.getfield 21, 3) := by decide +kernel
theorem dX12_takeOver_78 : decode cX12_takeOver 78 = .ok (.iconst 0, 1) := by decide +kernel
theorem dX12_takeOver_79 : decode cX12_takeOver 79 = .ok (.iaload, 1) := by decide +kernel
theorem dX12_takeOver_80 : decode cX12_takeOver 80 = .ok (.if_icmp .ge 46, 3) := by decide +kernel
theorem dX12_takeOver_83 : decode cX12_takeOver 83 = .ok (.iconst 0, 1) := by decide +kernel
theorem dX12_takeOver_84 : decode cX12_takeOver 84 = .ok (.istore_n 2, 1) := by decide +kernel
theorem dX12_takeOver_85 : decode cX12_takeOver 85 = .ok (.iload_n 2, 1) := by decide +kernel
theorem dX12_takeOver_86 : decode cX12_takeOver 86 = .ok (.bipush 12, 2) := by decide +kernel
theorem dX12_takeOver_88 : decode cX12_takeOver 88 = .ok (.if_icmp .ge 32, 3) := by decide +kernel
theorem dX12_takeOver_91 : decode cX12_takeOver 91 = .ok (.aload_n 0, 1) := by decide +kernel
theorem dX12_takeOver_92 : decode cX12_takeOver 92 = .ok (.getfield 43, 3) := by decide +kernel
theorem dX12_takeOver_95 : decode cX12_takeOver 95 = .ok (.sipush 257, 3) := by decide +kernel
theorem dX12_takeOver_98 : decode cX12_takeOver 98 = .ok (.iload_n 1, 1) := by decide +kernel
theorem dX12_takeOver_99 : decode cX12_takeOver 99 = .ok (.imul, 1) := by decide +kernel
theorem dX12_takeOver_100 : decode cX12_takeOver 100 = .ok (.iload_n 2, 1) := by decide +kernel
theorem dX12_takeOver_101 : decode cX12_takeOver 101 = .ok (.iadd, 1) := by decide +kernel
theorem dX12_takeOver_102 : decode cX12_takeOver 102 = .ok (.aload_n 0, 1) := by decide +kernel
theorem dX12_takeOver_103 : decode cX12_takeOver 103 = .ok (.getfield 40, 3) := by decide +kernel
theorem dX12_takeOver_106 : decode cX12_takeOver 106 = .ok (.bipush 12, 2) := by decide +kernel
theorem dX12_takeOver_108 : decode cX12_takeOver 108 = .ok (.iload_n 1, 1) := by decide +kernel
theorem dX12_takeOver_109 : decode cX12_takeOver 109 = .ok (.imul, 1) := by decide +kernel
theorem dX12_takeOver_110 : decode cX12_takeOver 110 = .ok (.iload_n 2, 1) := by decide +kernel
theorem dX12_takeOver_111 : decode cX12_takeOver 111 = .ok (.iadd, 1) := by decide +kernel
theorem dX12_takeOver_112 : decode cX12_takeOver 112 = .ok (.iaload, 1) := by decide +kernel
theorem dX12_takeOver_113 : decode cX12_takeOver 113 = .ok (.iastore, 1) := by decide +kernel
theorem dX12_takeOver_114 : decode cX12_takeOver 114 = .ok (.iinc 2 1, 3) := by decide +kernel
theorem dX12_takeOver_117 : decode cX12_takeOver 117 = .ok (.goto (-32), 3) := by decide +kernel
theorem dX12_takeOver_120 : decode cX12_takeOver 120 = .ok (.iinc 1 1, 3) := by decide +kernel
theorem dX12_takeOver_123 : decode cX12_takeOver 123 = .ok (.goto (-50), 3) := by decide +kernel
theorem dX12_takeOver_126 : decode cX12_takeOver 126 = .ok (.iconst 0, 1) := by decide +kernel
theorem dX12_takeOver_127 : decode cX12_takeOver 127 = .ok (.istore_n 1, 1) := by decide +kernel
theorem dX12_takeOver_128 : decode cX12_takeOver 128 = .ok (.iload_n 1, 1) := by decide +kernel
theorem dX12_takeOver_129 : decode cX12_takeOver 129 = .ok (.aload_n 0, 1) := by decide +kernel
theorem dX12_takeOver_130 : decode cX12_takeOver 130 = .ok (.getfield 21, 3) := by decide +kernel
theorem dX12_takeOver_133 : decode cX12_takeOver 133 = .ok (.iconst 1, 1) := by decide +kernel
theorem dX12_takeOver_134 : decode cX12_takeOver 134 = .ok (.iaload, 1) := by decide +kernel
theorem dX12_takeOver_135 : decode cX12_takeOver 135 = .ok (.if_icmp .ge 25, 3) := by decide +kernel
theorem dX12_takeOver_138 : decode cX12_takeOver 138 = .ok (.aload_n 0, 1) := by decide +kernel
theorem dX12_takeOver_139 : decode cX12_takeOver 139 = .ok (.getfield 43, 3) := by decide +kernel
theorem dX12_takeOver_142 : decode cX12_takeOver 142 = .ok (.sipush 3091, 3) := by decide +kernel
theorem dX12_takeOver_145 : decode cX12_takeOver 145 = .ok (.iload_n 1, 1) := by decide +kernel
theorem dX12_takeOver_146 : decode cX12_takeOver 146 = .ok (.iadd, 1) := by decide +kernel
theorem dX12_takeOver_147 : decode cX12_takeOver 147 = .ok (.aload_n 0, 1) := by decide +kernel
theorem dX12_takeOver_148 : decode cX12_takeOver 148 = .ok (.getfield 37, 3) := by decide +kernel
theorem dX12_takeOver_151 : decode cX12_takeOver 151 = .ok (.iload_n 1, 1) := by decide +kernel
theorem dX12_takeOver_152 : decode cX12_takeOver 152 = .ok (.iaload, 1) := by decide +kernel
theorem dX12_takeOver_153 : decode cX12_takeOver 153 = .ok (.iastore, 1) := by decide +kernel
theorem dX12_takeOver_154 : decode cX12_takeOver 154 = .ok (.iinc 1 1, 3) := by decide +kernel
theorem dX12_takeOver_157 : decode cX12_takeOver 157 = .ok (.goto (-29), 3) := by decide +kernel
theorem dX12_takeOver_160 : decode cX12_takeOver 160 = .ok (.aload_n 0, 1) := by decide +kernel
theorem dX12_takeOver_161 : decode cX12_takeOver 161 = .ok (.getfield 43, 3) := by decide +kernel
theorem dX12_takeOver_164 : decode cX12_takeOver 164 = .ok (.sipush 3089, 3) := by decide +kernel
theorem dX12_takeOver_167 : decode cX12_takeOver 167 = .ok (.iconst (-1), 1) := by decide +kernel
theorem dX12_takeOver_168 : decode cX12_takeOver 168 = .ok (.iastore, 1) := by decide +kernel
theorem dX12_takeOver_169 : decode cX12_takeOver 169 = .ok (.aload_n 0, 1) := by decide +kernel
theorem dX12_takeOver_170 : decode cX12_takeOver 170 = .ok (.iconst 0, 1) := by decide +kernel
theorem dX12_takeOver_171 : decode cX12_takeOver 171 = .ok (.putfield 232, 3) := by decide +kernel
theorem dX12_takeOver_174 : decode cX12_takeOver 174 = .ok (.aload_n 0, 1) := by decide +kernel
theorem dX12_takeOver_175 : decode cX12_takeOver 175 = .ok (.iconst 0, 1) := by decide +kernel
theorem dX12_takeOver_176 : decode cX12_takeOver 176 = .ok (.putfield 235, 3) := by decide +kernel
theorem dX12_takeOver_179 : decode cX12_takeOver 179 = .ok (.aload_n 0, 1) := by decide +kernel
theorem dX12_takeOver_180 : decode cX12_takeOver 180 = .ok (.iconst 0, 1) := by decide +kernel
theorem dX12_takeOver_181 : decode cX12_takeOver 181 = .ok (.putfield 238, 3) := by decide +kernel
theorem dX12_takeOver_184 : decode cX12_takeOver 184 = .ok (.return_, 1) := by decide +kernel
theorem dX12_fault_0 : decode cX12_fault 0 = .ok (.aload_n 0, 1) := by decide +kernel
theorem dX12_fault_1 : decode cX12_fault 1 = .ok (.iconst 0, 1) := by decide +kernel
theorem dX12_fault_2 : decode cX12_fault 2 = .ok (.putfield 118, 3) := by decide +kernel
theorem dX12_fault_5 : decode cX12_fault 5 = .ok (.aload_n 0, 1) := by decide +kernel
theorem dX12_fault_6 : decode cX12_fault 6 = .ok (.getfield 52, 3) := by decide +kernel
theorem dX12_fault_9 : decode cX12_fault 9 = .ok (.ireturn, 1) := by decide +kernel
theorem dX12_up_0 : decode cX12_up 0 = .ok (.iload_n 0, 1) := by decide +kernel
theorem dX12_up_1 : decode cX12_up 1 = .ok (.iload_n 1, 1) := by decide +kernel
theorem dX12_up_2 : decode cX12_up 2 = .ok (.iadd, 1) := by decide +kernel
theorem dX12_up_3 : decode cX12_up 3 = .ok (.iconst 1, 1) := by decide +kernel
theorem dX12_up_4 : decode cX12_up 4 = .ok (.isub, 1) := by decide +kernel
theorem dX12_up_5 : decode cX12_up 5 = .ok (.iload_n 1, 1) := by decide +kernel
theorem dX12_up_6 : decode cX12_up 6 = .ok (.idiv, 1) := by decide +kernel
theorem dX12_up_7 : decode cX12_up 7 = .ok (.ireturn, 1) := by decide +kernel
theorem dX12_reach_0 : decode cX12_reach 0 = .ok (.iload 5, 2) := by decide +kernel
theorem dX12_reach_2 : decode cX12_reach 2 = .ok (.iload 4, 2) := by decide +kernel
theorem dX12_reach_4 : decode cX12_reach 4 = .ok (.if_icmp .gt 5, 3) := by decide +kernel
theorem dX12_reach_7 : decode cX12_reach 7 = .ok (.iload_n 3, 1) := by decide +kernel
theorem dX12_reach_8 : decode cX12_reach 8 = .ok (.ireturn, 1) := by decide +kernel
theorem dX12_reach_9 : decode cX12_reach 9 = .ok (.bipush 100, 2) := by decide +kernel
theorem dX12_reach_11 : decode cX12_reach 11 = .ok (.iload 5, 2) := by decide +kernel
theorem dX12_reach_13 : decode cX12_reach 13 = .ok (.iload 4, 2) := by decide +kernel
theorem dX12_reach_15 : decode cX12_reach 15 = .ok (.isub, 1) := by decide +kernel
theorem dX12_reach_16 : decode cX12_reach 16 = .ok (.imul, 1) := by decide +kernel
theorem dX12_reach_17 : decode cX12_reach 17 = .ok (.istore 6, 2) := by decide +kernel
theorem dX12_reach_19 : decode cX12_reach 19 = .ok (.iload_n 0, 1) := by decide +kernel
theorem dX12_reach_20 : decode cX12_reach 20 = .ok (.iload_n 1, 1) := by decide +kernel
theorem dX12_reach_21 : decode cX12_reach 21 = .ok (.imul, 1) := by decide +kernel
theorem dX12_reach_22 : decode cX12_reach 22 = .ok (.iload 6, 2) := by decide +kernel
theorem dX12_reach_24 : decode cX12_reach 24 = .ok (.if_icmp .lt 14, 3) := by decide +kernel
theorem dX12_reach_27 : decode cX12_reach 27 = .ok (.iload_n 3, 1) := by decide +kernel
theorem dX12_reach_28 : decode cX12_reach 28 = .ok (.iload 6, 2) := by decide +kernel
theorem dX12_reach_30 : decode cX12_reach 30 = .ok (.iload_n 0, 1) := by decide +kernel
theorem dX12_reach_31 : decode cX12_reach 31 = .ok (.invokestatic 242, 3) := by decide +kernel
theorem dX12_reach_34 : decode cX12_reach 34 = .ok (.iadd, 1) := by decide +kernel
theorem dX12_reach_35 : decode cX12_reach 35 = .ok (.goto 17, 3) := by decide +kernel
theorem dX12_reach_38 : decode cX12_reach 38 = .ok (.iload_n 3, 1) := by decide +kernel
theorem dX12_reach_39 : decode cX12_reach 39 = .ok (.iload_n 1, 1) := by decide +kernel
theorem dX12_reach_40 : decode cX12_reach 40 = .ok (.iadd, 1) := by decide +kernel
theorem dX12_reach_41 : decode cX12_reach 41 = .ok (.iload 6, 2) := by decide +kernel
theorem dX12_reach_43 : decode cX12_reach 43 = .ok (.iload_n 0, 1) := by decide +kernel
theorem dX12_reach_44 : decode cX12_reach 44 = .ok (.iload_n 1, 1) := by decide +kernel
theorem dX12_reach_45 : decode cX12_reach 45 = .ok (.imul, 1) := by decide +kernel
theorem dX12_reach_46 : decode cX12_reach 46 = .ok (.isub, 1) := by decide +kernel
theorem dX12_reach_47 : decode cX12_reach 47 = .ok (.iload_n 2, 1) := by decide +kernel
theorem dX12_reach_48 : decode cX12_reach 48 = .ok (.invokestatic 242, 3) := by decide +kernel
theorem dX12_reach_51 : decode cX12_reach 51 = .ok (.iadd, 1) := by decide +kernel
theorem dX12_reach_52 : decode cX12_reach 52 = .ok (.ireturn, 1) := by decide +kernel
theorem dX12_curveAt_0 : decode cX12_curveAt 0 = .ok (.sipush 257, 3) := by decide +kernel
theorem dX12_curveAt_3 : decode cX12_curveAt 3 = .ok (.iload_n 0, 1) := by decide +kernel
theorem dX12_curveAt_4 : decode cX12_curveAt 4 = .ok (.imul, 1) := by decide +kernel
theorem dX12_curveAt_5 : decode cX12_curveAt 5 = .ok (.iconst 4, 1) := by decide +kernel
theorem dX12_curveAt_6 : decode cX12_curveAt 6 = .ok (.iload_n 1, 1) := by decide +kernel
theorem dX12_curveAt_7 : decode cX12_curveAt 7 = .ok (.imul, 1) := by decide +kernel
theorem dX12_curveAt_8 : decode cX12_curveAt 8 = .ok (.iadd, 1) := by decide +kernel
theorem dX12_curveAt_9 : decode cX12_curveAt 9 = .ok (.ireturn, 1) := by decide +kernel
theorem dX12_laidAt_0 : decode cX12_laidAt 0 = .ok (.sipush 257, 3) := by decide +kernel
theorem dX12_laidAt_3 : decode cX12_laidAt 3 = .ok (.iload_n 0, 1) := by decide +kernel
theorem dX12_laidAt_4 : decode cX12_laidAt 4 = .ok (.imul, 1) := by decide +kernel
theorem dX12_laidAt_5 : decode cX12_laidAt 5 = .ok (.bipush 38, 2) := by decide +kernel
theorem dX12_laidAt_7 : decode cX12_laidAt 7 = .ok (.iadd, 1) := by decide +kernel
theorem dX12_laidAt_8 : decode cX12_laidAt 8 = .ok (.bipush 73, 2) := by decide +kernel
theorem dX12_laidAt_10 : decode cX12_laidAt 10 = .ok (.iload_n 1, 1) := by decide +kernel
theorem dX12_laidAt_11 : decode cX12_laidAt 11 = .ok (.imul, 1) := by decide +kernel
theorem dX12_laidAt_12 : decode cX12_laidAt 12 = .ok (.iadd, 1) := by decide +kernel
theorem dX12_laidAt_13 : decode cX12_laidAt 13 = .ok (.ireturn, 1) := by decide +kernel
theorem dX12_hasCurve_0 : decode cX12_hasCurve 0 = .ok (.aload_n 0, 1) := by decide +kernel
theorem dX12_hasCurve_1 : decode cX12_hasCurve 1 = .ok (.getfield 43, 3) := by decide +kernel
theorem dX12_hasCurve_4 : decode cX12_hasCurve 4 = .ok (.iload_n 1, 1) := by decide +kernel
theorem dX12_hasCurve_5 : decode cX12_hasCurve 5 = .ok (.iload_n 2, 1) := by decide +kernel
theorem dX12_hasCurve_6 : decode cX12_hasCurve 6 = .ok (.invokestatic 245, 3) := by decide +kernel
theorem dX12_hasCurve_9 : decode cX12_hasCurve 9 = .ok (.iaload, 1) := by decide +kernel
theorem dX12_hasCurve_10 : decode cX12_hasCurve 10 = .ok (.iconst 1, 1) := by decide +kernel
theorem dX12_hasCurve_11 : decode cX12_hasCurve 11 = .ok (.if_icmp .ne 7, 3) := by decide +kernel
theorem dX12_hasCurve_14 : decode cX12_hasCurve 14 = .ok (.iconst 1, 1) := by decide +kernel
theorem dX12_hasCurve_15 : decode cX12_hasCurve 15 = .ok (.goto 4, 3) := by decide +kernel
theorem dX12_hasCurve_18 : decode cX12_hasCurve 18 = .ok (.iconst 0, 1) := by decide +kernel
theorem dX12_hasCurve_19 : decode cX12_hasCurve 19 = .ok (.ireturn, 1) := by decide +kernel
theorem dX12_reachAll_0 : decode cX12_reachAll 0 = .ok (.iconst 0, 1) := by decide +kernel
theorem dX12_reachAll_1 : decode cX12_reachAll 1 = .ok (.istore 5, 2) := by decide +kernel
theorem dX12_reachAll_3 : decode cX12_reachAll 3 = .ok (.iload_n 1, 1) := by decide +kernel
theorem dX12_reachAll_4 : decode cX12_reachAll 4 = .ok (.iload_n 2, 1) := by decide +kernel
theorem dX12_reachAll_5 : decode cX12_reachAll 5 = .ok (.invokestatic 245, 3) := by decide +kernel
theorem dX12_reachAll_8 : decode cX12_reachAll 8 = .ok (.istore 6, 2) := by decide +kernel
theorem dX12_reachAll_10 : decode cX12_reachAll 10 = .ok (.iload_n 1, 1) := by decide +kernel
theorem dX12_reachAll_11 : decode cX12_reachAll 11 = .ok (.iload_n 2, 1) := by decide +kernel
theorem dX12_reachAll_12 : decode cX12_reachAll 12 = .ok (.invokestatic 248, 3) := by decide +kernel
theorem dX12_reachAll_15 : decode cX12_reachAll 15 = .ok (.istore 7, 2) := by decide +kernel
theorem dX12_reachAll_17 : decode cX12_reachAll 17 = .ok (.iconst 0, 1) := by decide +kernel
theorem dX12_reachAll_18 : decode cX12_reachAll 18 = .ok (.istore 8, 2) := by decide +kernel
theorem dX12_reachAll_20 : decode cX12_reachAll 20 = .ok (.iload 8, 2) := by decide +kernel
theorem dX12_reachAll_22 : decode cX12_reachAll 22 = .ok (.aload_n 0, 1) := by decide +kernel
theorem dX12_reachAll_23 : decode cX12_reachAll 23 = .ok (.getfield 43, 3) := by decide +kernel
theorem dX12_reachAll_26 : decode cX12_reachAll 26 = .ok (.iload 7, 2) := by decide +kernel
theorem dX12_reachAll_28 : decode cX12_reachAll 28 = .ok (.iaload, 1) := by decide +kernel
theorem dX12_reachAll_29 : decode cX12_reachAll 29 = .ok (.if_icmp .ge 68, 3) := by decide +kernel
theorem dX12_reachAll_32 : decode cX12_reachAll 32 = .ok (.iload 5, 2) := by decide +kernel
theorem dX12_reachAll_34 : decode cX12_reachAll 34 = .ok (.iload 4, 2) := by decide +kernel
theorem dX12_reachAll_36 : decode cX12_reachAll 36 = .ok (.aload_n 0, 1) := by decide +kernel
theorem dX12_reachAll_37 : decode cX12_reachAll 37 = .ok (.getfield 43, 3) := by decide +kernel
theorem dX12_reachAll_40 : decode cX12_reachAll 40 = .ok (.iload 6, 2) := by decide +kernel
theorem dX12_reachAll_42 : decode cX12_reachAll 42 = .ok (.iconst 2, 1) := by decide +kernel
theorem dX12_reachAll_43 : decode cX12_reachAll 43 = .ok (.iadd, 1) := by decide +kernel
theorem dX12_reachAll_44 : decode cX12_reachAll 44 = .ok (.iaload, 1) := by decide +kernel
theorem dX12_reachAll_45 : decode cX12_reachAll 45 = .ok (.aload_n 0, 1) := by decide +kernel
theorem dX12_reachAll_46 : decode cX12_reachAll 46 = .ok (.getfield 43, 3) := by decide +kernel
theorem dX12_reachAll_49 : decode cX12_reachAll 49 = .ok (.iload 6, 2) := by decide +kernel
theorem dX12_reachAll_51 : decode cX12_reachAll 51 = .ok (.iconst 3, 1) := by decide +kernel
theorem dX12_reachAll_52 : decode cX12_reachAll 52 = .ok (.iadd, 1) := by decide +kernel
theorem dX12_reachAll_53 : decode cX12_reachAll 53 = .ok (.iaload, 1) := by decide +kernel
theorem dX12_reachAll_54 : decode cX12_reachAll 54 = .ok (.aload_n 0, 1) := by decide +kernel
theorem dX12_reachAll_55 : decode cX12_reachAll 55 = .ok (.getfield 43, 3) := by decide +kernel
theorem dX12_reachAll_58 : decode cX12_reachAll 58 = .ok (.iload 7, 2) := by decide +kernel
theorem dX12_reachAll_60 : decode cX12_reachAll 60 = .ok (.iconst 1, 1) := by decide +kernel
theorem dX12_reachAll_61 : decode cX12_reachAll 61 = .ok (.iadd, 1) := by decide +kernel
theorem dX12_reachAll_62 : decode cX12_reachAll 62 = .ok (.iconst 2, 1) := by decide +kernel
theorem dX12_reachAll_63 : decode cX12_reachAll 63 = .ok (.iload 8, 2) := by decide +kernel
theorem dX12_reachAll_65 : decode cX12_reachAll 65 = .ok (.imul, 1) := by decide +kernel
theorem dX12_reachAll_66 : decode cX12_reachAll 66 = .ok (.iadd, 1) := by decide +kernel
theorem dX12_reachAll_67 : decode cX12_reachAll 67 = .ok (.iaload, 1) := by decide +kernel
theorem dX12_reachAll_68 : decode cX12_reachAll 68 = .ok (.aload_n 0, 1) := by decide +kernel
theorem dX12_reachAll_69 : decode cX12_reachAll 69 = .ok (.getfield 43, 3) := by decide +kernel
theorem dX12_reachAll_72 : decode cX12_reachAll 72 = .ok (.iload 7, 2) := by decide +kernel
theorem dX12_reachAll_74 : decode cX12_reachAll 74 = .ok (.iconst 2, 1) := by decide +kernel
theorem dX12_reachAll_75 : decode cX12_reachAll 75 = .ok (.iadd, 1) := by decide +kernel
theorem dX12_reachAll_76 : decode cX12_reachAll 76 = .ok (.iconst 2, 1) := by decide +kernel
theorem dX12_reachAll_77 : decode cX12_reachAll 77 = .ok (.iload 8, 2) := by decide +kernel
theorem dX12_reachAll_79 : decode cX12_reachAll 79 = .ok (.imul, 1) := by decide +kernel
theorem dX12_reachAll_80 : decode cX12_reachAll 80 = .ok (.iadd, 1) := by decide +kernel
theorem dX12_reachAll_81 : decode cX12_reachAll 81 = .ok (.iaload, 1) := by decide +kernel
theorem dX12_reachAll_82 : decode cX12_reachAll 82 = .ok (.iload_n 3, 1) := by decide +kernel
theorem dX12_reachAll_83 : decode cX12_reachAll 83 = .ok (.invokestatic 251, 3) := by decide +kernel
theorem dX12_reachAll_86 : decode cX12_reachAll 86 = .ok (.invokestatic 255, 3) := by decide +kernel
theorem dX12_reachAll_89 : decode cX12_reachAll 89 = .ok (.istore 5, 2) := by decide +kernel
theorem dX12_reachAll_91 : decode cX12_reachAll 91 = .ok (.iinc 8 1, 3) := by decide +kernel
theorem dX12_reachAll_94 : decode cX12_reachAll 94 = .ok (.goto (-74), 3) := by decide +kernel
theorem dX12_reachAll_97 : decode cX12_reachAll 97 = .ok (.iload 5, 2) := by decide +kernel
theorem dX12_reachAll_99 : decode cX12_reachAll 99 = .ok (.ireturn, 1) := by decide +kernel
theorem dX12_reachBy_0 : decode cX12_reachBy 0 = .ok (.aload_n 0, 1) := by decide +kernel
theorem dX12_reachBy_1 : decode cX12_reachBy 1 = .ok (.iload_n 1, 1) := by decide +kernel
theorem dX12_reachBy_2 : decode cX12_reachBy 2 = .ok (.iload_n 2, 1) := by decide +kernel
theorem dX12_reachBy_3 : decode cX12_reachBy 3 = .ok (.iload_n 3, 1) := by decide +kernel
theorem dX12_reachBy_4 : decode cX12_reachBy 4 = .ok (.aload_n 0, 1) := by decide +kernel
theorem dX12_reachBy_5 : decode cX12_reachBy 5 = .ok (.getfield 43, 3) := by decide +kernel
theorem dX12_reachBy_8 : decode cX12_reachBy 8 = .ok (.iload_n 1, 1) := by decide +kernel
theorem dX12_reachBy_9 : decode cX12_reachBy 9 = .ok (.iload_n 2, 1) := by decide +kernel
theorem dX12_reachBy_10 : decode cX12_reachBy 10 = .ok (.invokestatic 245, 3) := by decide +kernel
theorem dX12_reachBy_13 : decode cX12_reachBy 13 = .ok (.iconst 1, 1) := by decide +kernel
theorem dX12_reachBy_14 : decode cX12_reachBy 14 = .ok (.iadd, 1) := by decide +kernel
theorem dX12_reachBy_15 : decode cX12_reachBy 15 = .ok (.iaload, 1) := by decide +kernel
theorem dX12_reachBy_16 : decode cX12_reachBy 16 = .ok (.invokevirtual 258, 3) := by decide +kernel
theorem dX12_reachBy_19 : decode cX12_reachBy 19 = .ok (.ireturn, 1) := by decide +kernel
theorem dX12_lay_0 : decode cX12_lay 0 = .ok (.aload_n 0, 1) := by decide +kernel
theorem dX12_lay_1 : decode cX12_lay 1 = .ok (.getfield 43, 3) := by decide +kernel
theorem dX12_lay_4 : decode cX12_lay 4 = .ok (.sipush 257, 3) := by decide +kernel
theorem dX12_lay_7 : decode cX12_lay 7 = .ok (.iload_n 1, 1) := by decide +kernel
theorem dX12_lay_8 : decode cX12_lay 8 = .ok (.imul, 1) := by decide +kernel
theorem dX12_lay_9 : decode cX12_lay 9 = .ok (.iload_n 2, 1) := by decide +kernel
theorem dX12_lay_10 : decode cX12_lay 10 = .ok (.ifCond .ne 8, 3) := by decide +kernel
theorem dX12_lay_13 : decode cX12_lay 13 = .ok (.bipush 13, 2) := by decide +kernel
theorem dX12_lay_15 : decode cX12_lay 15 = .ok (.goto 5, 3) := by decide +kernel
theorem dX12_lay_18 : decode cX12_lay 18 = .ok (.bipush 12, 2) := by decide +kernel
theorem dX12_lay_20 : decode cX12_lay 20 = .ok (.iadd, 1) := by decide +kernel
theorem dX12_lay_21 : decode cX12_lay 21 = .ok (.iaload, 1) := by decide +kernel
theorem dX12_lay_22 : decode cX12_lay 22 = .ok (.istore 4, 2) := by decide +kernel
theorem dX12_lay_24 : decode cX12_lay 24 = .ok (.iload_n 1, 1) := by decide +kernel
theorem dX12_lay_25 : decode cX12_lay 25 = .ok (.iload_n 2, 1) := by decide +kernel
theorem dX12_lay_26 : decode cX12_lay 26 = .ok (.invokestatic 245, 3) := by decide +kernel
theorem dX12_lay_29 : decode cX12_lay 29 = .ok (.istore 5, 2) := by decide +kernel
theorem dX12_lay_31 : decode cX12_lay 31 = .ok (.iload_n 1, 1) := by decide +kernel
theorem dX12_lay_32 : decode cX12_lay 32 = .ok (.iload_n 2, 1) := by decide +kernel
theorem dX12_lay_33 : decode cX12_lay 33 = .ok (.invokestatic 248, 3) := by decide +kernel
theorem dX12_lay_36 : decode cX12_lay 36 = .ok (.istore 6, 2) := by decide +kernel
theorem dX12_lay_38 : decode cX12_lay 38 = .ok (.iconst 0, 1) := by decide +kernel
theorem dX12_lay_39 : decode cX12_lay 39 = .ok (.istore 7, 2) := by decide +kernel
theorem dX12_lay_41 : decode cX12_lay 41 = .ok (.iconst (-1), 1) := by decide +kernel
theorem dX12_lay_42 : decode cX12_lay 42 = .ok (.istore 8, 2) := by decide +kernel
theorem dX12_lay_44 : decode cX12_lay 44 = .ok (.iconst 0, 1) := by decide +kernel
theorem dX12_lay_45 : decode cX12_lay 45 = .ok (.istore 9, 2) := by decide +kernel
theorem dX12_lay_47 : decode cX12_lay 47 = .ok (.iload 9, 2) := by decide +kernel
theorem dX12_lay_49 : decode cX12_lay 49 = .ok (.aload_n 0, 1) := by decide +kernel
theorem dX12_lay_50 : decode cX12_lay 50 = .ok (.getfield 43, 3) := by decide +kernel
theorem dX12_lay_53 : decode cX12_lay 53 = .ok (.iload 6, 2) := by decide +kernel
theorem dX12_lay_55 : decode cX12_lay 55 = .ok (.iaload, 1) := by decide +kernel
theorem dX12_lay_56 : decode cX12_lay 56 = .ok (.if_icmp .ge 193, 3) := by decide +kernel
theorem dX12_lay_59 : decode cX12_lay 59 = .ok (.aload_n 0, 1) := by decide +kernel
theorem dX12_lay_60 : decode cX12_lay 60 = .ok (.getfield 43, 3) := by decide +kernel
theorem dX12_lay_63 : decode cX12_lay 63 = .ok (.iload 6, 2) := by decide +kernel
theorem dX12_lay_65 : decode cX12_lay 65 = .ok (.iconst 1, 1) := by decide +kernel
theorem dX12_lay_66 : decode cX12_lay 66 = .ok (.iadd, 1) := by decide +kernel
theorem dX12_lay_67 : decode cX12_lay 67 = .ok (.iconst 2, 1) := by decide +kernel
theorem dX12_lay_68 : decode cX12_lay 68 = .ok (.iload 9, 2) := by decide +kernel
theorem dX12_lay_70 : decode cX12_lay 70 = .ok (.imul, 1) := by decide +kernel
theorem dX12_lay_71 : decode cX12_lay 71 = .ok (.iadd, 1) := by decide +kernel
theorem dX12_lay_72 : decode cX12_lay 72 = .ok (.iaload, 1) := by decide +kernel
theorem dX12_lay_73 : decode cX12_lay 73 = .ok (.istore 10, 2) := by decide +kernel
theorem dX12_lay_75 : decode cX12_lay 75 = .ok (.aload_n 0, 1) := by decide +kernel
theorem dX12_lay_76 : decode cX12_lay 76 = .ok (.getfield 43, 3) := by decide +kernel
theorem dX12_lay_79 : decode cX12_lay 79 = .ok (.iload 6, 2) := by decide +kernel
theorem dX12_lay_81 : decode cX12_lay 81 = .ok (.iconst 2, 1) := by decide +kernel
theorem dX12_lay_82 : decode cX12_lay 82 = .ok (.iadd, 1) := by decide +kernel
theorem dX12_lay_83 : decode cX12_lay 83 = .ok (.iconst 2, 1) := by decide +kernel
theorem dX12_lay_84 : decode cX12_lay 84 = .ok (.iload 9, 2) := by decide +kernel
theorem dX12_lay_86 : decode cX12_lay 86 = .ok (.imul, 1) := by decide +kernel
theorem dX12_lay_87 : decode cX12_lay 87 = .ok (.iadd, 1) := by decide +kernel
theorem dX12_lay_88 : decode cX12_lay 88 = .ok (.iaload, 1) := by decide +kernel
theorem dX12_lay_89 : decode cX12_lay 89 = .ok (.istore 11, 2) := by decide +kernel
theorem dX12_lay_91 : decode cX12_lay 91 = .ok (.bipush 100, 2) := by decide +kernel
theorem dX12_lay_93 : decode cX12_lay 93 = .ok (.iload 4, 2) := by decide +kernel
theorem dX12_lay_95 : decode cX12_lay 95 = .ok (.iload 11, 2) := by decide +kernel
theorem dX12_lay_97 : decode cX12_lay 97 = .ok (.isub, 1) := by decide +kernel
theorem dX12_lay_98 : decode cX12_lay 98 = .ok (.imul, 1) := by decide +kernel
theorem dX12_lay_99 : decode cX12_lay 99 = .ok (.aload_n 0, 1) := by decide +kernel
theorem dX12_lay_100 : decode cX12_lay 100 = .ok (.getfield 43, 3) := by decide +kernel
theorem dX12_lay_103 : decode cX12_lay 103 = .ok (.iload 5, 2) := by decide +kernel
theorem dX12_lay_105 : decode cX12_lay 105 = .ok (.iconst 1, 1) := by decide +kernel
theorem dX12_lay_106 : decode cX12_lay 106 = .ok (.iadd, 1) := by decide +kernel
theorem dX12_lay_107 : decode cX12_lay 107 = .ok (.iaload, 1) := by decide +kernel
theorem dX12_lay_108 : decode cX12_lay 108 = .ok (.aload_n 0, 1) := by decide +kernel
theorem dX12_lay_109 : decode cX12_lay 109 = .ok (.getfield 43, 3) := by decide +kernel
theorem dX12_lay_112 : decode cX12_lay 112 = .ok (.iload 5, 2) := by decide +kernel
theorem dX12_lay_114 : decode cX12_lay 114 = .ok (.iconst 2, 1) := by decide +kernel
theorem dX12_lay_115 : decode cX12_lay 115 = .ok (.iadd, 1) := by decide +kernel
theorem dX12_lay_116 : decode cX12_lay 116 = .ok (.iaload, 1) := by decide +kernel
theorem dX12_lay_117 : decode cX12_lay 117 = .ok (.imul, 1) := by decide +kernel
theorem dX12_lay_118 : decode cX12_lay 118 = .ok (.if_icmp .le 7, 3) := by decide +kernel
theorem dX12_lay_121 : decode cX12_lay 121 = .ok (.iconst 1, 1) := by decide +kernel
theorem dX12_lay_122 : decode cX12_lay 122 = .ok (.goto 4, 3) := by decide +kernel
theorem dX12_lay_125 : decode cX12_lay 125 = .ok (.iconst 0, 1) := by decide +kernel
theorem dX12_lay_126 : decode cX12_lay 126 = .ok (.istore 12, 2) := by decide +kernel
theorem dX12_lay_128 : decode cX12_lay 128 = .ok (.iload 12, 2) := by decide +kernel
theorem dX12_lay_130 : decode cX12_lay 130 = .ok (.ifCond .eq 79, 3) := by decide +kernel
theorem dX12_lay_133 : decode cX12_lay 133 = .ok (.iload 8, 2) := by decide +kernel
theorem dX12_lay_135 : decode cX12_lay 135 = .ok (.iconst (-1), 1) := by decide +kernel
theorem dX12_lay_136 : decode cX12_lay 136 = .ok (.if_icmp .eq 66, 3) := by decide +kernel
theorem dX12_lay_139 : decode cX12_lay 139 = .ok (.aload_n 0, 1) := by decide +kernel
theorem dX12_lay_140 : decode cX12_lay 140 = .ok (.getfield 43, 3) := by decide +kernel
theorem dX12_lay_143 : decode cX12_lay 143 = .ok (.iload 5, 2) := by decide +kernel
theorem dX12_lay_145 : decode cX12_lay 145 = .ok (.iconst 3, 1) := by decide +kernel
theorem dX12_lay_146 : decode cX12_lay 146 = .ok (.iadd, 1) := by decide +kernel
theorem dX12_lay_147 : decode cX12_lay 147 = .ok (.iaload, 1) := by decide +kernel
theorem dX12_lay_148 : decode cX12_lay 148 = .ok (.iload 10, 2) := by decide +kernel
theorem dX12_lay_150 : decode cX12_lay 150 = .ok (.imul, 1) := by decide +kernel
theorem dX12_lay_151 : decode cX12_lay 151 = .ok (.bipush 100, 2) := by decide +kernel
theorem dX12_lay_153 : decode cX12_lay 153 = .ok (.iload 11, 2) := by decide +kernel
theorem dX12_lay_155 : decode cX12_lay 155 = .ok (.imul, 1) := by decide +kernel
theorem dX12_lay_156 : decode cX12_lay 156 = .ok (.isub, 1) := by decide +kernel
theorem dX12_lay_157 : decode cX12_lay 157 = .ok (.aload_n 0, 1) := by decide +kernel
theorem dX12_lay_158 : decode cX12_lay 158 = .ok (.getfield 43, 3) := by decide +kernel
theorem dX12_lay_161 : decode cX12_lay 161 = .ok (.iload 5, 2) := by decide +kernel
theorem dX12_lay_163 : decode cX12_lay 163 = .ok (.iconst 3, 1) := by decide +kernel
theorem dX12_lay_164 : decode cX12_lay 164 = .ok (.iadd, 1) := by decide +kernel
theorem dX12_lay_165 : decode cX12_lay 165 = .ok (.iaload, 1) := by decide +kernel
theorem dX12_lay_166 : decode cX12_lay 166 = .ok (.aload_n 0, 1) := by decide +kernel
theorem dX12_lay_167 : decode cX12_lay 167 = .ok (.getfield 43, 3) := by decide +kernel
theorem dX12_lay_170 : decode cX12_lay 170 = .ok (.iload 6, 2) := by decide +kernel
theorem dX12_lay_172 : decode cX12_lay 172 = .ok (.iconst 1, 1) := by decide +kernel
theorem dX12_lay_173 : decode cX12_lay 173 = .ok (.iadd, 1) := by decide +kernel
theorem dX12_lay_174 : decode cX12_lay 174 = .ok (.iconst 2, 1) := by decide +kernel
theorem dX12_lay_175 : decode cX12_lay 175 = .ok (.iload 8, 2) := by decide +kernel
theorem dX12_lay_177 : decode cX12_lay 177 = .ok (.imul, 1) := by decide +kernel
theorem dX12_lay_178 : decode cX12_lay 178 = .ok (.iadd, 1) := by decide +kernel
theorem dX12_lay_179 : decode cX12_lay 179 = .ok (.iaload, 1) := by decide +kernel
theorem dX12_lay_180 : decode cX12_lay 180 = .ok (.imul, 1) := by decide +kernel
theorem dX12_lay_181 : decode cX12_lay 181 = .ok (.bipush 100, 2) := by decide +kernel
theorem dX12_lay_183 : decode cX12_lay 183 = .ok (.aload_n 0, 1) := by decide +kernel
theorem dX12_lay_184 : decode cX12_lay 184 = .ok (.getfield 43, 3) := by decide +kernel
theorem dX12_lay_187 : decode cX12_lay 187 = .ok (.iload 6, 2) := by decide +kernel
theorem dX12_lay_189 : decode cX12_lay 189 = .ok (.iconst 2, 1) := by decide +kernel
theorem dX12_lay_190 : decode cX12_lay 190 = .ok (.iadd, 1) := by decide +kernel
theorem dX12_lay_191 : decode cX12_lay 191 = .ok (.iconst 2, 1) := by decide +kernel
theorem dX12_lay_192 : decode cX12_lay 192 = .ok (.iload 8, 2) := by decide +kernel
theorem dX12_lay_194 : decode cX12_lay 194 = .ok (.imul, 1) := by decide +kernel
theorem dX12_lay_195 : decode cX12_lay 195 = .ok (.iadd, 1) := by decide +kernel
theorem dX12_lay_196 : decode cX12_lay 196 = .ok (.iaload, 1) := by decide +kernel
theorem dX12_lay_197 : decode cX12_lay 197 = .ok (.imul, 1) := by decide +kernel
theorem dX12_lay_198 : decode cX12_lay 198 = .ok (.isub, 1) := by decide +kernel
theorem dX12_lay_199 : decode cX12_lay 199 = .ok (.if_icmp .le 44, 3) := by decide +kernel
theorem dX12_lay_202 : decode cX12_lay 202 = .ok (.iload 9, 2) := by decide +kernel
theorem dX12_lay_204 : decode cX12_lay 204 = .ok (.istore 8, 2) := by decide +kernel
theorem dX12_lay_206 : decode cX12_lay 206 = .ok (.goto 37, 3) := by decide +kernel
theorem dX12_lay_209 : decode cX12_lay 209 = .ok (.iload 11, 2) := by decide +kernel
theorem dX12_lay_211 : decode cX12_lay 211 = .ok (.iload 4, 2) := by decide +kernel
theorem dX12_lay_213 : decode cX12_lay 213 = .ok (.if_icmp .eq 30, 3) := by decide +kernel
theorem dX12_lay_216 : decode cX12_lay 216 = .ok (.aload_n 0, 1) := by decide +kernel
theorem dX12_lay_217 : decode cX12_lay 217 = .ok (.getfield 56, 3) := by decide +kernel
theorem dX12_lay_220 : decode cX12_lay 220 = .ok (.iconst 2, 1) := by decide +kernel
theorem dX12_lay_221 : decode cX12_lay 221 = .ok (.iload 7, 2) := by decide +kernel
theorem dX12_lay_223 : decode cX12_lay 223 = .ok (.imul, 1) := by decide +kernel
theorem dX12_lay_224 : decode cX12_lay 224 = .ok (.iload 10, 2) := by decide +kernel
theorem dX12_lay_226 : decode cX12_lay 226 = .ok (.iastore, 1) := by decide +kernel
theorem dX12_lay_227 : decode cX12_lay 227 = .ok (.aload_n 0, 1) := by decide +kernel
theorem dX12_lay_228 : decode cX12_lay 228 = .ok (.getfield 56, 3) := by decide +kernel
theorem dX12_lay_231 : decode cX12_lay 231 = .ok (.iconst 2, 1) := by decide +kernel
theorem dX12_lay_232 : decode cX12_lay 232 = .ok (.iload 7, 2) := by decide +kernel
theorem dX12_lay_234 : decode cX12_lay 234 = .ok (.imul, 1) := by decide +kernel
theorem dX12_lay_235 : decode cX12_lay 235 = .ok (.iconst 1, 1) := by decide +kernel
theorem dX12_lay_236 : decode cX12_lay 236 = .ok (.iadd, 1) := by decide +kernel
theorem dX12_lay_237 : decode cX12_lay 237 = .ok (.iload 11, 2) := by decide +kernel
theorem dX12_lay_239 : decode cX12_lay 239 = .ok (.iastore, 1) := by decide +kernel
theorem dX12_lay_240 : decode cX12_lay 240 = .ok (.iinc 7 1, 3) := by decide +kernel
theorem dX12_lay_243 : decode cX12_lay 243 = .ok (.iinc 9 1, 3) := by decide +kernel
theorem dX12_lay_246 : decode cX12_lay 246 = .ok (.goto (-199), 3) := by decide +kernel
theorem dX12_lay_249 : decode cX12_lay 249 = .ok (.iload 8, 2) := by decide +kernel
theorem dX12_lay_251 : decode cX12_lay 251 = .ok (.iconst (-1), 1) := by decide +kernel
theorem dX12_lay_252 : decode cX12_lay 252 = .ok (.if_icmp .eq 54, 3) := by decide +kernel
theorem dX12_lay_255 : decode cX12_lay 255 = .ok (.aload_n 0, 1) := by decide +kernel
theorem dX12_lay_256 : decode cX12_lay 256 = .ok (.getfield 56, 3) := by decide +kernel
theorem dX12_lay_259 : decode cX12_lay 259 = .ok (.iconst 2, 1) := by decide +kernel
theorem dX12_lay_260 : decode cX12_lay 260 = .ok (.iload 7, 2) := by decide +kernel
theorem dX12_lay_262 : decode cX12_lay 262 = .ok (.imul, 1) := by decide +kernel
theorem dX12_lay_263 : decode cX12_lay 263 = .ok (.aload_n 0, 1) := by decide +kernel
theorem dX12_lay_264 : decode cX12_lay 264 = .ok (.getfield 43, 3) := by decide +kernel
theorem dX12_lay_267 : decode cX12_lay 267 = .ok (.iload 6, 2) := by decide +kernel
theorem dX12_lay_269 : decode cX12_lay 269 = .ok (.iconst 1, 1) := by decide +kernel
theorem dX12_lay_270 : decode cX12_lay 270 = .ok (.iadd, 1) := by decide +kernel
theorem dX12_lay_271 : decode cX12_lay 271 = .ok (.iconst 2, 1) := by decide +kernel
theorem dX12_lay_272 : decode cX12_lay 272 = .ok (.iload 8, 2) := by decide +kernel
theorem dX12_lay_274 : decode cX12_lay 274 = .ok (.imul, 1) := by decide +kernel
theorem dX12_lay_275 : decode cX12_lay 275 = .ok (.iadd, 1) := by decide +kernel
theorem dX12_lay_276 : decode cX12_lay 276 = .ok (.iaload, 1) := by decide +kernel
theorem dX12_lay_277 : decode cX12_lay 277 = .ok (.iastore, 1) := by decide +kernel
theorem dX12_lay_278 : decode cX12_lay 278 = .ok (.aload_n 0, 1) := by decide +kernel
theorem dX12_lay_279 : decode cX12_lay 279 = .ok (.getfield 56, 3) := by decide +kernel
theorem dX12_lay_282 : decode cX12_lay 282 = .ok (.iconst 2, 1) := by decide +kernel
theorem dX12_lay_283 : decode cX12_lay 283 = .ok (.iload 7, 2) := by decide +kernel
theorem dX12_lay_285 : decode cX12_lay 285 = .ok (.imul, 1) := by decide +kernel
theorem dX12_lay_286 : decode cX12_lay 286 = .ok (.iconst 1, 1) := by decide +kernel
theorem dX12_lay_287 : decode cX12_lay 287 = .ok (.iadd, 1) := by decide +kernel
theorem dX12_lay_288 : decode cX12_lay 288 = .ok (.aload_n 0, 1) := by decide +kernel
theorem dX12_lay_289 : decode cX12_lay 289 = .ok (.getfield 43, 3) := by decide +kernel
theorem dX12_lay_292 : decode cX12_lay 292 = .ok (.iload 6, 2) := by decide +kernel
theorem dX12_lay_294 : decode cX12_lay 294 = .ok (.iconst 2, 1) := by decide +kernel
theorem dX12_lay_295 : decode cX12_lay 295 = .ok (.iadd, 1) := by decide +kernel
theorem dX12_lay_296 : decode cX12_lay 296 = .ok (.iconst 2, 1) := by decide +kernel
theorem dX12_lay_297 : decode cX12_lay 297 = .ok (.iload 8, 2) := by decide +kernel
theorem dX12_lay_299 : decode cX12_lay 299 = .ok (.imul, 1) := by decide +kernel
theorem dX12_lay_300 : decode cX12_lay 300 = .ok (.iadd, 1) := by decide +kernel
theorem dX12_lay_301 : decode cX12_lay 301 = .ok (.iaload, 1) := by decide +kernel
theorem dX12_lay_302 : decode cX12_lay 302 = .ok (.iastore, 1) := by decide +kernel
theorem dX12_lay_303 : decode cX12_lay 303 = .ok (.iinc 7 1, 3) := by decide +kernel
theorem dX12_lay_306 : decode cX12_lay 306 = .ok (.aload_n 0, 1) := by decide +kernel
theorem dX12_lay_307 : decode cX12_lay 307 = .ok (.getfield 56, 3) := by decide +kernel
theorem dX12_lay_310 : decode cX12_lay 310 = .ok (.iconst 2, 1) := by decide +kernel
theorem dX12_lay_311 : decode cX12_lay 311 = .ok (.iload 7, 2) := by decide +kernel
theorem dX12_lay_313 : decode cX12_lay 313 = .ok (.imul, 1) := by decide +kernel
theorem dX12_lay_314 : decode cX12_lay 314 = .ok (.iload_n 3, 1) := by decide +kernel
theorem dX12_lay_315 : decode cX12_lay 315 = .ok (.iastore, 1) := by decide +kernel
theorem dX12_lay_316 : decode cX12_lay 316 = .ok (.aload_n 0, 1) := by decide +kernel
theorem dX12_lay_317 : decode cX12_lay 317 = .ok (.getfield 56, 3) := by decide +kernel
theorem dX12_lay_320 : decode cX12_lay 320 = .ok (.iconst 2, 1) := by decide +kernel
theorem dX12_lay_321 : decode cX12_lay 321 = .ok (.iload 7, 2) := by decide +kernel
theorem dX12_lay_323 : decode cX12_lay 323 = .ok (.imul, 1) := by decide +kernel
theorem dX12_lay_324 : decode cX12_lay 324 = .ok (.iconst 1, 1) := by decide +kernel
theorem dX12_lay_325 : decode cX12_lay 325 = .ok (.iadd, 1) := by decide +kernel
theorem dX12_lay_326 : decode cX12_lay 326 = .ok (.iload 4, 2) := by decide +kernel
theorem dX12_lay_328 : decode cX12_lay 328 = .ok (.iastore, 1) := by decide +kernel
theorem dX12_lay_329 : decode cX12_lay 329 = .ok (.iinc 7 1, 3) := by decide +kernel
theorem dX12_lay_332 : decode cX12_lay 332 = .ok (.aload_n 0, 1) := by decide +kernel
theorem dX12_lay_333 : decode cX12_lay 333 = .ok (.getfield 43, 3) := by decide +kernel
theorem dX12_lay_336 : decode cX12_lay 336 = .ok (.iload 6, 2) := by decide +kernel
theorem dX12_lay_338 : decode cX12_lay 338 = .ok (.iload 7, 2) := by decide +kernel
theorem dX12_lay_340 : decode cX12_lay 340 = .ok (.iastore, 1) := by decide +kernel
theorem dX12_lay_341 : decode cX12_lay 341 = .ok (.iconst 0, 1) := by decide +kernel
theorem dX12_lay_342 : decode cX12_lay 342 = .ok (.istore 9, 2) := by decide +kernel
theorem dX12_lay_344 : decode cX12_lay 344 = .ok (.iload 9, 2) := by decide +kernel
theorem dX12_lay_346 : decode cX12_lay 346 = .ok (.iconst 2, 1) := by decide +kernel
theorem dX12_lay_347 : decode cX12_lay 347 = .ok (.iload 7, 2) := by decide +kernel
theorem dX12_lay_349 : decode cX12_lay 349 = .ok (.imul, 1) := by decide +kernel
theorem dX12_lay_350 : decode cX12_lay 350 = .ok (.if_icmp .ge 28, 3) := by decide +kernel
theorem dX12_lay_353 : decode cX12_lay 353 = .ok (.aload_n 0, 1) := by decide +kernel
theorem dX12_lay_354 : decode cX12_lay 354 = .ok (.getfield 43, 3) := by decide +kernel
theorem dX12_lay_357 : decode cX12_lay 357 = .ok (.iload 6, 2) := by decide +kernel
theorem dX12_lay_359 : decode cX12_lay 359 = .ok (.iconst 1, 1) := by decide +kernel
theorem dX12_lay_360 : decode cX12_lay 360 = .ok (.iadd, 1) := by decide +kernel
theorem dX12_lay_361 : decode cX12_lay 361 = .ok (.iload 9, 2) := by decide +kernel
theorem dX12_lay_363 : decode cX12_lay 363 = .ok (.iadd, 1) := by decide +kernel
theorem dX12_lay_364 : decode cX12_lay 364 = .ok (.aload_n 0, 1) := by decide +kernel
theorem dX12_lay_365 : decode cX12_lay 365 = .ok (.getfield 56, 3) := by decide +kernel
theorem dX12_lay_368 : decode cX12_lay 368 = .ok (.iload 9, 2) := by decide +kernel
theorem dX12_lay_370 : decode cX12_lay 370 = .ok (.iaload, 1) := by decide +kernel
theorem dX12_lay_371 : decode cX12_lay 371 = .ok (.iastore, 1) := by decide +kernel
theorem dX12_lay_372 : decode cX12_lay 372 = .ok (.iinc 9 1, 3) := by decide +kernel
theorem dX12_lay_375 : decode cX12_lay 375 = .ok (.goto (-31), 3) := by decide +kernel
theorem dX12_lay_378 : decode cX12_lay 378 = .ok (.return_, 1) := by decide +kernel
theorem dX12_isLeaf_0 : decode cX12_isLeaf 0 = .ok (.iload_n 1, 1) := by decide +kernel
theorem dX12_isLeaf_1 : decode cX12_isLeaf 1 = .ok (.iconst 1, 1) := by decide +kernel
theorem dX12_isLeaf_2 : decode cX12_isLeaf 2 = .ok (.iadd, 1) := by decide +kernel
theorem dX12_isLeaf_3 : decode cX12_isLeaf 3 = .ok (.istore_n 2, 1) := by decide +kernel
theorem dX12_isLeaf_4 : decode cX12_isLeaf 4 = .ok (.iload_n 2, 1) := by decide +kernel
theorem dX12_isLeaf_5 : decode cX12_isLeaf 5 = .ok (.aload_n 0, 1) := by decide +kernel
theorem dX12_isLeaf_6 : decode cX12_isLeaf 6 = .ok (.getfield 21, 3) := by decide +kernel
theorem dX12_isLeaf_9 : decode cX12_isLeaf 9 = .ok (.iconst 0, 1) := by decide +kernel
theorem dX12_isLeaf_10 : decode cX12_isLeaf 10 = .ok (.iaload, 1) := by decide +kernel
theorem dX12_isLeaf_11 : decode cX12_isLeaf 11 = .ok (.if_icmp .ge 21, 3) := by decide +kernel
theorem dX12_isLeaf_14 : decode cX12_isLeaf 14 = .ok (.aload_n 0, 1) := by decide +kernel
theorem dX12_isLeaf_15 : decode cX12_isLeaf 15 = .ok (.getfield 25, 3) := by decide +kernel
theorem dX12_isLeaf_18 : decode cX12_isLeaf 18 = .ok (.iload_n 2, 1) := by decide +kernel
theorem dX12_isLeaf_19 : decode cX12_isLeaf 19 = .ok (.iaload, 1) := by decide +kernel
theorem dX12_isLeaf_20 : decode cX12_isLeaf 20 = .ok (.iload_n 1, 1) := by decide +kernel
theorem dX12_isLeaf_21 : decode cX12_isLeaf 21 = .ok (.if_icmp .ne 5, 3) := by decide +kernel
theorem dX12_isLeaf_24 : decode cX12_isLeaf 24 = .ok (.iconst 0, 1) := by decide +kernel
theorem dX12_isLeaf_25 : decode cX12_isLeaf 25 = .ok (.ireturn, 1) := by decide +kernel
theorem dX12_isLeaf_26 : decode cX12_isLeaf 26 = .ok (.iinc 2 1, 3) := by decide +kernel
theorem dX12_isLeaf_29 : decode cX12_isLeaf 29 = .ok (.goto (-25), 3) := by decide +kernel
theorem dX12_isLeaf_32 : decode cX12_isLeaf 32 = .ok (.iconst 1, 1) := by decide +kernel
theorem dX12_isLeaf_33 : decode cX12_isLeaf 33 = .ok (.ireturn, 1) := by decide +kernel
theorem dX12_isActive_0 : decode cX12_isActive 0 = .ok (.aload_n 0, 1) := by decide +kernel
theorem dX12_isActive_1 : decode cX12_isActive 1 = .ok (.getfield 43, 3) := by decide +kernel
theorem dX12_isActive_4 : decode cX12_isActive 4 = .ok (.sipush 257, 3) := by decide +kernel
theorem dX12_isActive_7 : decode cX12_isActive 7 = .ok (.iload_n 1, 1) := by decide +kernel
theorem dX12_isActive_8 : decode cX12_isActive 8 = .ok (.imul, 1) := by decide +kernel
theorem dX12_isActive_9 : decode cX12_isActive 9 = .ok (.bipush 17, 2) := by decide +kernel
theorem dX12_isActive_11 : decode cX12_isActive 11 = .ok (.iadd, 1) := by decide +kernel
theorem dX12_isActive_12 : decode cX12_isActive 12 = .ok (.iaload, 1) := by decide +kernel
theorem dX12_isActive_13 : decode cX12_isActive 13 = .ok (.ifCond .le 5, 3) := by decide +kernel
theorem dX12_isActive_16 : decode cX12_isActive 16 = .ok (.iconst 1, 1) := by decide +kernel
theorem dX12_isActive_17 : decode cX12_isActive 17 = .ok (.ireturn, 1) := by decide +kernel
theorem dX12_isActive_18 : decode cX12_isActive 18 = .ok (.iload_n 1, 1) := by decide +kernel
theorem dX12_isActive_19 : decode cX12_isActive 19 = .ok (.iconst 1, 1) := by decide +kernel
theorem dX12_isActive_20 : decode cX12_isActive 20 = .ok (.iadd, 1) := by decide +kernel
theorem dX12_isActive_21 : decode cX12_isActive 21 = .ok (.istore_n 2, 1) := by decide +kernel
theorem dX12_isActive_22 : decode cX12_isActive 22 = .ok (.iload_n 2, 1) := by decide +kernel
theorem dX12_isActive_23 : decode cX12_isActive 23 = .ok (.aload_n 0, 1) := by decide +kernel
theorem dX12_isActive_24 : decode cX12_isActive 24 = .ok (.getfield 21, 3) := by decide +kernel
theorem dX12_isActive_27 : decode cX12_isActive 27 = .ok (.iconst 0, 1) := by decide +kernel
theorem dX12_isActive_28 : decode cX12_isActive 28 = .ok (.iaload, 1) := by decide +kernel
theorem dX12_isActive_29 : decode cX12_isActive 29 = .ok (.if_icmp .ge 29, 3) := by decide +kernel
theorem dX12_isActive_32 : decode cX12_isActive 32 = .ok (.aload_n 0, 1) := by decide +kernel
theorem dX12_isActive_33 : decode cX12_isActive 33 = .ok (.getfield 25, 3) := by decide +kernel
theorem dX12_isActive_36 : decode cX12_isActive 36 = .ok (.iload_n 2, 1) := by decide +kernel
theorem dX12_isActive_37 : decode cX12_isActive 37 = .ok (.iaload, 1) := by decide +kernel
theorem dX12_isActive_38 : decode cX12_isActive 38 = .ok (.iload_n 1, 1) := by decide +kernel
theorem dX12_isActive_39 : decode cX12_isActive 39 = .ok (.if_icmp .ne 13, 3) := by decide +kernel
theorem dX12_isActive_42 : decode cX12_isActive 42 = .ok (.aload_n 0, 1) := by decide +kernel
theorem dX12_isActive_43 : decode cX12_isActive 43 = .ok (.iload_n 2, 1) := by decide +kernel
theorem dX12_isActive_44 : decode cX12_isActive 44 = .ok (.invokevirtual 262, 3) := by decide +kernel
theorem dX12_isActive_47 : decode cX12_isActive 47 = .ok (.ifCond .eq 5, 3) := by decide +kernel
theorem dX12_isActive_50 : decode cX12_isActive 50 = .ok (.iconst 1, 1) := by decide +kernel
theorem dX12_isActive_51 : decode cX12_isActive 51 = .ok (.ireturn, 1) := by decide +kernel
theorem dX12_isActive_52 : decode cX12_isActive 52 = .ok (.iinc 2 1, 3) := by decide +kernel
theorem dX12_isActive_55 : decode cX12_isActive 55 = .ok (.goto (-33), 3) := by decide +kernel
theorem dX12_isActive_58 : decode cX12_isActive 58 = .ok (.iconst 0, 1) := by decide +kernel
theorem dX12_isActive_59 : decode cX12_isActive 59 = .ok (.ireturn, 1) := by decide +kernel
theorem dX12_putVirtual_0 : decode cX12_putVirtual 0 = .ok (.aload_n 0, 1) := by decide +kernel
theorem dX12_putVirtual_1 : decode cX12_putVirtual 1 = .ok (.getfield 43, 3) := by decide +kernel
theorem dX12_putVirtual_4 : decode cX12_putVirtual 4 = .ok (.sipush 257, 3) := by decide +kernel
theorem dX12_putVirtual_7 : decode cX12_putVirtual 7 = .ok (.iload_n 1, 1) := by decide +kernel
theorem dX12_putVirtual_8 : decode cX12_putVirtual 8 = .ok (.imul, 1) := by decide +kernel
theorem dX12_putVirtual_9 : decode cX12_putVirtual 9 = .ok (.bipush 14, 2) := by decide +kernel
theorem dX12_putVirtual_11 : decode cX12_putVirtual 11 = .ok (.iadd, 1) := by decide +kernel
theorem dX12_putVirtual_12 : decode cX12_putVirtual 12 = .ok (.iload_n 2, 1) := by decide +kernel
theorem dX12_putVirtual_13 : decode cX12_putVirtual 13 = .ok (.iastore, 1) := by decide +kernel
theorem dX12_putVirtual_14 : decode cX12_putVirtual 14 = .ok (.aload_n 0, 1) := by decide +kernel
theorem dX12_putVirtual_15 : decode cX12_putVirtual 15 = .ok (.getfield 25, 3) := by decide +kernel
theorem dX12_putVirtual_18 : decode cX12_putVirtual 18 = .ok (.iload_n 1, 1) := by decide +kernel
theorem dX12_putVirtual_19 : decode cX12_putVirtual 19 = .ok (.iaload, 1) := by decide +kernel
theorem dX12_putVirtual_20 : decode cX12_putVirtual 20 = .ok (.iconst (-1), 1) := by decide +kernel
theorem dX12_putVirtual_21 : decode cX12_putVirtual 21 = .ok (.if_icmp .ne 9, 3) := by decide +kernel
theorem dX12_putVirtual_24 : decode cX12_putVirtual 24 = .ok (.sipush 3088, 3) := by decide +kernel
theorem dX12_putVirtual_27 : decode cX12_putVirtual 27 = .ok (.goto 16, 3) := by decide +kernel
theorem dX12_putVirtual_30 : decode cX12_putVirtual 30 = .ok (.sipush 257, 3) := by decide +kernel
theorem dX12_putVirtual_33 : decode cX12_putVirtual 33 = .ok (.aload_n 0, 1) := by decide +kernel
theorem dX12_putVirtual_34 : decode cX12_putVirtual 34 = .ok (.getfield 25, 3) := by decide +kernel
theorem dX12_putVirtual_37 : decode cX12_putVirtual 37 = .ok (.iload_n 1, 1) := by decide +kernel
theorem dX12_putVirtual_38 : decode cX12_putVirtual 38 = .ok (.iaload, 1) := by decide +kernel
theorem dX12_putVirtual_39 : decode cX12_putVirtual 39 = .ok (.imul, 1) := by decide +kernel
theorem dX12_putVirtual_40 : decode cX12_putVirtual 40 = .ok (.bipush 15, 2) := by decide +kernel
theorem dX12_putVirtual_42 : decode cX12_putVirtual 42 = .ok (.iadd, 1) := by decide +kernel
theorem dX12_putVirtual_43 : decode cX12_putVirtual 43 = .ok (.istore_n 3, 1) := by decide +kernel
theorem dX12_putVirtual_44 : decode cX12_putVirtual 44 = .ok (.aload_n 0, 1) := by decide +kernel
theorem dX12_putVirtual_45 : decode cX12_putVirtual 45 = .ok (.getfield 43, 3) := by decide +kernel
theorem dX12_putVirtual_48 : decode cX12_putVirtual 48 = .ok (.iload_n 3, 1) := by decide +kernel
theorem dX12_putVirtual_49 : decode cX12_putVirtual 49 = .ok (.aload_n 0, 1) := by decide +kernel
theorem dX12_putVirtual_50 : decode cX12_putVirtual 50 = .ok (.getfield 43, 3) := by decide +kernel
theorem dX12_putVirtual_53 : decode cX12_putVirtual 53 = .ok (.iload_n 3, 1) := by decide +kernel
theorem dX12_putVirtual_54 : decode cX12_putVirtual 54 = .ok (.iaload, 1) := by decide +kernel
theorem dX12_putVirtual_55 : decode cX12_putVirtual 55 = .ok (.iload_n 2, 1) := by decide +kernel
theorem dX12_putVirtual_56 : decode cX12_putVirtual 56 = .ok (.invokestatic 255, 3) := by decide +kernel
theorem dX12_putVirtual_59 : decode cX12_putVirtual 59 = .ok (.iastore, 1) := by decide +kernel
theorem dX12_putVirtual_60 : decode cX12_putVirtual 60 = .ok (.return_, 1) := by decide +kernel
theorem dX12_tellVirtuals_0 : decode cX12_tellVirtuals 0 = .ok (.iconst 0, 1) := by decide +kernel
theorem dX12_tellVirtuals_1 : decode cX12_tellVirtuals 1 = .ok (.istore_n 3, 1) := by decide +kernel
theorem dX12_tellVirtuals_2 : decode cX12_tellVirtuals 2 = .ok (.iconst 0, 1) := by decide +kernel
theorem dX12_tellVirtuals_3 : decode cX12_tellVirtuals 3 = .ok (.istore 4, 2) := by decide +kernel
theorem dX12_tellVirtuals_5 : decode cX12_tellVirtuals 5 = .ok (.iload 4, 2) := by decide +kernel
theorem dX12_tellVirtuals_7 : decode cX12_tellVirtuals 7 = .ok (.aload_n 0, 1) := by decide +kernel
theorem dX12_tellVirtuals_8 : decode cX12_tellVirtuals 8 = .ok (.getfield 21, 3) := by decide +kernel
theorem dX12_tellVirtuals_11 : decode cX12_tellVirtuals 11 = .ok (.iconst 0, 1) := by decide +kernel
theorem dX12_tellVirtuals_12 : decode cX12_tellVirtuals 12 = .ok (.iaload, 1) := by decide +kernel
theorem dX12_tellVirtuals_13 : decode cX12_tellVirtuals 13 = .ok (.if_icmp .ge 100, 3) := by decide +kernel
theorem dX12_tellVirtuals_16 : decode cX12_tellVirtuals 16 = .ok (.aload_n 0, 1) := by decide +kernel
theorem dX12_tellVirtuals_17 : decode cX12_tellVirtuals 17 = .ok (.getfield 25, 3) := by decide +kernel
theorem dX12_tellVirtuals_20 : decode cX12_tellVirtuals 20 = .ok (.iload 4, 2) := by decide +kernel
theorem dX12_tellVirtuals_22 : decode cX12_tellVirtuals 22 = .ok (.iaload, 1) := by decide +kernel
theorem dX12_tellVirtuals_23 : decode cX12_tellVirtuals 23 = .ok (.iload_n 1, 1) := by decide +kernel
theorem dX12_tellVirtuals_24 : decode cX12_tellVirtuals 24 = .ok (.if_icmp .ne 83, 3) := by decide +kernel
theorem dX12_tellVirtuals_27 : decode cX12_tellVirtuals 27 = .ok (.iload 4, 2) := by decide +kernel
theorem dX12_tellVirtuals_29 : decode cX12_tellVirtuals 29 = .ok (.iload_n 2, 1) := by decide +kernel
theorem dX12_tellVirtuals_30 : decode cX12_tellVirtuals 30 = .ok (.if_icmp .eq 77, 3) := by decide +kernel
theorem dX12_tellVirtuals_33 : decode cX12_tellVirtuals 33 = .ok (.aload_n 0, 1) := by decide +kernel
theorem dX12_tellVirtuals_34 : decode cX12_tellVirtuals 34 = .ok (.iload 4, 2) := by decide +kernel
theorem dX12_tellVirtuals_36 : decode cX12_tellVirtuals 36 = .ok (.invokevirtual 262, 3) := by decide +kernel
theorem dX12_tellVirtuals_39 : decode cX12_tellVirtuals 39 = .ok (.ifCond .ne 6, 3) := by decide +kernel
theorem dX12_tellVirtuals_42 : decode cX12_tellVirtuals 42 = .ok (.goto 65, 3) := by decide +kernel
theorem dX12_tellVirtuals_45 : decode cX12_tellVirtuals 45 = .ok (.aload_n 0, 1) := by decide +kernel
theorem dX12_tellVirtuals_46 : decode cX12_tellVirtuals 46 = .ok (.getfield 43, 3) := by decide +kernel
theorem dX12_tellVirtuals_49 : decode cX12_tellVirtuals 49 = .ok (.sipush 257, 3) := by decide +kernel
theorem dX12_tellVirtuals_52 : decode cX12_tellVirtuals 52 = .ok (.iload 4, 2) := by decide +kernel
theorem dX12_tellVirtuals_54 : decode cX12_tellVirtuals 54 = .ok (.imul, 1) := by decide +kernel
theorem dX12_tellVirtuals_55 : decode cX12_tellVirtuals 55 = .ok (.bipush 14, 2) := by decide +kernel
theorem dX12_tellVirtuals_57 : decode cX12_tellVirtuals 57 = .ok (.iadd, 1) := by decide +kernel
theorem dX12_tellVirtuals_58 : decode cX12_tellVirtuals 58 = .ok (.iaload, 1) := by decide +kernel
theorem dX12_tellVirtuals_59 : decode cX12_tellVirtuals 59 = .ok (.istore 5, 2) := by decide +kernel
theorem dX12_tellVirtuals_61 : decode cX12_tellVirtuals 61 = .ok (.aload_n 0, 1) := by decide +kernel
theorem dX12_tellVirtuals_62 : decode cX12_tellVirtuals 62 = .ok (.iload_n 3, 1) := by decide +kernel
theorem dX12_tellVirtuals_63 : decode cX12_tellVirtuals 63 = .ok (.ifCond .eq 15, 3) := by decide +kernel
theorem dX12_tellVirtuals_66 : decode cX12_tellVirtuals 66 = .ok (.aload_n 0, 1) := by decide +kernel
theorem dX12_tellVirtuals_67 : decode cX12_tellVirtuals 67 = .ok (.getfield 265, 3) := by decide +kernel
theorem dX12_tellVirtuals_70 : decode cX12_tellVirtuals 70 = .ok (.iload 5, 2) := by decide +kernel
theorem dX12_tellVirtuals_72 : decode cX12_tellVirtuals 72 = .ok (.invokestatic 151, 3) := by decide +kernel
theorem dX12_tellVirtuals_75 : decode cX12_tellVirtuals 75 = .ok (.goto 5, 3) := by decide +kernel
theorem dX12_tellVirtuals_78 : decode cX12_tellVirtuals 78 = .ok (.iload 5, 2) := by decide +kernel
theorem dX12_tellVirtuals_80 : decode cX12_tellVirtuals 80 = .ok (.putfield 265, 3) := by decide +kernel
theorem dX12_tellVirtuals_83 : decode cX12_tellVirtuals 83 = .ok (.aload_n 0, 1) := by decide +kernel
theorem dX12_tellVirtuals_84 : decode cX12_tellVirtuals 84 = .ok (.iload_n 3, 1) := by decide +kernel
theorem dX12_tellVirtuals_85 : decode cX12_tellVirtuals 85 = .ok (.ifCond .eq 15, 3) := by decide +kernel
theorem dX12_tellVirtuals_88 : decode cX12_tellVirtuals 88 = .ok (.aload_n 0, 1) := by decide +kernel
theorem dX12_tellVirtuals_89 : decode cX12_tellVirtuals 89 = .ok (.getfield 268, 3) := by decide +kernel
theorem dX12_tellVirtuals_92 : decode cX12_tellVirtuals 92 = .ok (.iload 5, 2) := by decide +kernel
theorem dX12_tellVirtuals_94 : decode cX12_tellVirtuals 94 = .ok (.invokestatic 255, 3) := by decide +kernel
theorem dX12_tellVirtuals_97 : decode cX12_tellVirtuals 97 = .ok (.goto 5, 3) := by decide +kernel
theorem dX12_tellVirtuals_100 : decode cX12_tellVirtuals 100 = .ok (.iload 5, 2) := by decide +kernel
theorem dX12_tellVirtuals_102 : decode cX12_tellVirtuals 102 = .ok (.putfield 268, 3) := by decide +kernel
theorem dX12_tellVirtuals_105 : decode cX12_tellVirtuals 105 = .ok (.iconst 1, 1) := by decide +kernel
theorem dX12_tellVirtuals_106 : decode cX12_tellVirtuals 106 = .ok (.istore_n 3, 1) := by decide +kernel
theorem dX12_tellVirtuals_107 : decode cX12_tellVirtuals 107 = .ok (.iinc 4 1, 3) := by decide +kernel
theorem dX12_tellVirtuals_110 : decode cX12_tellVirtuals 110 = .ok (.goto (-105), 3) := by decide +kernel
theorem dX12_tellVirtuals_113 : decode cX12_tellVirtuals 113 = .ok (.iload_n 3, 1) := by decide +kernel
theorem dX12_tellVirtuals_114 : decode cX12_tellVirtuals 114 = .ok (.ireturn, 1) := by decide +kernel
theorem dX12_wake_0 : decode cX12_wake 0 = .ok (.aload_n 0, 1) := by decide +kernel
theorem dX12_wake_1 : decode cX12_wake 1 = .ok (.getfield 25, 3) := by decide +kernel
theorem dX12_wake_4 : decode cX12_wake 4 = .ok (.iload_n 1, 1) := by decide +kernel
theorem dX12_wake_5 : decode cX12_wake 5 = .ok (.iaload, 1) := by decide +kernel
theorem dX12_wake_6 : decode cX12_wake 6 = .ok (.istore_n 2, 1) := by decide +kernel
theorem dX12_wake_7 : decode cX12_wake 7 = .ok (.aload_n 0, 1) := by decide +kernel
theorem dX12_wake_8 : decode cX12_wake 8 = .ok (.iload_n 2, 1) := by decide +kernel
theorem dX12_wake_9 : decode cX12_wake 9 = .ok (.iload_n 1, 1) := by decide +kernel
theorem dX12_wake_10 : decode cX12_wake 10 = .ok (.invokevirtual 271, 3) := by decide +kernel
theorem dX12_wake_13 : decode cX12_wake 13 = .ok (.ifCond .eq 17, 3) := by decide +kernel
theorem dX12_wake_16 : decode cX12_wake 16 = .ok (.aload_n 0, 1) := by decide +kernel
theorem dX12_wake_17 : decode cX12_wake 17 = .ok (.getfield 265, 3) := by decide +kernel
theorem dX12_wake_20 : decode cX12_wake 20 = .ok (.aload_n 0, 1) := by decide +kernel
theorem dX12_wake_21 : decode cX12_wake 21 = .ok (.getfield 268, 3) := by decide +kernel
theorem dX12_wake_24 : decode cX12_wake 24 = .ok (.iadd, 1) := by decide +kernel
theorem dX12_wake_25 : decode cX12_wake 25 = .ok (.iconst 2, 1) := by decide +kernel
theorem dX12_wake_26 : decode cX12_wake 26 = .ok (.idiv, 1) := by decide +kernel
theorem dX12_wake_27 : decode cX12_wake 27 = .ok (.goto 32, 3) := by decide +kernel
theorem dX12_wake_30 : decode cX12_wake 30 = .ok (.iload_n 2, 1) := by decide +kernel
theorem dX12_wake_31 : decode cX12_wake 31 = .ok (.iconst (-1), 1) := by decide +kernel
theorem dX12_wake_32 : decode cX12_wake 32 = .ok (.if_icmp .ne 14, 3) := by decide +kernel
theorem dX12_wake_35 : decode cX12_wake 35 = .ok (.aload_n 0, 1) := by decide +kernel
theorem dX12_wake_36 : decode cX12_wake 36 = .ok (.getfield 43, 3) := by decide +kernel
theorem dX12_wake_39 : decode cX12_wake 39 = .ok (.sipush 3088, 3) := by decide +kernel
theorem dX12_wake_42 : decode cX12_wake 42 = .ok (.iaload, 1) := by decide +kernel
theorem dX12_wake_43 : decode cX12_wake 43 = .ok (.goto 16, 3) := by decide +kernel
theorem dX12_wake_46 : decode cX12_wake 46 = .ok (.aload_n 0, 1) := by decide +kernel
theorem dX12_wake_47 : decode cX12_wake 47 = .ok (.getfield 43, 3) := by decide +kernel
theorem dX12_wake_50 : decode cX12_wake 50 = .ok (.sipush 257, 3) := by decide +kernel
theorem dX12_wake_53 : decode cX12_wake 53 = .ok (.iload_n 2, 1) := by decide +kernel
theorem dX12_wake_54 : decode cX12_wake 54 = .ok (.imul, 1) := by decide +kernel
theorem dX12_wake_55 : decode cX12_wake 55 = .ok (.bipush 15, 2) := by decide +kernel
theorem dX12_wake_57 : decode cX12_wake 57 = .ok (.iadd, 1) := by decide +kernel
theorem dX12_wake_58 : decode cX12_wake 58 = .ok (.iaload, 1) := by decide +kernel
theorem dX12_wake_59 : decode cX12_wake 59 = .ok (.istore_n 3, 1) := by decide +kernel
theorem dX12_wake_60 : decode cX12_wake 60 = .ok (.aload_n 0, 1) := by decide +kernel
theorem dX12_wake_61 : decode cX12_wake 61 = .ok (.iload_n 1, 1) := by decide +kernel
theorem dX12_wake_62 : decode cX12_wake 62 = .ok (.aload_n 0, 1) := by decide +kernel
theorem dX12_wake_63 : decode cX12_wake 63 = .ok (.getfield 43, 3) := by decide +kernel
theorem dX12_wake_66 : decode cX12_wake 66 = .ok (.sipush 257, 3) := by decide +kernel
theorem dX12_wake_69 : decode cX12_wake 69 = .ok (.iload_n 1, 1) := by decide +kernel
theorem dX12_wake_70 : decode cX12_wake 70 = .ok (.imul, 1) := by decide +kernel
theorem dX12_wake_71 : decode cX12_wake 71 = .ok (.bipush 14, 2) := by decide +kernel
theorem dX12_wake_73 : decode cX12_wake 73 = .ok (.iadd, 1) := by decide +kernel
theorem dX12_wake_74 : decode cX12_wake 74 = .ok (.iaload, 1) := by decide +kernel
theorem dX12_wake_75 : decode cX12_wake 75 = .ok (.iload_n 3, 1) := by decide +kernel
theorem dX12_wake_76 : decode cX12_wake 76 = .ok (.invokestatic 255, 3) := by decide +kernel
theorem dX12_wake_79 : decode cX12_wake 79 = .ok (.invokevirtual 275, 3) := by decide +kernel
theorem dX12_wake_82 : decode cX12_wake 82 = .ok (.aload_n 0, 1) := by decide +kernel
theorem dX12_wake_83 : decode cX12_wake 83 = .ok (.iload_n 1, 1) := by decide +kernel
theorem dX12_wake_84 : decode cX12_wake 84 = .ok (.iconst 1, 1) := by decide +kernel
theorem dX12_wake_85 : decode cX12_wake 85 = .ok (.aload_n 0, 1) := by decide +kernel
theorem dX12_wake_86 : decode cX12_wake 86 = .ok (.getfield 43, 3) := by decide +kernel
theorem dX12_wake_89 : decode cX12_wake 89 = .ok (.sipush 257, 3) := by decide +kernel
theorem dX12_wake_92 : decode cX12_wake 92 = .ok (.iload_n 1, 1) := by decide +kernel
theorem dX12_wake_93 : decode cX12_wake 93 = .ok (.imul, 1) := by decide +kernel
theorem dX12_wake_94 : decode cX12_wake 94 = .ok (.bipush 14, 2) := by decide +kernel
theorem dX12_wake_96 : decode cX12_wake 96 = .ok (.iadd, 1) := by decide +kernel
theorem dX12_wake_97 : decode cX12_wake 97 = .ok (.iaload, 1) := by decide +kernel
theorem dX12_wake_98 : decode cX12_wake 98 = .ok (.invokevirtual 279, 3) := by decide +kernel
theorem dX12_wake_101 : decode cX12_wake 101 = .ok (.aload_n 0, 1) := by decide +kernel
theorem dX12_wake_102 : decode cX12_wake 102 = .ok (.iload_n 1, 1) := by decide +kernel
theorem dX12_wake_103 : decode cX12_wake 103 = .ok (.iconst 2, 1) := by decide +kernel
theorem dX12_wake_104 : decode cX12_wake 104 = .ok (.invokevirtual 283, 3) := by decide +kernel
theorem dX12_wake_107 : decode cX12_wake 107 = .ok (.ifCond .eq 17, 3) := by decide +kernel
theorem dX12_wake_110 : decode cX12_wake 110 = .ok (.aload_n 0, 1) := by decide +kernel
theorem dX12_wake_111 : decode cX12_wake 111 = .ok (.iload_n 1, 1) := by decide +kernel
theorem dX12_wake_112 : decode cX12_wake 112 = .ok (.iconst 2, 1) := by decide +kernel
theorem dX12_wake_113 : decode cX12_wake 113 = .ok (.aload_n 0, 1) := by decide +kernel
theorem dX12_wake_114 : decode cX12_wake 114 = .ok (.getfield 43, 3) := by decide +kernel
theorem dX12_wake_117 : decode cX12_wake 117 = .ok (.sipush 3084, 3) := by decide +kernel
theorem dX12_wake_120 : decode cX12_wake 120 = .ok (.iaload, 1) := by decide +kernel
theorem dX12_wake_121 : decode cX12_wake 121 = .ok (.invokevirtual 279, 3) := by decide +kernel
theorem dX12_wake_124 : decode cX12_wake 124 = .ok (.aload_n 0, 1) := by decide +kernel
theorem dX12_wake_125 : decode cX12_wake 125 = .ok (.iload_n 1, 1) := by decide +kernel
theorem dX12_wake_126 : decode cX12_wake 126 = .ok (.iconst 0, 1) := by decide +kernel
theorem dX12_wake_127 : decode cX12_wake 127 = .ok (.invokevirtual 283, 3) := by decide +kernel
theorem dX12_wake_130 : decode cX12_wake 130 = .ok (.ifCond .eq 17, 3) := by decide +kernel
theorem dX12_wake_133 : decode cX12_wake 133 = .ok (.aload_n 0, 1) := by decide +kernel
theorem dX12_wake_134 : decode cX12_wake 134 = .ok (.iload_n 1, 1) := by decide +kernel
theorem dX12_wake_135 : decode cX12_wake 135 = .ok (.iconst 0, 1) := by decide +kernel
theorem dX12_wake_136 : decode cX12_wake 136 = .ok (.aload_n 0, 1) := by decide +kernel
theorem dX12_wake_137 : decode cX12_wake 137 = .ok (.getfield 43, 3) := by decide +kernel
theorem dX12_wake_140 : decode cX12_wake 140 = .ok (.sipush 3084, 3) := by decide +kernel
theorem dX12_wake_143 : decode cX12_wake 143 = .ok (.iaload, 1) := by decide +kernel
theorem dX12_wake_144 : decode cX12_wake 144 = .ok (.invokevirtual 279, 3) := by decide +kernel
theorem dX12_wake_147 : decode cX12_wake 147 = .ok (.return_, 1) := by decide +kernel
theorem dX12_comes_0 : decode cX12_comes 0 = .ok (.sipush 257, 3) := by decide +kernel
theorem dX12_comes_3 : decode cX12_comes 3 = .ok (.iload_n 1, 1) := by decide +kernel
theorem dX12_comes_4 : decode cX12_comes 4 = .ok (.imul, 1) := by decide +kernel
theorem dX12_comes_5 : decode cX12_comes 5 = .ok (.istore_n 3, 1) := by decide +kernel
theorem dX12_comes_6 : decode cX12_comes 6 = .ok (.aload_n 0, 1) := by decide +kernel
theorem dX12_comes_7 : decode cX12_comes 7 = .ok (.getfield 43, 3) := by decide +kernel
theorem dX12_comes_10 : decode cX12_comes 10 = .ok (.iload_n 3, 1) := by decide +kernel
theorem dX12_comes_11 : decode cX12_comes 11 = .ok (.bipush 17, 2) := by decide +kernel
theorem dX12_comes_13 : decode cX12_comes 13 = .ok (.iadd, 1) := by decide +kernel
theorem dX12_comes_14 : decode cX12_comes 14 = .ok (.iaload, 1) := by decide +kernel
theorem dX12_comes_15 : decode cX12_comes 15 = .ok (.bipush 20, 2) := by decide +kernel
theorem dX12_comes_17 : decode cX12_comes 17 = .ok (.if_icmp .ne 18, 3) := by decide +kernel
theorem dX12_comes_20 : decode cX12_comes 20 = .ok (.aload_n 0, 1) := by decide +kernel
theorem dX12_comes_21 : decode cX12_comes 21 = .ok (.getfield 43, 3) := by decide +kernel
theorem dX12_comes_24 : decode cX12_comes 24 = .ok (.iload_n 3, 1) := by decide +kernel
theorem dX12_comes_25 : decode cX12_comes 25 = .ok (.bipush 16, 2) := by decide +kernel
theorem dX12_comes_27 : decode cX12_comes 27 = .ok (.iadd, 1) := by decide +kernel
theorem dX12_comes_28 : decode cX12_comes 28 = .ok (.dup2, 1) := by decide +kernel
theorem dX12_comes_29 : decode cX12_comes 29 = .ok (.iaload, 1) := by decide +kernel
theorem dX12_comes_30 : decode cX12_comes 30 = .ok (.iconst 1, 1) := by decide +kernel
theorem dX12_comes_31 : decode cX12_comes 31 = .ok (.iadd, 1) := by decide +kernel
theorem dX12_comes_32 : decode cX12_comes 32 = .ok (.iastore, 1) := by decide +kernel
theorem dX12_comes_33 : decode cX12_comes 33 = .ok (.iconst 0, 1) := by decide +kernel
theorem dX12_comes_34 : decode cX12_comes 34 = .ok (.ireturn, 1) := by decide +kernel
theorem dX12_comes_35 : decode cX12_comes 35 = .ok (.iload_n 1, 1) := by decide +kernel
theorem dX12_comes_36 : decode cX12_comes 36 = .ok (.istore 4, 2) := by decide +kernel
theorem dX12_comes_38 : decode cX12_comes 38 = .ok (.iload 4, 2) := by decide +kernel
theorem dX12_comes_40 : decode cX12_comes 40 = .ok (.iconst (-1), 1) := by decide +kernel
theorem dX12_comes_41 : decode cX12_comes 41 = .ok (.if_icmp .eq 28, 3) := by decide +kernel
theorem dX12_comes_44 : decode cX12_comes 44 = .ok (.aload_n 0, 1) := by decide +kernel
theorem dX12_comes_45 : decode cX12_comes 45 = .ok (.getfield 59, 3) := by decide +kernel
theorem dX12_comes_48 : decode cX12_comes 48 = .ok (.iload 4, 2) := by decide +kernel
theorem dX12_comes_50 : decode cX12_comes 50 = .ok (.aload_n 0, 1) := by decide +kernel
theorem dX12_comes_51 : decode cX12_comes 51 = .ok (.iload 4, 2) := by decide +kernel
theorem dX12_comes_53 : decode cX12_comes 53 = .ok (.invokevirtual 262, 3) := by decide +kernel
theorem dX12_comes_56 : decode cX12_comes 56 = .ok (.bastore, 1) := by decide +kernel
theorem dX12_comes_57 : decode cX12_comes 57 = .ok (.aload_n 0, 1) := by decide +kernel
theorem dX12_comes_58 : decode cX12_comes 58 = .ok (.getfield 25, 3) := by decide +kernel
theorem dX12_comes_61 : decode cX12_comes 61 = .ok (.iload 4, 2) := by decide +kernel
theorem dX12_comes_63 : decode cX12_comes 63 = .ok (.iaload, 1) := by decide +kernel
theorem dX12_comes_64 : decode cX12_comes 64 = .ok (.istore 4, 2) := by decide +kernel
theorem dX12_comes_66 : decode cX12_comes 66 = .ok (.goto (-28), 3) := by decide +kernel
theorem dX12_comes_69 : decode cX12_comes 69 = .ok (.aload_n 0, 1) := by decide +kernel
theorem dX12_comes_70 : decode cX12_comes 70 = .ok (.getfield 43, 3) := by decide +kernel
theorem dX12_comes_73 : decode cX12_comes 73 = .ok (.iload_n 3, 1) := by decide +kernel
theorem dX12_comes_74 : decode cX12_comes 74 = .ok (.bipush 18, 2) := by decide +kernel
theorem dX12_comes_76 : decode cX12_comes 76 = .ok (.iadd, 1) := by decide +kernel
theorem dX12_comes_77 : decode cX12_comes 77 = .ok (.aload_n 0, 1) := by decide +kernel
theorem dX12_comes_78 : decode cX12_comes 78 = .ok (.getfield 43, 3) := by decide +kernel
theorem dX12_comes_81 : decode cX12_comes 81 = .ok (.iload_n 3, 1) := by decide +kernel
theorem dX12_comes_82 : decode cX12_comes 82 = .ok (.bipush 17, 2) := by decide +kernel
theorem dX12_comes_84 : decode cX12_comes 84 = .ok (.iadd, 1) := by decide +kernel
theorem dX12_comes_85 : decode cX12_comes 85 = .ok (.iaload, 1) := by decide +kernel
theorem dX12_comes_86 : decode cX12_comes 86 = .ok (.iadd, 1) := by decide +kernel
theorem dX12_comes_87 : decode cX12_comes 87 = .ok (.iload_n 2, 1) := by decide +kernel
theorem dX12_comes_88 : decode cX12_comes 88 = .ok (.iastore, 1) := by decide +kernel
theorem dX12_comes_89 : decode cX12_comes 89 = .ok (.aload_n 0, 1) := by decide +kernel
theorem dX12_comes_90 : decode cX12_comes 90 = .ok (.getfield 43, 3) := by decide +kernel
theorem dX12_comes_93 : decode cX12_comes 93 = .ok (.iload_n 3, 1) := by decide +kernel
theorem dX12_comes_94 : decode cX12_comes 94 = .ok (.bipush 17, 2) := by decide +kernel
theorem dX12_comes_96 : decode cX12_comes 96 = .ok (.iadd, 1) := by decide +kernel
theorem dX12_comes_97 : decode cX12_comes 97 = .ok (.dup2, 1) := by decide +kernel
theorem dX12_comes_98 : decode cX12_comes 98 = .ok (.iaload, 1) := by decide +kernel
theorem dX12_comes_99 : decode cX12_comes 99 = .ok (.iconst 1, 1) := by decide +kernel
theorem dX12_comes_100 : decode cX12_comes 100 = .ok (.iadd, 1) := by decide +kernel
theorem dX12_comes_101 : decode cX12_comes 101 = .ok (.iastore, 1) := by decide +kernel
theorem dX12_comes_102 : decode cX12_comes 102 = .ok (.iload_n 1, 1) := by decide +kernel
theorem dX12_comes_103 : decode cX12_comes 103 = .ok (.istore 4, 2) := by decide +kernel
theorem dX12_comes_105 : decode cX12_comes 105 = .ok (.iload 4, 2) := by decide +kernel
theorem dX12_comes_107 : decode cX12_comes 107 = .ok (.iconst (-1), 1) := by decide +kernel
theorem dX12_comes_108 : decode cX12_comes 108 = .ok (.if_icmp .eq 31, 3) := by decide +kernel
theorem dX12_comes_111 : decode cX12_comes 111 = .ok (.aload_n 0, 1) := by decide +kernel
theorem dX12_comes_112 : decode cX12_comes 112 = .ok (.getfield 59, 3) := by decide +kernel
theorem dX12_comes_115 : decode cX12_comes 115 = .ok (.iload 4, 2) := by decide +kernel
theorem dX12_comes_117 : decode cX12_comes 117 = .ok (.baload, 1) := by decide +kernel
theorem dX12_comes_118 : decode cX12_comes 118 = .ok (.ifCond .ne 9, 3) := by decide +kernel
theorem dX12_comes_121 : decode cX12_comes 121 = .ok (.aload_n 0, 1) := by decide +kernel
theorem dX12_comes_122 : decode cX12_comes 122 = .ok (.iload 4, 2) := by decide +kernel
theorem dX12_comes_124 : decode cX12_comes 124 = .ok (.invokevirtual 286, 3) := by decide +kernel
theorem dX12_comes_127 : decode cX12_comes 127 = .ok (.aload_n 0, 1) := by decide +kernel
theorem dX12_comes_128 : decode cX12_comes 128 = .ok (.getfield 25, 3) := by decide +kernel
theorem dX12_comes_131 : decode cX12_comes 131 = .ok (.iload 4, 2) := by decide +kernel
theorem dX12_comes_133 : decode cX12_comes 133 = .ok (.iaload, 1) := by decide +kernel
theorem dX12_comes_134 : decode cX12_comes 134 = .ok (.istore 4, 2) := by decide +kernel
theorem dX12_comes_136 : decode cX12_comes 136 = .ok (.goto (-31), 3) := by decide +kernel
theorem dX12_comes_139 : decode cX12_comes 139 = .ok (.iconst 1, 1) := by decide +kernel
theorem dX12_comes_140 : decode cX12_comes 140 = .ok (.ireturn, 1) := by decide +kernel
theorem dX12_eligible_0 : decode cX12_eligible 0 = .ok (.iload_n 1, 1) := by decide +kernel
theorem dX12_eligible_1 : decode cX12_eligible 1 = .ok (.iconst 0, 1) := by decide +kernel
theorem dX12_eligible_2 : decode cX12_eligible 2 = .ok (.invokestatic 245, 3) := by decide +kernel
theorem dX12_eligible_5 : decode cX12_eligible 5 = .ok (.istore_n 2, 1) := by decide +kernel
theorem dX12_eligible_6 : decode cX12_eligible 6 = .ok (.aload_n 0, 1) := by decide +kernel
theorem dX12_eligible_7 : decode cX12_eligible 7 = .ok (.iload_n 1, 1) := by decide +kernel
theorem dX12_eligible_8 : decode cX12_eligible 8 = .ok (.iconst 0, 1) := by decide +kernel
theorem dX12_eligible_9 : decode cX12_eligible 9 = .ok (.aload_n 0, 1) := by decide +kernel
theorem dX12_eligible_10 : decode cX12_eligible 10 = .ok (.getfield 43, 3) := by decide +kernel
theorem dX12_eligible_13 : decode cX12_eligible 13 = .ok (.sipush 257, 3) := by decide +kernel
theorem dX12_eligible_16 : decode cX12_eligible 16 = .ok (.iload_n 1, 1) := by decide +kernel
theorem dX12_eligible_17 : decode cX12_eligible 17 = .ok (.imul, 1) := by decide +kernel
theorem dX12_eligible_18 : decode cX12_eligible 18 = .ok (.bipush 13, 2) := by decide +kernel
theorem dX12_eligible_20 : decode cX12_eligible 20 = .ok (.iadd, 1) := by decide +kernel
theorem dX12_eligible_21 : decode cX12_eligible 21 = .ok (.iaload, 1) := by decide +kernel
theorem dX12_eligible_22 : decode cX12_eligible 22 = .ok (.aload_n 0, 1) := by decide +kernel
theorem dX12_eligible_23 : decode cX12_eligible 23 = .ok (.getfield 43, 3) := by decide +kernel
theorem dX12_eligible_26 : decode cX12_eligible 26 = .ok (.iload_n 2, 1) := by decide +kernel
theorem dX12_eligible_27 : decode cX12_eligible 27 = .ok (.iconst 1, 1) := by decide +kernel
theorem dX12_eligible_28 : decode cX12_eligible 28 = .ok (.iadd, 1) := by decide +kernel
theorem dX12_eligible_29 : decode cX12_eligible 29 = .ok (.iaload, 1) := by decide +kernel
theorem dX12_eligible_30 : decode cX12_eligible 30 = .ok (.aload_n 0, 1) := by decide +kernel
theorem dX12_eligible_31 : decode cX12_eligible 31 = .ok (.getfield 43, 3) := by decide +kernel
theorem dX12_eligible_34 : decode cX12_eligible 34 = .ok (.iload_n 2, 1) := by decide +kernel
theorem dX12_eligible_35 : decode cX12_eligible 35 = .ok (.iconst 3, 1) := by decide +kernel
theorem dX12_eligible_36 : decode cX12_eligible 36 = .ok (.iadd, 1) := by decide +kernel
theorem dX12_eligible_37 : decode cX12_eligible 37 = .ok (.iaload, 1) := by decide +kernel
theorem dX12_eligible_38 : decode cX12_eligible 38 = .ok (.invokestatic 255, 3) := by decide +kernel
theorem dX12_eligible_41 : decode cX12_eligible 41 = .ok (.invokevirtual 258, 3) := by decide +kernel
theorem dX12_eligible_44 : decode cX12_eligible 44 = .ok (.ireturn, 1) := by decide +kernel
theorem dX12_deadline_0 : decode cX12_deadline 0 = .ok (.aload_n 0, 1) := by decide +kernel
theorem dX12_deadline_1 : decode cX12_deadline 1 = .ok (.iload_n 1, 1) := by decide +kernel
theorem dX12_deadline_2 : decode cX12_deadline 2 = .ok (.iconst 0, 1) := by decide +kernel
theorem dX12_deadline_3 : decode cX12_deadline 3 = .ok (.aload_n 0, 1) := by decide +kernel
theorem dX12_deadline_4 : decode cX12_deadline 4 = .ok (.getfield 43, 3) := by decide +kernel
theorem dX12_deadline_7 : decode cX12_deadline 7 = .ok (.sipush 257, 3) := by decide +kernel
theorem dX12_deadline_10 : decode cX12_deadline 10 = .ok (.iload_n 1, 1) := by decide +kernel
theorem dX12_deadline_11 : decode cX12_deadline 11 = .ok (.imul, 1) := by decide +kernel
theorem dX12_deadline_12 : decode cX12_deadline 12 = .ok (.bipush 13, 2) := by decide +kernel
theorem dX12_deadline_14 : decode cX12_deadline 14 = .ok (.iadd, 1) := by decide +kernel
theorem dX12_deadline_15 : decode cX12_deadline 15 = .ok (.iaload, 1) := by decide +kernel
theorem dX12_deadline_16 : decode cX12_deadline 16 = .ok (.aload_n 0, 1) := by decide +kernel
theorem dX12_deadline_17 : decode cX12_deadline 17 = .ok (.getfield 43, 3) := by decide +kernel
theorem dX12_deadline_20 : decode cX12_deadline 20 = .ok (.sipush 257, 3) := by decide +kernel
theorem dX12_deadline_23 : decode cX12_deadline 23 = .ok (.iload_n 1, 1) := by decide +kernel
theorem dX12_deadline_24 : decode cX12_deadline 24 = .ok (.imul, 1) := by decide +kernel
theorem dX12_deadline_25 : decode cX12_deadline 25 = .ok (.bipush 18, 2) := by decide +kernel
theorem dX12_deadline_27 : decode cX12_deadline 27 = .ok (.iadd, 1) := by decide +kernel
theorem dX12_deadline_28 : decode cX12_deadline 28 = .ok (.iaload, 1) := by decide +kernel
theorem dX12_deadline_29 : decode cX12_deadline 29 = .ok (.iadd, 1) := by decide +kernel
theorem dX12_deadline_30 : decode cX12_deadline 30 = .ok (.invokevirtual 289, 3) := by decide +kernel
theorem dX12_deadline_33 : decode cX12_deadline 33 = .ok (.ireturn, 1) := by decide +kernel
theorem dX12_fit_0 : decode cX12_fit 0 = .ok (.aload_n 0, 1) := by decide +kernel
theorem dX12_fit_1 : decode cX12_fit 1 = .ok (.iload_n 1, 1) := by decide +kernel
theorem dX12_fit_2 : decode cX12_fit 2 = .ok (.iconst 2, 1) := by decide +kernel
theorem dX12_fit_3 : decode cX12_fit 3 = .ok (.invokevirtual 283, 3) := by decide +kernel
theorem dX12_fit_6 : decode cX12_fit 6 = .ok (.ifCond .eq 25, 3) := by decide +kernel
theorem dX12_fit_9 : decode cX12_fit 9 = .ok (.aload_n 0, 1) := by decide +kernel
theorem dX12_fit_10 : decode cX12_fit 10 = .ok (.iload_n 1, 1) := by decide +kernel
theorem dX12_fit_11 : decode cX12_fit 11 = .ok (.iconst 2, 1) := by decide +kernel
theorem dX12_fit_12 : decode cX12_fit 12 = .ok (.aload_n 0, 1) := by decide +kernel
theorem dX12_fit_13 : decode cX12_fit 13 = .ok (.getfield 43, 3) := by decide +kernel
theorem dX12_fit_16 : decode cX12_fit 16 = .ok (.sipush 257, 3) := by decide +kernel
theorem dX12_fit_19 : decode cX12_fit 19 = .ok (.iload_n 1, 1) := by decide +kernel
theorem dX12_fit_20 : decode cX12_fit 20 = .ok (.imul, 1) := by decide +kernel
theorem dX12_fit_21 : decode cX12_fit 21 = .ok (.bipush 12, 2) := by decide +kernel
theorem dX12_fit_23 : decode cX12_fit 23 = .ok (.iadd, 1) := by decide +kernel
theorem dX12_fit_24 : decode cX12_fit 24 = .ok (.iaload, 1) := by decide +kernel
theorem dX12_fit_25 : decode cX12_fit 25 = .ok (.invokevirtual 289, 3) := by decide +kernel
theorem dX12_fit_28 : decode cX12_fit 28 = .ok (.goto 4, 3) := by decide +kernel
theorem dX12_fit_31 : decode cX12_fit 31 = .ok (.iconst 0, 1) := by decide +kernel
theorem dX12_fit_32 : decode cX12_fit 32 = .ok (.istore_n 2, 1) := by decide +kernel
theorem dX12_fit_33 : decode cX12_fit 33 = .ok (.iconst (-1), 1) := by decide +kernel
theorem dX12_fit_34 : decode cX12_fit 34 = .ok (.istore_n 3, 1) := by decide +kernel
theorem dX12_fit_35 : decode cX12_fit 35 = .ok (.iload_n 1, 1) := by decide +kernel
theorem dX12_fit_36 : decode cX12_fit 36 = .ok (.iconst 1, 1) := by decide +kernel
theorem dX12_fit_37 : decode cX12_fit 37 = .ok (.iadd, 1) := by decide +kernel
theorem dX12_fit_38 : decode cX12_fit 38 = .ok (.istore 4, 2) := by decide +kernel
theorem dX12_fit_40 : decode cX12_fit 40 = .ok (.iload 4, 2) := by decide +kernel
theorem dX12_fit_42 : decode cX12_fit 42 = .ok (.aload_n 0, 1) := by decide +kernel
theorem dX12_fit_43 : decode cX12_fit 43 = .ok (.getfield 21, 3) := by decide +kernel
theorem dX12_fit_46 : decode cX12_fit 46 = .ok (.iconst 0, 1) := by decide +kernel
theorem dX12_fit_47 : decode cX12_fit 47 = .ok (.iaload, 1) := by decide +kernel
theorem dX12_fit_48 : decode cX12_fit 48 = .ok (.if_icmp .ge 57, 3) := by decide +kernel
theorem dX12_fit_51 : decode cX12_fit 51 = .ok (.aload_n 0, 1) := by decide +kernel
theorem dX12_fit_52 : decode cX12_fit 52 = .ok (.getfield 25, 3) := by decide +kernel
theorem dX12_fit_55 : decode cX12_fit 55 = .ok (.iload 4, 2) := by decide +kernel
theorem dX12_fit_57 : decode cX12_fit 57 = .ok (.iaload, 1) := by decide +kernel
theorem dX12_fit_58 : decode cX12_fit 58 = .ok (.iload_n 1, 1) := by decide +kernel
theorem dX12_fit_59 : decode cX12_fit 59 = .ok (.if_icmp .ne 40, 3) := by decide +kernel
theorem dX12_fit_62 : decode cX12_fit 62 = .ok (.aload_n 0, 1) := by decide +kernel
theorem dX12_fit_63 : decode cX12_fit 63 = .ok (.iload 4, 2) := by decide +kernel
theorem dX12_fit_65 : decode cX12_fit 65 = .ok (.invokevirtual 262, 3) := by decide +kernel
theorem dX12_fit_68 : decode cX12_fit 68 = .ok (.ifCond .ne 6, 3) := by decide +kernel
theorem dX12_fit_71 : decode cX12_fit 71 = .ok (.goto 28, 3) := by decide +kernel
theorem dX12_fit_74 : decode cX12_fit 74 = .ok (.aload_n 0, 1) := by decide +kernel
theorem dX12_fit_75 : decode cX12_fit 75 = .ok (.iload 4, 2) := by decide +kernel
theorem dX12_fit_77 : decode cX12_fit 77 = .ok (.invokevirtual 293, 3) := by decide +kernel
theorem dX12_fit_80 : decode cX12_fit 80 = .ok (.istore 5, 2) := by decide +kernel
theorem dX12_fit_82 : decode cX12_fit 82 = .ok (.iload_n 3, 1) := by decide +kernel
theorem dX12_fit_83 : decode cX12_fit 83 = .ok (.iconst (-1), 1) := by decide +kernel
theorem dX12_fit_84 : decode cX12_fit 84 = .ok (.if_icmp .ne 8, 3) := by decide +kernel
theorem dX12_fit_87 : decode cX12_fit 87 = .ok (.iload 5, 2) := by decide +kernel
theorem dX12_fit_89 : decode cX12_fit 89 = .ok (.goto 9, 3) := by decide +kernel
theorem dX12_fit_92 : decode cX12_fit 92 = .ok (.iload_n 3, 1) := by decide +kernel
theorem dX12_fit_93 : decode cX12_fit 93 = .ok (.iload 5, 2) := by decide +kernel
theorem dX12_fit_95 : decode cX12_fit 95 = .ok (.invokestatic 151, 3) := by decide +kernel
theorem dX12_fit_98 : decode cX12_fit 98 = .ok (.istore_n 3, 1) := by decide +kernel
theorem dX12_fit_99 : decode cX12_fit 99 = .ok (.iinc 4 1, 3) := by decide +kernel
theorem dX12_fit_102 : decode cX12_fit 102 = .ok (.goto (-62), 3) := by decide +kernel
theorem dX12_fit_105 : decode cX12_fit 105 = .ok (.iload_n 2, 1) := by decide +kernel
theorem dX12_fit_106 : decode cX12_fit 106 = .ok (.iload_n 3, 1) := by decide +kernel
theorem dX12_fit_107 : decode cX12_fit 107 = .ok (.invokestatic 255, 3) := by decide +kernel
theorem dX12_fit_110 : decode cX12_fit 110 = .ok (.ireturn, 1) := by decide +kernel
theorem dX12_byGrant_0 : decode cX12_byGrant 0 = .ok (.iconst (-1), 1) := by decide +kernel
theorem dX12_byGrant_1 : decode cX12_byGrant 1 = .ok (.istore_n 1, 1) := by decide +kernel
theorem dX12_byGrant_2 : decode cX12_byGrant 2 = .ok (.iconst 0, 1) := by decide +kernel
theorem dX12_byGrant_3 : decode cX12_byGrant 3 = .ok (.istore_n 2, 1) := by decide +kernel
theorem dX12_byGrant_4 : decode cX12_byGrant 4 = .ok (.iconst 0, 1) := by decide +kernel
theorem dX12_byGrant_5 : decode cX12_byGrant 5 = .ok (.istore_n 3, 1) := by decide +kernel
theorem dX12_byGrant_6 : decode cX12_byGrant 6 = .ok (.iload_n 3, 1) := by decide +kernel
theorem dX12_byGrant_7 : decode cX12_byGrant 7 = .ok (.aload_n 0, 1) := by decide +kernel
theorem dX12_byGrant_8 : decode cX12_byGrant 8 = .ok (.getfield 21, 3) := by decide +kernel
theorem dX12_byGrant_11 : decode cX12_byGrant 11 = .ok (.iconst 0, 1) := by decide +kernel
theorem dX12_byGrant_12 : decode cX12_byGrant 12 = .ok (.iaload, 1) := by decide +kernel
theorem dX12_byGrant_13 : decode cX12_byGrant 13 = .ok (.if_icmp .ge 79, 3) := by decide +kernel
theorem dX12_byGrant_16 : decode cX12_byGrant 16 = .ok (.aload_n 0, 1) := by decide +kernel
theorem dX12_byGrant_17 : decode cX12_byGrant 17 = .ok (.getfield 43, 3) := by decide +kernel
theorem dX12_byGrant_20 : decode cX12_byGrant 20 = .ok (.sipush 257, 3) := by decide +kernel
theorem dX12_byGrant_23 : decode cX12_byGrant 23 = .ok (.iload_n 3, 1) := by decide +kernel
theorem dX12_byGrant_24 : decode cX12_byGrant 24 = .ok (.imul, 1) := by decide +kernel
theorem dX12_byGrant_25 : decode cX12_byGrant 25 = .ok (.bipush 17, 2) := by decide +kernel
theorem dX12_byGrant_27 : decode cX12_byGrant 27 = .ok (.iadd, 1) := by decide +kernel
theorem dX12_byGrant_28 : decode cX12_byGrant 28 = .ok (.iaload, 1) := by decide +kernel
theorem dX12_byGrant_29 : decode cX12_byGrant 29 = .ok (.ifCond .eq 57, 3) := by decide +kernel
theorem dX12_byGrant_32 : decode cX12_byGrant 32 = .ok (.aload_n 0, 1) := by decide +kernel
theorem dX12_byGrant_33 : decode cX12_byGrant 33 = .ok (.iload_n 3, 1) := by decide +kernel
theorem dX12_byGrant_34 : decode cX12_byGrant 34 = .ok (.iconst 0, 1) := by decide +kernel
theorem dX12_byGrant_35 : decode cX12_byGrant 35 = .ok (.invokevirtual 283, 3) := by decide +kernel
theorem dX12_byGrant_38 : decode cX12_byGrant 38 = .ok (.ifCond .eq 48, 3) := by decide +kernel
theorem dX12_byGrant_41 : decode cX12_byGrant 41 = .ok (.aload_n 0, 1) := by decide +kernel
theorem dX12_byGrant_42 : decode cX12_byGrant 42 = .ok (.iload_n 3, 1) := by decide +kernel
theorem dX12_byGrant_43 : decode cX12_byGrant 43 = .ok (.invokevirtual 296, 3) := by decide +kernel
theorem dX12_byGrant_46 : decode cX12_byGrant 46 = .ok (.aload_n 0, 1) := by decide +kernel
theorem dX12_byGrant_47 : decode cX12_byGrant 47 = .ok (.getfield 43, 3) := by decide +kernel
theorem dX12_byGrant_50 : decode cX12_byGrant 50 = .ok (.sipush 3084, 3) := by decide +kernel
theorem dX12_byGrant_53 : decode cX12_byGrant 53 = .ok (.iaload, 1) := by decide +kernel
theorem dX12_byGrant_54 : decode cX12_byGrant 54 = .ok (.if_icmp .le 6, 3) := by decide +kernel
theorem dX12_byGrant_57 : decode cX12_byGrant 57 = .ok (.goto 29, 3) := by decide +kernel
theorem dX12_byGrant_60 : decode cX12_byGrant 60 = .ok (.aload_n 0, 1) := by decide +kernel
theorem dX12_byGrant_61 : decode cX12_byGrant 61 = .ok (.iload_n 3, 1) := by decide +kernel
theorem dX12_byGrant_62 : decode cX12_byGrant 62 = .ok (.invokevirtual 299, 3) := by decide +kernel
theorem dX12_byGrant_65 : decode cX12_byGrant 65 = .ok (.istore 4, 2) := by decide +kernel
theorem dX12_byGrant_67 : decode cX12_byGrant 67 = .ok (.iload_n 1, 1) := by decide +kernel
theorem dX12_byGrant_68 : decode cX12_byGrant 68 = .ok (.iconst (-1), 1) := by decide +kernel
theorem dX12_byGrant_69 : decode cX12_byGrant 69 = .ok (.if_icmp .eq 12, 3) := by decide +kernel
theorem dX12_byGrant_72 : decode cX12_byGrant 72 = .ok (.iload 4, 2) := by decide +kernel
theorem dX12_byGrant_74 : decode cX12_byGrant 74 = .ok (.iload_n 2, 1) := by decide +kernel
theorem dX12_byGrant_75 : decode cX12_byGrant 75 = .ok (.if_icmp .lt 6, 3) := by decide +kernel
theorem dX12_byGrant_78 : decode cX12_byGrant 78 = .ok (.goto 8, 3) := by decide +kernel
theorem dX12_byGrant_81 : decode cX12_byGrant 81 = .ok (.iload_n 3, 1) := by decide +kernel
theorem dX12_byGrant_82 : decode cX12_byGrant 82 = .ok (.istore_n 1, 1) := by decide +kernel
theorem dX12_byGrant_83 : decode cX12_byGrant 83 = .ok (.iload 4, 2) := by decide +kernel
theorem dX12_byGrant_85 : decode cX12_byGrant 85 = .ok (.istore_n 2, 1) := by decide +kernel
theorem dX12_byGrant_86 : decode cX12_byGrant 86 = .ok (.iinc 3 1, 3) := by decide +kernel
theorem dX12_byGrant_89 : decode cX12_byGrant 89 = .ok (.goto (-83), 3) := by decide +kernel
theorem dX12_byGrant_92 : decode cX12_byGrant 92 = .ok (.iload_n 1, 1) := by decide +kernel
theorem dX12_byGrant_93 : decode cX12_byGrant 93 = .ok (.ireturn, 1) := by decide +kernel
theorem dX12_leastIn_0 : decode cX12_leastIn 0 = .ok (.iconst (-1), 1) := by decide +kernel
theorem dX12_leastIn_1 : decode cX12_leastIn 1 = .ok (.istore_n 2, 1) := by decide +kernel
theorem dX12_leastIn_2 : decode cX12_leastIn 2 = .ok (.iconst 0, 1) := by decide +kernel
theorem dX12_leastIn_3 : decode cX12_leastIn 3 = .ok (.istore_n 3, 1) := by decide +kernel
theorem dX12_leastIn_4 : decode cX12_leastIn 4 = .ok (.iload_n 3, 1) := by decide +kernel
theorem dX12_leastIn_5 : decode cX12_leastIn 5 = .ok (.aload_n 0, 1) := by decide +kernel
theorem dX12_leastIn_6 : decode cX12_leastIn 6 = .ok (.getfield 21, 3) := by decide +kernel
theorem dX12_leastIn_9 : decode cX12_leastIn 9 = .ok (.iconst 0, 1) := by decide +kernel
theorem dX12_leastIn_10 : decode cX12_leastIn 10 = .ok (.iaload, 1) := by decide +kernel
theorem dX12_leastIn_11 : decode cX12_leastIn 11 = .ok (.if_icmp .ge 82, 3) := by decide +kernel
theorem dX12_leastIn_14 : decode cX12_leastIn 14 = .ok (.aload_n 0, 1) := by decide +kernel
theorem dX12_leastIn_15 : decode cX12_leastIn 15 = .ok (.getfield 25, 3) := by decide +kernel
theorem dX12_leastIn_18 : decode cX12_leastIn 18 = .ok (.iload_n 3, 1) := by decide +kernel
theorem dX12_leastIn_19 : decode cX12_leastIn 19 = .ok (.iaload, 1) := by decide +kernel
theorem dX12_leastIn_20 : decode cX12_leastIn 20 = .ok (.iload_n 1, 1) := by decide +kernel
theorem dX12_leastIn_21 : decode cX12_leastIn 21 = .ok (.if_icmp .ne 66, 3) := by decide +kernel
theorem dX12_leastIn_24 : decode cX12_leastIn 24 = .ok (.aload_n 0, 1) := by decide +kernel
theorem dX12_leastIn_25 : decode cX12_leastIn 25 = .ok (.iload_n 3, 1) := by decide +kernel
theorem dX12_leastIn_26 : decode cX12_leastIn 26 = .ok (.invokevirtual 262, 3) := by decide +kernel
theorem dX12_leastIn_29 : decode cX12_leastIn 29 = .ok (.ifCond .eq 58, 3) := by decide +kernel
theorem dX12_leastIn_32 : decode cX12_leastIn 32 = .ok (.aload_n 0, 1) := by decide +kernel
theorem dX12_leastIn_33 : decode cX12_leastIn 33 = .ok (.iload_n 3, 1) := by decide +kernel
theorem dX12_leastIn_34 : decode cX12_leastIn 34 = .ok (.invokevirtual 293, 3) := by decide +kernel
theorem dX12_leastIn_37 : decode cX12_leastIn 37 = .ok (.aload_n 0, 1) := by decide +kernel
theorem dX12_leastIn_38 : decode cX12_leastIn 38 = .ok (.getfield 43, 3) := by decide +kernel
theorem dX12_leastIn_41 : decode cX12_leastIn 41 = .ok (.sipush 3084, 3) := by decide +kernel
theorem dX12_leastIn_44 : decode cX12_leastIn 44 = .ok (.iaload, 1) := by decide +kernel
theorem dX12_leastIn_45 : decode cX12_leastIn 45 = .ok (.if_icmp .le 6, 3) := by decide +kernel
theorem dX12_leastIn_48 : decode cX12_leastIn 48 = .ok (.goto 39, 3) := by decide +kernel
theorem dX12_leastIn_51 : decode cX12_leastIn 51 = .ok (.iload_n 2, 1) := by decide +kernel
theorem dX12_leastIn_52 : decode cX12_leastIn 52 = .ok (.iconst (-1), 1) := by decide +kernel
theorem dX12_leastIn_53 : decode cX12_leastIn 53 = .ok (.if_icmp .eq 32, 3) := by decide +kernel
theorem dX12_leastIn_56 : decode cX12_leastIn 56 = .ok (.aload_n 0, 1) := by decide +kernel
theorem dX12_leastIn_57 : decode cX12_leastIn 57 = .ok (.getfield 43, 3) := by decide +kernel
theorem dX12_leastIn_60 : decode cX12_leastIn 60 = .ok (.sipush 257, 3) := by decide +kernel
theorem dX12_leastIn_63 : decode cX12_leastIn 63 = .ok (.iload_n 3, 1) := by decide +kernel
theorem dX12_leastIn_64 : decode cX12_leastIn 64 = .ok (.imul, 1) := by decide +kernel
theorem dX12_leastIn_65 : decode cX12_leastIn 65 = .ok (.bipush 14, 2) := by decide +kernel
theorem dX12_leastIn_67 : decode cX12_leastIn 67 = .ok (.iadd, 1) := by decide +kernel
theorem dX12_leastIn_68 : decode cX12_leastIn 68 = .ok (.iaload, 1) := by decide +kernel
theorem dX12_leastIn_69 : decode cX12_leastIn 69 = .ok (.aload_n 0, 1) := by decide +kernel
theorem dX12_leastIn_70 : decode cX12_leastIn 70 = .ok (.getfield 43, 3) := by decide +kernel
theorem dX12_leastIn_73 : decode cX12_leastIn 73 = .ok (.sipush 257, 3) := by decide +kernel
theorem dX12_leastIn_76 : decode cX12_leastIn 76 = .ok (.iload_n 2, 1) := by decide +kernel
theorem dX12_leastIn_77 : decode cX12_leastIn 77 = .ok (.imul, 1) := by decide +kernel
theorem dX12_leastIn_78 : decode cX12_leastIn 78 = .ok (.bipush 14, 2) := by decide +kernel
theorem dX12_leastIn_80 : decode cX12_leastIn 80 = .ok (.iadd, 1) := by decide +kernel
theorem dX12_leastIn_81 : decode cX12_leastIn 81 = .ok (.iaload, 1) := by decide +kernel
theorem dX12_leastIn_82 : decode cX12_leastIn 82 = .ok (.if_icmp .ge 5, 3) := by decide +kernel
theorem dX12_leastIn_85 : decode cX12_leastIn 85 = .ok (.iload_n 3, 1) := by decide +kernel
theorem dX12_leastIn_86 : decode cX12_leastIn 86 = .ok (.istore_n 2, 1) := by decide +kernel
theorem dX12_leastIn_87 : decode cX12_leastIn 87 = .ok (.iinc 3 1, 3) := by decide +kernel
theorem dX12_leastIn_90 : decode cX12_leastIn 90 = .ok (.goto (-86), 3) := by decide +kernel
theorem dX12_leastIn_93 : decode cX12_leastIn 93 = .ok (.iload_n 2, 1) := by decide +kernel
theorem dX12_leastIn_94 : decode cX12_leastIn 94 = .ok (.ireturn, 1) := by decide +kernel
theorem dX12_byShare_0 : decode cX12_byShare 0 = .ok (.aload_n 0, 1) := by decide +kernel
theorem dX12_byShare_1 : decode cX12_byShare 1 = .ok (.iconst (-1), 1) := by decide +kernel
theorem dX12_byShare_2 : decode cX12_byShare 2 = .ok (.invokevirtual 302, 3) := by decide +kernel
theorem dX12_byShare_5 : decode cX12_byShare 5 = .ok (.istore_n 1, 1) := by decide +kernel
theorem dX12_byShare_6 : decode cX12_byShare 6 = .ok (.iload_n 1, 1) := by decide +kernel
theorem dX12_byShare_7 : decode cX12_byShare 7 = .ok (.iconst (-1), 1) := by decide +kernel
theorem dX12_byShare_8 : decode cX12_byShare 8 = .ok (.if_icmp .eq 20, 3) := by decide +kernel
theorem dX12_byShare_11 : decode cX12_byShare 11 = .ok (.aload_n 0, 1) := by decide +kernel
theorem dX12_byShare_12 : decode cX12_byShare 12 = .ok (.iload_n 1, 1) := by decide +kernel
theorem dX12_byShare_13 : decode cX12_byShare 13 = .ok (.invokevirtual 305, 3) := by decide +kernel
theorem dX12_byShare_16 : decode cX12_byShare 16 = .ok (.ifCond .ne 12, 3) := by decide +kernel
theorem dX12_byShare_19 : decode cX12_byShare 19 = .ok (.aload_n 0, 1) := by decide +kernel
theorem dX12_byShare_20 : decode cX12_byShare 20 = .ok (.iload_n 1, 1) := by decide +kernel
theorem dX12_byShare_21 : decode cX12_byShare 21 = .ok (.invokevirtual 302, 3) := by decide +kernel
theorem dX12_byShare_24 : decode cX12_byShare 24 = .ok (.istore_n 1, 1) := by decide +kernel
theorem dX12_byShare_25 : decode cX12_byShare 25 = .ok (.goto (-19), 3) := by decide +kernel
theorem dX12_byShare_28 : decode cX12_byShare 28 = .ok (.iload_n 1, 1) := by decide +kernel
theorem dX12_byShare_29 : decode cX12_byShare 29 = .ok (.ireturn, 1) := by decide +kernel
theorem dX12_choose_0 : decode cX12_choose 0 = .ok (.aload_n 0, 1) := by decide +kernel
theorem dX12_choose_1 : decode cX12_choose 1 = .ok (.invokevirtual 308, 3) := by decide +kernel
theorem dX12_choose_4 : decode cX12_choose 4 = .ok (.istore_n 1, 1) := by decide +kernel
theorem dX12_choose_5 : decode cX12_choose 5 = .ok (.aload_n 0, 1) := by decide +kernel
theorem dX12_choose_6 : decode cX12_choose 6 = .ok (.iload_n 1, 1) := by decide +kernel
theorem dX12_choose_7 : decode cX12_choose 7 = .ok (.iconst (-1), 1) := by decide +kernel
theorem dX12_choose_8 : decode cX12_choose 8 = .ok (.if_icmp .eq 7, 3) := by decide +kernel
theorem dX12_choose_11 : decode cX12_choose 11 = .ok (.iconst 1, 1) := by decide +kernel
theorem dX12_choose_12 : decode cX12_choose 12 = .ok (.goto 4, 3) := by decide +kernel
theorem dX12_choose_15 : decode cX12_choose 15 = .ok (.iconst 0, 1) := by decide +kernel
theorem dX12_choose_16 : decode cX12_choose 16 = .ok (.putfield 311, 3) := by decide +kernel
theorem dX12_choose_19 : decode cX12_choose 19 = .ok (.iload_n 1, 1) := by decide +kernel
theorem dX12_choose_20 : decode cX12_choose 20 = .ok (.iconst (-1), 1) := by decide +kernel
theorem dX12_choose_21 : decode cX12_choose 21 = .ok (.if_icmp .ne 8, 3) := by decide +kernel
theorem dX12_choose_24 : decode cX12_choose 24 = .ok (.aload_n 0, 1) := by decide +kernel
theorem dX12_choose_25 : decode cX12_choose 25 = .ok (.invokevirtual 314, 3) := by decide +kernel
theorem dX12_choose_28 : decode cX12_choose 28 = .ok (.istore_n 1, 1) := by decide +kernel
theorem dX12_choose_29 : decode cX12_choose 29 = .ok (.aload_n 0, 1) := by decide +kernel
theorem dX12_choose_30 : decode cX12_choose 30 = .ok (.iload_n 1, 1) := by decide +kernel
theorem dX12_choose_31 : decode cX12_choose 31 = .ok (.putfield 317, 3) := by decide +kernel
theorem dX12_choose_34 : decode cX12_choose 34 = .ok (.iload_n 1, 1) := by decide +kernel
theorem dX12_choose_35 : decode cX12_choose 35 = .ok (.iconst (-1), 1) := by decide +kernel
theorem dX12_choose_36 : decode cX12_choose 36 = .ok (.if_icmp .ne 4, 3) := by decide +kernel
theorem dX12_choose_39 : decode cX12_choose 39 = .ok (.return_, 1) := by decide +kernel
theorem dX12_choose_40 : decode cX12_choose 40 = .ok (.sipush 257, 3) := by decide +kernel
theorem dX12_choose_43 : decode cX12_choose 43 = .ok (.iload_n 1, 1) := by decide +kernel
theorem dX12_choose_44 : decode cX12_choose 44 = .ok (.imul, 1) := by decide +kernel
theorem dX12_choose_45 : decode cX12_choose 45 = .ok (.istore_n 2, 1) := by decide +kernel
theorem dX12_choose_46 : decode cX12_choose 46 = .ok (.aload_n 0, 1) := by decide +kernel
theorem dX12_choose_47 : decode cX12_choose 47 = .ok (.aload_n 0, 1) := by decide +kernel
theorem dX12_choose_48 : decode cX12_choose 48 = .ok (.getfield 43, 3) := by decide +kernel
theorem dX12_choose_51 : decode cX12_choose 51 = .ok (.iload_n 2, 1) := by decide +kernel
theorem dX12_choose_52 : decode cX12_choose 52 = .ok (.bipush 18, 2) := by decide +kernel
theorem dX12_choose_54 : decode cX12_choose 54 = .ok (.iadd, 1) := by decide +kernel
theorem dX12_choose_55 : decode cX12_choose 55 = .ok (.iaload, 1) := by decide +kernel
theorem dX12_choose_56 : decode cX12_choose 56 = .ok (.putfield 320, 3) := by decide +kernel
theorem dX12_choose_59 : decode cX12_choose 59 = .ok (.iconst 1, 1) := by decide +kernel
theorem dX12_choose_60 : decode cX12_choose 60 = .ok (.istore_n 3, 1) := by decide +kernel
theorem dX12_choose_61 : decode cX12_choose 61 = .ok (.iload_n 3, 1) := by decide +kernel
theorem dX12_choose_62 : decode cX12_choose 62 = .ok (.aload_n 0, 1) := by decide +kernel
theorem dX12_choose_63 : decode cX12_choose 63 = .ok (.getfield 43, 3) := by decide +kernel
theorem dX12_choose_66 : decode cX12_choose 66 = .ok (.iload_n 2, 1) := by decide +kernel
theorem dX12_choose_67 : decode cX12_choose 67 = .ok (.bipush 17, 2) := by decide +kernel
theorem dX12_choose_69 : decode cX12_choose 69 = .ok (.iadd, 1) := by decide +kernel
theorem dX12_choose_70 : decode cX12_choose 70 = .ok (.iaload, 1) := by decide +kernel
theorem dX12_choose_71 : decode cX12_choose 71 = .ok (.if_icmp .ge 33, 3) := by decide +kernel
theorem dX12_choose_74 : decode cX12_choose 74 = .ok (.aload_n 0, 1) := by decide +kernel
theorem dX12_choose_75 : decode cX12_choose 75 = .ok (.getfield 43, 3) := by decide +kernel
theorem dX12_choose_78 : decode cX12_choose 78 = .ok (.iload_n 2, 1) := by decide +kernel
theorem dX12_choose_79 : decode cX12_choose 79 = .ok (.bipush 18, 2) := by decide +kernel
theorem dX12_choose_81 : decode cX12_choose 81 = .ok (.iadd, 1) := by decide +kernel
theorem dX12_choose_82 : decode cX12_choose 82 = .ok (.iload_n 3, 1) := by decide +kernel
theorem dX12_choose_83 : decode cX12_choose 83 = .ok (.iadd, 1) := by decide +kernel
theorem dX12_choose_84 : decode cX12_choose 84 = .ok (.iconst 1, 1) := by decide +kernel
theorem dX12_choose_85 : decode cX12_choose 85 = .ok (.isub, 1) := by decide +kernel
theorem dX12_choose_86 : decode cX12_choose 86 = .ok (.aload_n 0, 1) := by decide +kernel
theorem dX12_choose_87 : decode cX12_choose 87 = .ok (.getfield 43, 3) := by decide +kernel
theorem dX12_choose_90 : decode cX12_choose 90 = .ok (.iload_n 2, 1) := by decide +kernel
theorem dX12_choose_91 : decode cX12_choose 91 = .ok (.bipush 18, 2) := by decide +kernel
theorem dX12_choose_93 : decode cX12_choose 93 = .ok (.iadd, 1) := by decide +kernel
theorem dX12_choose_94 : decode cX12_choose 94 = .ok (.iload_n 3, 1) := by decide +kernel
theorem dX12_choose_95 : decode cX12_choose 95 = .ok (.iadd, 1) := by decide +kernel
theorem dX12_choose_96 : decode cX12_choose 96 = .ok (.iaload, 1) := by decide +kernel
theorem dX12_choose_97 : decode cX12_choose 97 = .ok (.iastore, 1) := by decide +kernel
theorem dX12_choose_98 : decode cX12_choose 98 = .ok (.iinc 3 1, 3) := by decide +kernel
theorem dX12_choose_101 : decode cX12_choose 101 = .ok (.goto (-40), 3) := by decide +kernel
theorem dX12_choose_104 : decode cX12_choose 104 = .ok (.aload_n 0, 1) := by decide +kernel
theorem dX12_choose_105 : decode cX12_choose 105 = .ok (.getfield 43, 3) := by decide +kernel
theorem dX12_choose_108 : decode cX12_choose 108 = .ok (.iload_n 2, 1) := by decide +kernel
theorem dX12_choose_109 : decode cX12_choose 109 = .ok (.bipush 17, 2) := by decide +kernel
theorem dX12_choose_111 : decode cX12_choose 111 = .ok (.iadd, 1) := by decide +kernel
theorem dX12_choose_112 : decode cX12_choose 112 = .ok (.dup2, 1) := by decide +kernel
theorem dX12_choose_113 : decode cX12_choose 113 = .ok (.iaload, 1) := by decide +kernel
theorem dX12_choose_114 : decode cX12_choose 114 = .ok (.iconst 1, 1) := by decide +kernel
theorem dX12_choose_115 : decode cX12_choose 115 = .ok (.isub, 1) := by decide +kernel
theorem dX12_choose_116 : decode cX12_choose 116 = .ok (.iastore, 1) := by decide +kernel
theorem dX12_choose_117 : decode cX12_choose 117 = .ok (.aload_n 0, 1) := by decide +kernel
theorem dX12_choose_118 : decode cX12_choose 118 = .ok (.getfield 43, 3) := by decide +kernel
theorem dX12_choose_121 : decode cX12_choose 121 = .ok (.iload_n 2, 1) := by decide +kernel
theorem dX12_choose_122 : decode cX12_choose 122 = .ok (.bipush 18, 2) := by decide +kernel
theorem dX12_choose_124 : decode cX12_choose 124 = .ok (.iadd, 1) := by decide +kernel
theorem dX12_choose_125 : decode cX12_choose 125 = .ok (.aload_n 0, 1) := by decide +kernel
theorem dX12_choose_126 : decode cX12_choose 126 = .ok (.getfield 43, 3) := by decide +kernel
theorem dX12_choose_129 : decode cX12_choose 129 = .ok (.iload_n 2, 1) := by decide +kernel
theorem dX12_choose_130 : decode cX12_choose 130 = .ok (.bipush 17, 2) := by decide +kernel
theorem dX12_choose_132 : decode cX12_choose 132 = .ok (.iadd, 1) := by decide +kernel
theorem dX12_choose_133 : decode cX12_choose 133 = .ok (.iaload, 1) := by decide +kernel
theorem dX12_choose_134 : decode cX12_choose 134 = .ok (.iadd, 1) := by decide +kernel
theorem dX12_choose_135 : decode cX12_choose 135 = .ok (.iconst 0, 1) := by decide +kernel
theorem dX12_choose_136 : decode cX12_choose 136 = .ok (.iastore, 1) := by decide +kernel
theorem dX12_choose_137 : decode cX12_choose 137 = .ok (.aload_n 0, 1) := by decide +kernel
theorem dX12_choose_138 : decode cX12_choose 138 = .ok (.getfield 43, 3) := by decide +kernel
theorem dX12_choose_141 : decode cX12_choose 141 = .ok (.iload_n 2, 1) := by decide +kernel
theorem dX12_choose_142 : decode cX12_choose 142 = .ok (.bipush 13, 2) := by decide +kernel
theorem dX12_choose_144 : decode cX12_choose 144 = .ok (.iadd, 1) := by decide +kernel
theorem dX12_choose_145 : decode cX12_choose 145 = .ok (.dup2, 1) := by decide +kernel
theorem dX12_choose_146 : decode cX12_choose 146 = .ok (.iaload, 1) := by decide +kernel
theorem dX12_choose_147 : decode cX12_choose 147 = .ok (.aload_n 0, 1) := by decide +kernel
theorem dX12_choose_148 : decode cX12_choose 148 = .ok (.getfield 311, 3) := by decide +kernel
theorem dX12_choose_151 : decode cX12_choose 151 = .ok (.ifCond .eq 10, 3) := by decide +kernel
theorem dX12_choose_154 : decode cX12_choose 154 = .ok (.aload_n 0, 1) := by decide +kernel
theorem dX12_choose_155 : decode cX12_choose 155 = .ok (.getfield 320, 3) := by decide +kernel
theorem dX12_choose_158 : decode cX12_choose 158 = .ok (.goto 4, 3) := by decide +kernel
theorem dX12_choose_161 : decode cX12_choose 161 = .ok (.iconst 0, 1) := by decide +kernel
theorem dX12_choose_162 : decode cX12_choose 162 = .ok (.iadd, 1) := by decide +kernel
theorem dX12_choose_163 : decode cX12_choose 163 = .ok (.iastore, 1) := by decide +kernel
theorem dX12_choose_164 : decode cX12_choose 164 = .ok (.iload_n 1, 1) := by decide +kernel
theorem dX12_choose_165 : decode cX12_choose 165 = .ok (.istore_n 3, 1) := by decide +kernel
theorem dX12_choose_166 : decode cX12_choose 166 = .ok (.iload_n 3, 1) := by decide +kernel
theorem dX12_choose_167 : decode cX12_choose 167 = .ok (.iconst (-1), 1) := by decide +kernel
theorem dX12_choose_168 : decode cX12_choose 168 = .ok (.if_icmp .eq 57, 3) := by decide +kernel
theorem dX12_choose_171 : decode cX12_choose 171 = .ok (.aload_n 0, 1) := by decide +kernel
theorem dX12_choose_172 : decode cX12_choose 172 = .ok (.getfield 43, 3) := by decide +kernel
theorem dX12_choose_175 : decode cX12_choose 175 = .ok (.sipush 257, 3) := by decide +kernel
theorem dX12_choose_178 : decode cX12_choose 178 = .ok (.iload_n 3, 1) := by decide +kernel
theorem dX12_choose_179 : decode cX12_choose 179 = .ok (.imul, 1) := by decide +kernel
theorem dX12_choose_180 : decode cX12_choose 180 = .ok (.bipush 12, 2) := by decide +kernel
theorem dX12_choose_182 : decode cX12_choose 182 = .ok (.iadd, 1) := by decide +kernel
theorem dX12_choose_183 : decode cX12_choose 183 = .ok (.dup2, 1) := by decide +kernel
theorem dX12_choose_184 : decode cX12_choose 184 = .ok (.iaload, 1) := by decide +kernel
theorem dX12_choose_185 : decode cX12_choose 185 = .ok (.aload_n 0, 1) := by decide +kernel
theorem dX12_choose_186 : decode cX12_choose 186 = .ok (.getfield 320, 3) := by decide +kernel
theorem dX12_choose_189 : decode cX12_choose 189 = .ok (.iadd, 1) := by decide +kernel
theorem dX12_choose_190 : decode cX12_choose 190 = .ok (.iastore, 1) := by decide +kernel
theorem dX12_choose_191 : decode cX12_choose 191 = .ok (.aload_n 0, 1) := by decide +kernel
theorem dX12_choose_192 : decode cX12_choose 192 = .ok (.iload_n 3, 1) := by decide +kernel
theorem dX12_choose_193 : decode cX12_choose 193 = .ok (.aload_n 0, 1) := by decide +kernel
theorem dX12_choose_194 : decode cX12_choose 194 = .ok (.iload_n 3, 1) := by decide +kernel
theorem dX12_choose_195 : decode cX12_choose 195 = .ok (.iconst 1, 1) := by decide +kernel
theorem dX12_choose_196 : decode cX12_choose 196 = .ok (.aload_n 0, 1) := by decide +kernel
theorem dX12_choose_197 : decode cX12_choose 197 = .ok (.getfield 43, 3) := by decide +kernel
theorem dX12_choose_200 : decode cX12_choose 200 = .ok (.sipush 257, 3) := by decide +kernel
theorem dX12_choose_203 : decode cX12_choose 203 = .ok (.iload_n 3, 1) := by decide +kernel
theorem dX12_choose_204 : decode cX12_choose 204 = .ok (.imul, 1) := by decide +kernel
theorem dX12_choose_205 : decode cX12_choose 205 = .ok (.bipush 12, 2) := by decide +kernel
theorem dX12_choose_207 : decode cX12_choose 207 = .ok (.iadd, 1) := by decide +kernel
theorem dX12_choose_208 : decode cX12_choose 208 = .ok (.iaload, 1) := by decide +kernel
theorem dX12_choose_209 : decode cX12_choose 209 = .ok (.invokevirtual 289, 3) := by decide +kernel
theorem dX12_choose_212 : decode cX12_choose 212 = .ok (.invokevirtual 275, 3) := by decide +kernel
theorem dX12_choose_215 : decode cX12_choose 215 = .ok (.aload_n 0, 1) := by decide +kernel
theorem dX12_choose_216 : decode cX12_choose 216 = .ok (.getfield 25, 3) := by decide +kernel
theorem dX12_choose_219 : decode cX12_choose 219 = .ok (.iload_n 3, 1) := by decide +kernel
theorem dX12_choose_220 : decode cX12_choose 220 = .ok (.iaload, 1) := by decide +kernel
theorem dX12_choose_221 : decode cX12_choose 221 = .ok (.istore_n 3, 1) := by decide +kernel
theorem dX12_choose_222 : decode cX12_choose 222 = .ok (.goto (-56), 3) := by decide +kernel
theorem dX12_choose_225 : decode cX12_choose 225 = .ok (.aload_n 0, 1) := by decide +kernel
theorem dX12_choose_226 : decode cX12_choose 226 = .ok (.getfield 43, 3) := by decide +kernel
theorem dX12_choose_229 : decode cX12_choose 229 = .ok (.sipush 3085, 3) := by decide +kernel
theorem dX12_choose_232 : decode cX12_choose 232 = .ok (.aload_n 0, 1) := by decide +kernel
theorem dX12_choose_233 : decode cX12_choose 233 = .ok (.getfield 320, 3) := by decide +kernel
theorem dX12_choose_236 : decode cX12_choose 236 = .ok (.iastore, 1) := by decide +kernel
theorem dX12_choose_237 : decode cX12_choose 237 = .ok (.aload_n 0, 1) := by decide +kernel
theorem dX12_choose_238 : decode cX12_choose 238 = .ok (.getfield 43, 3) := by decide +kernel
theorem dX12_choose_241 : decode cX12_choose 241 = .ok (.sipush 3086, 3) := by decide +kernel
theorem dX12_choose_244 : decode cX12_choose 244 = .ok (.dup2, 1) := by decide +kernel
theorem dX12_choose_245 : decode cX12_choose 245 = .ok (.iaload, 1) := by decide +kernel
theorem dX12_choose_246 : decode cX12_choose 246 = .ok (.iconst 1, 1) := by decide +kernel
theorem dX12_choose_247 : decode cX12_choose 247 = .ok (.iadd, 1) := by decide +kernel
theorem dX12_choose_248 : decode cX12_choose 248 = .ok (.iastore, 1) := by decide +kernel
theorem dX12_choose_249 : decode cX12_choose 249 = .ok (.aload_n 0, 1) := by decide +kernel
theorem dX12_choose_250 : decode cX12_choose 250 = .ok (.getfield 43, 3) := by decide +kernel
theorem dX12_choose_253 : decode cX12_choose 253 = .ok (.sipush 3087, 3) := by decide +kernel
theorem dX12_choose_256 : decode cX12_choose 256 = .ok (.dup2, 1) := by decide +kernel
theorem dX12_choose_257 : decode cX12_choose 257 = .ok (.iaload, 1) := by decide +kernel
theorem dX12_choose_258 : decode cX12_choose 258 = .ok (.aload_n 0, 1) := by decide +kernel
theorem dX12_choose_259 : decode cX12_choose 259 = .ok (.getfield 311, 3) := by decide +kernel
theorem dX12_choose_262 : decode cX12_choose 262 = .ok (.ifCond .eq 7, 3) := by decide +kernel
theorem dX12_choose_265 : decode cX12_choose 265 = .ok (.iconst 1, 1) := by decide +kernel
theorem dX12_choose_266 : decode cX12_choose 266 = .ok (.goto 4, 3) := by decide +kernel
theorem dX12_choose_269 : decode cX12_choose 269 = .ok (.iconst 0, 1) := by decide +kernel
theorem dX12_choose_270 : decode cX12_choose 270 = .ok (.iadd, 1) := by decide +kernel
theorem dX12_choose_271 : decode cX12_choose 271 = .ok (.iastore, 1) := by decide +kernel
theorem dX12_choose_272 : decode cX12_choose 272 = .ok (.aload_n 0, 1) := by decide +kernel
theorem dX12_choose_273 : decode cX12_choose 273 = .ok (.getfield 43, 3) := by decide +kernel
theorem dX12_choose_276 : decode cX12_choose 276 = .ok (.sipush 3089, 3) := by decide +kernel
theorem dX12_choose_279 : decode cX12_choose 279 = .ok (.iload_n 1, 1) := by decide +kernel
theorem dX12_choose_280 : decode cX12_choose 280 = .ok (.iastore, 1) := by decide +kernel
theorem dX12_choose_281 : decode cX12_choose 281 = .ok (.return_, 1) := by decide +kernel
theorem dX12_tells_0 : decode cX12_tells 0 = .ok (.aload_n 0, 1) := by decide +kernel
theorem dX12_tells_1 : decode cX12_tells 1 = .ok (.getfield 43, 3) := by decide +kernel
theorem dX12_tells_4 : decode cX12_tells 4 = .ok (.sipush 3090, 3) := by decide +kernel
theorem dX12_tells_7 : decode cX12_tells 7 = .ok (.iaload, 1) := by decide +kernel
theorem dX12_tells_8 : decode cX12_tells 8 = .ok (.iload_n 1, 1) := by decide +kernel
theorem dX12_tells_9 : decode cX12_tells 9 = .ok (.ishr, 1) := by decide +kernel
theorem dX12_tells_10 : decode cX12_tells 10 = .ok (.iconst 1, 1) := by decide +kernel
theorem dX12_tells_11 : decode cX12_tells 11 = .ok (.iand, 1) := by decide +kernel
theorem dX12_tells_12 : decode cX12_tells 12 = .ok (.iconst 1, 1) := by decide +kernel
theorem dX12_tells_13 : decode cX12_tells 13 = .ok (.if_icmp .eq 27, 3) := by decide +kernel
theorem dX12_tells_16 : decode cX12_tells 16 = .ok (.aload_n 0, 1) := by decide +kernel
theorem dX12_tells_17 : decode cX12_tells 17 = .ok (.getfield 43, 3) := by decide +kernel
theorem dX12_tells_20 : decode cX12_tells 20 = .ok (.sipush 3084, 3) := by decide +kernel
theorem dX12_tells_23 : decode cX12_tells 23 = .ok (.iaload, 1) := by decide +kernel
theorem dX12_tells_24 : decode cX12_tells 24 = .ok (.aload_n 0, 1) := by decide +kernel
theorem dX12_tells_25 : decode cX12_tells 25 = .ok (.getfield 31, 3) := by decide +kernel
theorem dX12_tells_28 : decode cX12_tells 28 = .ok (.iload_n 1, 1) := by decide +kernel
theorem dX12_tells_29 : decode cX12_tells 29 = .ok (.iaload, 1) := by decide +kernel
theorem dX12_tells_30 : decode cX12_tells 30 = .ok (.irem, 1) := by decide +kernel
theorem dX12_tells_31 : decode cX12_tells 31 = .ok (.aload_n 0, 1) := by decide +kernel
theorem dX12_tells_32 : decode cX12_tells 32 = .ok (.getfield 34, 3) := by decide +kernel
theorem dX12_tells_35 : decode cX12_tells 35 = .ok (.iload_n 1, 1) := by decide +kernel
theorem dX12_tells_36 : decode cX12_tells 36 = .ok (.iaload, 1) := by decide +kernel
theorem dX12_tells_37 : decode cX12_tells 37 = .ok (.if_icmp .eq 4, 3) := by decide +kernel
theorem dX12_tells_40 : decode cX12_tells 40 = .ok (.return_, 1) := by decide +kernel
theorem dX12_tells_41 : decode cX12_tells 41 = .ok (.iconst 1, 1) := by decide +kernel
theorem dX12_tells_42 : decode cX12_tells 42 = .ok (.istore_n 2, 1) := by decide +kernel
theorem dX12_tells_43 : decode cX12_tells 43 = .ok (.iload_n 1, 1) := by decide +kernel
theorem dX12_tells_44 : decode cX12_tells 44 = .ok (.aload_n 0, 1) := by decide +kernel
theorem dX12_tells_45 : decode cX12_tells 45 = .ok (.getfield 63, 3) := by decide +kernel
theorem dX12_tells_48 : decode cX12_tells 48 = .ok (.if_icmp .ne 41, 3) := by decide +kernel
theorem dX12_tells_51 : decode cX12_tells 51 = .ok (.aload_n 0, 1) := by decide +kernel
theorem dX12_tells_52 : decode cX12_tells 52 = .ok (.getfield 323, 3) := by decide +kernel
theorem dX12_tells_55 : decode cX12_tells 55 = .ok (.iconst 4, 1) := by decide +kernel
theorem dX12_tells_56 : decode cX12_tells 56 = .ok (.if_icmp .gt 17, 3) := by decide +kernel
theorem dX12_tells_59 : decode cX12_tells 59 = .ok (.aload_n 0, 1) := by decide +kernel
theorem dX12_tells_60 : decode cX12_tells 60 = .ok (.getfield 326, 3) := by decide +kernel
theorem dX12_tells_63 : decode cX12_tells 63 = .ok (.aload_n 0, 1) := by decide +kernel
theorem dX12_tells_64 : decode cX12_tells 64 = .ok (.getfield 323, 3) := by decide +kernel
theorem dX12_tells_67 : decode cX12_tells 67 = .ok (.ishr, 1) := by decide +kernel
theorem dX12_tells_68 : decode cX12_tells 68 = .ok (.iconst 1, 1) := by decide +kernel
theorem dX12_tells_69 : decode cX12_tells 69 = .ok (.iand, 1) := by decide +kernel
theorem dX12_tells_70 : decode cX12_tells 70 = .ok (.ifCond .ne 7, 3) := by decide +kernel
theorem dX12_tells_73 : decode cX12_tells 73 = .ok (.iconst 1, 1) := by decide +kernel
theorem dX12_tells_74 : decode cX12_tells 74 = .ok (.goto 4, 3) := by decide +kernel
theorem dX12_tells_77 : decode cX12_tells 77 = .ok (.iconst 0, 1) := by decide +kernel
theorem dX12_tells_78 : decode cX12_tells 78 = .ok (.istore_n 2, 1) := by decide +kernel
theorem dX12_tells_79 : decode cX12_tells 79 = .ok (.aload_n 0, 1) := by decide +kernel
theorem dX12_tells_80 : decode cX12_tells 80 = .ok (.dup, 1) := by decide +kernel
theorem dX12_tells_81 : decode cX12_tells 81 = .ok (.getfield 323, 3) := by decide +kernel
theorem dX12_tells_84 : decode cX12_tells 84 = .ok (.iconst 1, 1) := by decide +kernel
theorem dX12_tells_85 : decode cX12_tells 85 = .ok (.iadd, 1) := by decide +kernel
theorem dX12_tells_86 : decode cX12_tells 86 = .ok (.putfield 323, 3) := by decide +kernel
theorem dX12_tells_89 : decode cX12_tells 89 = .ok (.iload_n 2, 1) := by decide +kernel
theorem dX12_tells_90 : decode cX12_tells 90 = .ok (.ifCond .ne 4, 3) := by decide +kernel
theorem dX12_tells_93 : decode cX12_tells 93 = .ok (.return_, 1) := by decide +kernel
theorem dX12_tells_94 : decode cX12_tells 94 = .ok (.aload_n 0, 1) := by decide +kernel
theorem dX12_tells_95 : decode cX12_tells 95 = .ok (.aload_n 0, 1) := by decide +kernel
theorem dX12_tells_96 : decode cX12_tells 96 = .ok (.getfield 28, 3) := by decide +kernel
theorem dX12_tells_99 : decode cX12_tells 99 = .ok (.iload_n 1, 1) := by decide +kernel
theorem dX12_tells_100 : decode cX12_tells 100 = .ok (.iaload, 1) := by decide +kernel
theorem dX12_tells_101 : decode cX12_tells 101 = .ok (.aload_n 0, 1) := by decide +kernel
theorem dX12_tells_102 : decode cX12_tells 102 = .ok (.getfield 43, 3) := by decide +kernel
theorem dX12_tells_105 : decode cX12_tells 105 = .ok (.sipush 3091, 3) := by decide +kernel
theorem dX12_tells_108 : decode cX12_tells 108 = .ok (.iload_n 1, 1) := by decide +kernel
theorem dX12_tells_109 : decode cX12_tells 109 = .ok (.iadd, 1) := by decide +kernel
theorem dX12_tells_110 : decode cX12_tells 110 = .ok (.iaload, 1) := by decide +kernel
theorem dX12_tells_111 : decode cX12_tells 111 = .ok (.invokevirtual 329, 3) := by decide +kernel
theorem dX12_tells_114 : decode cX12_tells 114 = .ok (.istore_n 3, 1) := by decide +kernel
theorem dX12_tells_115 : decode cX12_tells 115 = .ok (.iload_n 3, 1) := by decide +kernel
theorem dX12_tells_116 : decode cX12_tells 116 = .ok (.ifCond .eq 49, 3) := by decide +kernel
theorem dX12_tells_119 : decode cX12_tells 119 = .ok (.aload_n 0, 1) := by decide +kernel
theorem dX12_tells_120 : decode cX12_tells 120 = .ok (.getfield 28, 3) := by decide +kernel
theorem dX12_tells_123 : decode cX12_tells 123 = .ok (.iload_n 1, 1) := by decide +kernel
theorem dX12_tells_124 : decode cX12_tells 124 = .ok (.iaload, 1) := by decide +kernel
theorem dX12_tells_125 : decode cX12_tells 125 = .ok (.aload_n 0, 1) := by decide +kernel
theorem dX12_tells_126 : decode cX12_tells 126 = .ok (.getfield 66, 3) := by decide +kernel
theorem dX12_tells_129 : decode cX12_tells 129 = .ok (.if_icmp .ne 36, 3) := by decide +kernel
theorem dX12_tells_132 : decode cX12_tells 132 = .ok (.aload_n 0, 1) := by decide +kernel
theorem dX12_tells_133 : decode cX12_tells 133 = .ok (.getfield 69, 3) := by decide +kernel
theorem dX12_tells_136 : decode cX12_tells 136 = .ok (.aload_n 0, 1) := by decide +kernel
theorem dX12_tells_137 : decode cX12_tells 137 = .ok (.getfield 332, 3) := by decide +kernel
theorem dX12_tells_140 : decode cX12_tells 140 = .ok (.aload_n 0, 1) := by decide +kernel
theorem dX12_tells_141 : decode cX12_tells 141 = .ok (.getfield 69, 3) := by decide +kernel
theorem dX12_tells_144 : decode cX12_tells 144 = .ok (.arraylength, 1) := by decide +kernel
theorem dX12_tells_145 : decode cX12_tells 145 = .ok (.irem, 1) := by decide +kernel
theorem dX12_tells_146 : decode cX12_tells 146 = .ok (.aload_n 0, 1) := by decide +kernel
theorem dX12_tells_147 : decode cX12_tells 147 = .ok (.getfield 43, 3) := by decide +kernel
theorem dX12_tells_150 : decode cX12_tells 150 = .ok (.sipush 3084, 3) := by decide +kernel
theorem dX12_tells_153 : decode cX12_tells 153 = .ok (.iaload, 1) := by decide +kernel
theorem dX12_tells_154 : decode cX12_tells 154 = .ok (.iastore, 1) := by decide +kernel
theorem dX12_tells_155 : decode cX12_tells 155 = .ok (.aload_n 0, 1) := by decide +kernel
theorem dX12_tells_156 : decode cX12_tells 156 = .ok (.dup, 1) := by decide +kernel
theorem dX12_tells_157 : decode cX12_tells 157 = .ok (.getfield 332, 3) := by decide +kernel
theorem dX12_tells_160 : decode cX12_tells 160 = .ok (.iconst 1, 1) := by decide +kernel
theorem dX12_tells_161 : decode cX12_tells 161 = .ok (.iadd, 1) := by decide +kernel
theorem dX12_tells_162 : decode cX12_tells 162 = .ok (.putfield 332, 3) := by decide +kernel
theorem dX12_tells_165 : decode cX12_tells 165 = .ok (.return_, 1) := by decide +kernel
theorem dX12_unit_0 : decode cX12_unit 0 = .ok (.aload_n 0, 1) := by decide +kernel
theorem dX12_unit_1 : decode cX12_unit 1 = .ok (.iconst (-1), 1) := by decide +kernel
theorem dX12_unit_2 : decode cX12_unit 2 = .ok (.putfield 317, 3) := by decide +kernel
theorem dX12_unit_5 : decode cX12_unit 5 = .ok (.iconst 0, 1) := by decide +kernel
theorem dX12_unit_6 : decode cX12_unit 6 = .ok (.istore_n 1, 1) := by decide +kernel
theorem dX12_unit_7 : decode cX12_unit 7 = .ok (.iload_n 1, 1) := by decide +kernel
theorem dX12_unit_8 : decode cX12_unit 8 = .ok (.aload_n 0, 1) := by decide +kernel
theorem dX12_unit_9 : decode cX12_unit 9 = .ok (.getfield 21, 3) := by decide +kernel
theorem dX12_unit_12 : decode cX12_unit 12 = .ok (.iconst 1, 1) := by decide +kernel
theorem dX12_unit_13 : decode cX12_unit 13 = .ok (.iaload, 1) := by decide +kernel
theorem dX12_unit_14 : decode cX12_unit 14 = .ok (.if_icmp .ge 14, 3) := by decide +kernel
theorem dX12_unit_17 : decode cX12_unit 17 = .ok (.aload_n 0, 1) := by decide +kernel
theorem dX12_unit_18 : decode cX12_unit 18 = .ok (.iload_n 1, 1) := by decide +kernel
theorem dX12_unit_19 : decode cX12_unit 19 = .ok (.invokevirtual 335, 3) := by decide +kernel
theorem dX12_unit_22 : decode cX12_unit 22 = .ok (.iinc 1 1, 3) := by decide +kernel
theorem dX12_unit_25 : decode cX12_unit 25 = .ok (.goto (-18), 3) := by decide +kernel
theorem dX12_unit_28 : decode cX12_unit 28 = .ok (.aload_n 0, 1) := by decide +kernel
theorem dX12_unit_29 : decode cX12_unit 29 = .ok (.getfield 43, 3) := by decide +kernel
theorem dX12_unit_32 : decode cX12_unit 32 = .ok (.sipush 3085, 3) := by decide +kernel
theorem dX12_unit_35 : decode cX12_unit 35 = .ok (.iaload, 1) := by decide +kernel
theorem dX12_unit_36 : decode cX12_unit 36 = .ok (.ifCond .ne 7, 3) := by decide +kernel
theorem dX12_unit_39 : decode cX12_unit 39 = .ok (.aload_n 0, 1) := by decide +kernel
theorem dX12_unit_40 : decode cX12_unit 40 = .ok (.invokevirtual 338, 3) := by decide +kernel
theorem dX12_unit_43 : decode cX12_unit 43 = .ok (.aload_n 0, 1) := by decide +kernel
theorem dX12_unit_44 : decode cX12_unit 44 = .ok (.getfield 43, 3) := by decide +kernel
theorem dX12_unit_47 : decode cX12_unit 47 = .ok (.sipush 3085, 3) := by decide +kernel
theorem dX12_unit_50 : decode cX12_unit 50 = .ok (.iaload, 1) := by decide +kernel
theorem dX12_unit_51 : decode cX12_unit 51 = .ok (.ifCond .le 15, 3) := by decide +kernel
theorem dX12_unit_54 : decode cX12_unit 54 = .ok (.aload_n 0, 1) := by decide +kernel
theorem dX12_unit_55 : decode cX12_unit 55 = .ok (.getfield 43, 3) := by decide +kernel
theorem dX12_unit_58 : decode cX12_unit 58 = .ok (.sipush 3085, 3) := by decide +kernel
theorem dX12_unit_61 : decode cX12_unit 61 = .ok (.dup2, 1) := by decide +kernel
theorem dX12_unit_62 : decode cX12_unit 62 = .ok (.iaload, 1) := by decide +kernel
theorem dX12_unit_63 : decode cX12_unit 63 = .ok (.iconst 1, 1) := by decide +kernel
theorem dX12_unit_64 : decode cX12_unit 64 = .ok (.isub, 1) := by decide +kernel
theorem dX12_unit_65 : decode cX12_unit 65 = .ok (.iastore, 1) := by decide +kernel
theorem dX12_unit_66 : decode cX12_unit 66 = .ok (.aload_n 0, 1) := by decide +kernel
theorem dX12_unit_67 : decode cX12_unit 67 = .ok (.getfield 43, 3) := by decide +kernel
theorem dX12_unit_70 : decode cX12_unit 70 = .ok (.sipush 3084, 3) := by decide +kernel
theorem dX12_unit_73 : decode cX12_unit 73 = .ok (.dup2, 1) := by decide +kernel
theorem dX12_unit_74 : decode cX12_unit 74 = .ok (.iaload, 1) := by decide +kernel
theorem dX12_unit_75 : decode cX12_unit 75 = .ok (.iconst 1, 1) := by decide +kernel
theorem dX12_unit_76 : decode cX12_unit 76 = .ok (.iadd, 1) := by decide +kernel
theorem dX12_unit_77 : decode cX12_unit 77 = .ok (.iastore, 1) := by decide +kernel
theorem dX12_unit_78 : decode cX12_unit 78 = .ok (.return_, 1) := by decide +kernel
theorem dX12_goOn_0 : decode cX12_goOn 0 = .ok (.iconst 0, 1) := by decide +kernel
theorem dX12_goOn_1 : decode cX12_goOn 1 = .ok (.istore_n 2, 1) := by decide +kernel
theorem dX12_goOn_2 : decode cX12_goOn 2 = .ok (.iload_n 2, 1) := by decide +kernel
theorem dX12_goOn_3 : decode cX12_goOn 3 = .ok (.iload_n 1, 1) := by decide +kernel
theorem dX12_goOn_4 : decode cX12_goOn 4 = .ok (.if_icmp .ge 13, 3) := by decide +kernel
theorem dX12_goOn_7 : decode cX12_goOn 7 = .ok (.aload_n 0, 1) := by decide +kernel
theorem dX12_goOn_8 : decode cX12_goOn 8 = .ok (.invokevirtual 341, 3) := by decide +kernel
theorem dX12_goOn_11 : decode cX12_goOn 11 = .ok (.iinc 2 1, 3) := by decide +kernel
theorem dX12_goOn_14 : decode cX12_goOn 14 = .ok (.goto (-12), 3) := by decide +kernel
theorem dX12_goOn_17 : decode cX12_goOn 17 = .ok (.return_, 1) := by decide +kernel
theorem dX12_packetsNow_0 : decode cX12_packetsNow 0 = .ok (.iconst 0, 1) := by decide +kernel
theorem dX12_packetsNow_1 : decode cX12_packetsNow 1 = .ok (.istore_n 1, 1) := by decide +kernel
theorem dX12_packetsNow_2 : decode cX12_packetsNow 2 = .ok (.iconst 0, 1) := by decide +kernel
theorem dX12_packetsNow_3 : decode cX12_packetsNow 3 = .ok (.istore_n 2, 1) := by decide +kernel
theorem dX12_packetsNow_4 : decode cX12_packetsNow 4 = .ok (.iload_n 2, 1) := by decide +kernel
theorem dX12_packetsNow_5 : decode cX12_packetsNow 5 = .ok (.aload_n 0, 1) := by decide +kernel
theorem dX12_packetsNow_6 : decode cX12_packetsNow 6 = .ok (.getfield 21, 3) := by decide +kernel
theorem dX12_packetsNow_9 : decode cX12_packetsNow 9 = .ok (.iconst 0, 1) := by decide +kernel
theorem dX12_packetsNow_10 : decode cX12_packetsNow 10 = .ok (.iaload, 1) := by decide +kernel
theorem dX12_packetsNow_11 : decode cX12_packetsNow 11 = .ok (.if_icmp .ge 25, 3) := by decide +kernel
theorem dX12_packetsNow_14 : decode cX12_packetsNow 14 = .ok (.iload_n 1, 1) := by decide +kernel
theorem dX12_packetsNow_15 : decode cX12_packetsNow 15 = .ok (.aload_n 0, 1) := by decide +kernel
theorem dX12_packetsNow_16 : decode cX12_packetsNow 16 = .ok (.getfield 43, 3) := by decide +kernel
theorem dX12_packetsNow_19 : decode cX12_packetsNow 19 = .ok (.sipush 257, 3) := by decide +kernel
theorem dX12_packetsNow_22 : decode cX12_packetsNow 22 = .ok (.iload_n 2, 1) := by decide +kernel
theorem dX12_packetsNow_23 : decode cX12_packetsNow 23 = .ok (.imul, 1) := by decide +kernel
theorem dX12_packetsNow_24 : decode cX12_packetsNow 24 = .ok (.bipush 17, 2) := by decide +kernel
theorem dX12_packetsNow_26 : decode cX12_packetsNow 26 = .ok (.iadd, 1) := by decide +kernel
theorem dX12_packetsNow_27 : decode cX12_packetsNow 27 = .ok (.iaload, 1) := by decide +kernel
theorem dX12_packetsNow_28 : decode cX12_packetsNow 28 = .ok (.iadd, 1) := by decide +kernel
theorem dX12_packetsNow_29 : decode cX12_packetsNow 29 = .ok (.istore_n 1, 1) := by decide +kernel
theorem dX12_packetsNow_30 : decode cX12_packetsNow 30 = .ok (.iinc 2 1, 3) := by decide +kernel
theorem dX12_packetsNow_33 : decode cX12_packetsNow 33 = .ok (.goto (-29), 3) := by decide +kernel
theorem dX12_packetsNow_36 : decode cX12_packetsNow 36 = .ok (.iload_n 1, 1) := by decide +kernel
theorem dX12_packetsNow_37 : decode cX12_packetsNow 37 = .ok (.ireturn, 1) := by decide +kernel
theorem dX12_activeLeaves_0 : decode cX12_activeLeaves 0 = .ok (.iconst 0, 1) := by decide +kernel
theorem dX12_activeLeaves_1 : decode cX12_activeLeaves 1 = .ok (.istore_n 1, 1) := by decide +kernel
theorem dX12_activeLeaves_2 : decode cX12_activeLeaves 2 = .ok (.iconst 0, 1) := by decide +kernel
theorem dX12_activeLeaves_3 : decode cX12_activeLeaves 3 = .ok (.istore_n 2, 1) := by decide +kernel
theorem dX12_activeLeaves_4 : decode cX12_activeLeaves 4 = .ok (.iload_n 2, 1) := by decide +kernel
theorem dX12_activeLeaves_5 : decode cX12_activeLeaves 5 = .ok (.aload_n 0, 1) := by decide +kernel
theorem dX12_activeLeaves_6 : decode cX12_activeLeaves 6 = .ok (.getfield 21, 3) := by decide +kernel
theorem dX12_activeLeaves_9 : decode cX12_activeLeaves 9 = .ok (.iconst 0, 1) := by decide +kernel
theorem dX12_activeLeaves_10 : decode cX12_activeLeaves 10 = .ok (.iaload, 1) := by decide +kernel
theorem dX12_activeLeaves_11 : decode cX12_activeLeaves 11 = .ok (.if_icmp .ge 33, 3) := by decide +kernel
theorem dX12_activeLeaves_14 : decode cX12_activeLeaves 14 = .ok (.iload_n 1, 1) := by decide +kernel
theorem dX12_activeLeaves_15 : decode cX12_activeLeaves 15 = .ok (.aload_n 0, 1) := by decide +kernel
theorem dX12_activeLeaves_16 : decode cX12_activeLeaves 16 = .ok (.getfield 43, 3) := by decide +kernel
theorem dX12_activeLeaves_19 : decode cX12_activeLeaves 19 = .ok (.sipush 257, 3) := by decide +kernel
theorem dX12_activeLeaves_22 : decode cX12_activeLeaves 22 = .ok (.iload_n 2, 1) := by decide +kernel
theorem dX12_activeLeaves_23 : decode cX12_activeLeaves 23 = .ok (.imul, 1) := by decide +kernel
theorem dX12_activeLeaves_24 : decode cX12_activeLeaves 24 = .ok (.bipush 17, 2) := by decide +kernel
theorem dX12_activeLeaves_26 : decode cX12_activeLeaves 26 = .ok (.iadd, 1) := by decide +kernel
theorem dX12_activeLeaves_27 : decode cX12_activeLeaves 27 = .ok (.iaload, 1) := by decide +kernel
theorem dX12_activeLeaves_28 : decode cX12_activeLeaves 28 = .ok (.ifCond .le 7, 3) := by decide +kernel
theorem dX12_activeLeaves_31 : decode cX12_activeLeaves 31 = .ok (.iconst 1, 1) := by decide +kernel
theorem dX12_activeLeaves_32 : decode cX12_activeLeaves 32 = .ok (.goto 4, 3) := by decide +kernel
theorem dX12_activeLeaves_35 : decode cX12_activeLeaves 35 = .ok (.iconst 0, 1) := by decide +kernel
theorem dX12_activeLeaves_36 : decode cX12_activeLeaves 36 = .ok (.iadd, 1) := by decide +kernel
theorem dX12_activeLeaves_37 : decode cX12_activeLeaves 37 = .ok (.istore_n 1, 1) := by decide +kernel
theorem dX12_activeLeaves_38 : decode cX12_activeLeaves 38 = .ok (.iinc 2 1, 3) := by decide +kernel
theorem dX12_activeLeaves_41 : decode cX12_activeLeaves 41 = .ok (.goto (-37), 3) := by decide +kernel
theorem dX12_activeLeaves_44 : decode cX12_activeLeaves 44 = .ok (.iload_n 1, 1) := by decide +kernel
theorem dX12_activeLeaves_45 : decode cX12_activeLeaves 45 = .ok (.ireturn, 1) := by decide +kernel
theorem dX12_lostNow_0 : decode cX12_lostNow 0 = .ok (.iconst 0, 1) := by decide +kernel
theorem dX12_lostNow_1 : decode cX12_lostNow 1 = .ok (.istore_n 1, 1) := by decide +kernel
theorem dX12_lostNow_2 : decode cX12_lostNow 2 = .ok (.iconst 0, 1) := by decide +kernel
theorem dX12_lostNow_3 : decode cX12_lostNow 3 = .ok (.istore_n 2, 1) := by decide +kernel
theorem dX12_lostNow_4 : decode cX12_lostNow 4 = .ok (.iload_n 2, 1) := by decide +kernel
theorem dX12_lostNow_5 : decode cX12_lostNow 5 = .ok (.aload_n 0, 1) := by decide +kernel
theorem dX12_lostNow_6 : decode cX12_lostNow 6 = .ok (.getfield 21, 3) := by decide +kernel
theorem dX12_lostNow_9 : decode cX12_lostNow 9 = .ok (.iconst 0, 1) := by decide +kernel
theorem dX12_lostNow_10 : decode cX12_lostNow 10 = .ok (.iaload, 1) := by decide +kernel
theorem dX12_lostNow_11 : decode cX12_lostNow 11 = .ok (.if_icmp .ge 25, 3) := by decide +kernel
theorem dX12_lostNow_14 : decode cX12_lostNow 14 = .ok (.iload_n 1, 1) := by decide +kernel
theorem dX12_lostNow_15 : decode cX12_lostNow 15 = .ok (.aload_n 0, 1) := by decide +kernel
theorem dX12_lostNow_16 : decode cX12_lostNow 16 = .ok (.getfield 43, 3) := by decide +kernel
theorem dX12_lostNow_19 : decode cX12_lostNow 19 = .ok (.sipush 257, 3) := by decide +kernel
theorem dX12_lostNow_22 : decode cX12_lostNow 22 = .ok (.iload_n 2, 1) := by decide +kernel
theorem dX12_lostNow_23 : decode cX12_lostNow 23 = .ok (.imul, 1) := by decide +kernel
theorem dX12_lostNow_24 : decode cX12_lostNow 24 = .ok (.bipush 16, 2) := by decide +kernel
theorem dX12_lostNow_26 : decode cX12_lostNow 26 = .ok (.iadd, 1) := by decide +kernel
theorem dX12_lostNow_27 : decode cX12_lostNow 27 = .ok (.iaload, 1) := by decide +kernel
theorem dX12_lostNow_28 : decode cX12_lostNow 28 = .ok (.iadd, 1) := by decide +kernel
theorem dX12_lostNow_29 : decode cX12_lostNow 29 = .ok (.istore_n 1, 1) := by decide +kernel
theorem dX12_lostNow_30 : decode cX12_lostNow 30 = .ok (.iinc 2 1, 3) := by decide +kernel
theorem dX12_lostNow_33 : decode cX12_lostNow 33 = .ok (.goto (-29), 3) := by decide +kernel
theorem dX12_lostNow_36 : decode cX12_lostNow 36 = .ok (.iload_n 1, 1) := by decide +kernel
theorem dX12_lostNow_37 : decode cX12_lostNow 37 = .ok (.ireturn, 1) := by decide +kernel
theorem dX12_sentNow_0 : decode cX12_sentNow 0 = .ok (.iconst 0, 1) := by decide +kernel
theorem dX12_sentNow_1 : decode cX12_sentNow 1 = .ok (.istore_n 1, 1) := by decide +kernel
theorem dX12_sentNow_2 : decode cX12_sentNow 2 = .ok (.iconst 0, 1) := by decide +kernel
theorem dX12_sentNow_3 : decode cX12_sentNow 3 = .ok (.istore_n 2, 1) := by decide +kernel
theorem dX12_sentNow_4 : decode cX12_sentNow 4 = .ok (.iload_n 2, 1) := by decide +kernel
theorem dX12_sentNow_5 : decode cX12_sentNow 5 = .ok (.aload_n 0, 1) := by decide +kernel
theorem dX12_sentNow_6 : decode cX12_sentNow 6 = .ok (.getfield 21, 3) := by decide +kernel
theorem dX12_sentNow_9 : decode cX12_sentNow 9 = .ok (.iconst 0, 1) := by decide +kernel
theorem dX12_sentNow_10 : decode cX12_sentNow 10 = .ok (.iaload, 1) := by decide +kernel
theorem dX12_sentNow_11 : decode cX12_sentNow 11 = .ok (.if_icmp .ge 39, 3) := by decide +kernel
theorem dX12_sentNow_14 : decode cX12_sentNow 14 = .ok (.iload_n 1, 1) := by decide +kernel
theorem dX12_sentNow_15 : decode cX12_sentNow 15 = .ok (.aload_n 0, 1) := by decide +kernel
theorem dX12_sentNow_16 : decode cX12_sentNow 16 = .ok (.getfield 25, 3) := by decide +kernel
theorem dX12_sentNow_19 : decode cX12_sentNow 19 = .ok (.iload_n 2, 1) := by decide +kernel
theorem dX12_sentNow_20 : decode cX12_sentNow 20 = .ok (.iaload, 1) := by decide +kernel
theorem dX12_sentNow_21 : decode cX12_sentNow 21 = .ok (.iconst (-1), 1) := by decide +kernel
theorem dX12_sentNow_22 : decode cX12_sentNow 22 = .ok (.if_icmp .ne 19, 3) := by decide +kernel
theorem dX12_sentNow_25 : decode cX12_sentNow 25 = .ok (.aload_n 0, 1) := by decide +kernel
theorem dX12_sentNow_26 : decode cX12_sentNow 26 = .ok (.getfield 43, 3) := by decide +kernel
theorem dX12_sentNow_29 : decode cX12_sentNow 29 = .ok (.sipush 257, 3) := by decide +kernel
theorem dX12_sentNow_32 : decode cX12_sentNow 32 = .ok (.iload_n 2, 1) := by decide +kernel
theorem dX12_sentNow_33 : decode cX12_sentNow 33 = .ok (.imul, 1) := by decide +kernel
theorem dX12_sentNow_34 : decode cX12_sentNow 34 = .ok (.bipush 12, 2) := by decide +kernel
theorem dX12_sentNow_36 : decode cX12_sentNow 36 = .ok (.iadd, 1) := by decide +kernel
theorem dX12_sentNow_37 : decode cX12_sentNow 37 = .ok (.iaload, 1) := by decide +kernel
theorem dX12_sentNow_38 : decode cX12_sentNow 38 = .ok (.goto 4, 3) := by decide +kernel
theorem dX12_sentNow_41 : decode cX12_sentNow 41 = .ok (.iconst 0, 1) := by decide +kernel
theorem dX12_sentNow_42 : decode cX12_sentNow 42 = .ok (.iadd, 1) := by decide +kernel
theorem dX12_sentNow_43 : decode cX12_sentNow 43 = .ok (.istore_n 1, 1) := by decide +kernel
theorem dX12_sentNow_44 : decode cX12_sentNow 44 = .ok (.iinc 2 1, 3) := by decide +kernel
theorem dX12_sentNow_47 : decode cX12_sentNow 47 = .ok (.goto (-43), 3) := by decide +kernel
theorem dX12_sentNow_50 : decode cX12_sentNow 50 = .ok (.iload_n 1, 1) := by decide +kernel
theorem dX12_sentNow_51 : decode cX12_sentNow 51 = .ok (.ireturn, 1) := by decide +kernel
theorem dX12_count_0 : decode cX12_count 0 = .ok (.aload_n 0, 1) := by decide +kernel
theorem dX12_count_1 : decode cX12_count 1 = .ok (.iconst 0, 1) := by decide +kernel
theorem dX12_count_2 : decode cX12_count 2 = .ok (.putfield 118, 3) := by decide +kernel
theorem dX12_count_5 : decode cX12_count 5 = .ok (.iload_n 1, 1) := by decide +kernel
theorem dX12_count_6 : decode cX12_count 6 = .ok (.tableswitch 192 0 17 #[86, 86, 93, 102, 111, 116, 121, 130, 139, 144, 153, 158, 167, 172, 177, 182, 182, 182], 86) := by decide +kernel
theorem dX12_count_92 : decode cX12_count 92 = .ok (.aload_n 0, 1) := by decide +kernel
theorem dX12_count_93 : decode cX12_count 93 = .ok (.getfield 21, 3) := by decide +kernel
theorem dX12_count_96 : decode cX12_count 96 = .ok (.iload_n 1, 1) := by decide +kernel
theorem dX12_count_97 : decode cX12_count 97 = .ok (.iaload, 1) := by decide +kernel
theorem dX12_count_98 : decode cX12_count 98 = .ok (.ireturn, 1) := by decide +kernel
theorem dX12_count_99 : decode cX12_count 99 = .ok (.aload_n 0, 1) := by decide +kernel
theorem dX12_count_100 : decode cX12_count 100 = .ok (.getfield 43, 3) := by decide +kernel
theorem dX12_count_103 : decode cX12_count 103 = .ok (.sipush 3084, 3) := by decide +kernel
theorem dX12_count_106 : decode cX12_count 106 = .ok (.iaload, 1) := by decide +kernel
theorem dX12_count_107 : decode cX12_count 107 = .ok (.ireturn, 1) := by decide +kernel
theorem dX12_count_108 : decode cX12_count 108 = .ok (.aload_n 0, 1) := by decide +kernel
theorem dX12_count_109 : decode cX12_count 109 = .ok (.getfield 43, 3) := by decide +kernel
theorem dX12_count_112 : decode cX12_count 112 = .ok (.sipush 3085, 3) := by decide +kernel
theorem dX12_count_115 : decode cX12_count 115 = .ok (.iaload, 1) := by decide +kernel
theorem dX12_count_116 : decode cX12_count 116 = .ok (.ireturn, 1) := by decide +kernel
theorem dX12_count_117 : decode cX12_count 117 = .ok (.aload_n 0, 1) := by decide +kernel
theorem dX12_count_118 : decode cX12_count 118 = .ok (.invokevirtual 344, 3) := by decide +kernel
theorem dX12_count_121 : decode cX12_count 121 = .ok (.ireturn, 1) := by decide +kernel
theorem dX12_count_122 : decode cX12_count 122 = .ok (.aload_n 0, 1) := by decide +kernel
theorem dX12_count_123 : decode cX12_count 123 = .ok (.invokevirtual 347, 3) := by decide +kernel
theorem dX12_count_126 : decode cX12_count 126 = .ok (.ireturn, 1) := by decide +kernel
theorem dX12_count_127 : decode cX12_count 127 = .ok (.aload_n 0, 1) := by decide +kernel
theorem dX12_count_128 : decode cX12_count 128 = .ok (.getfield 43, 3) := by decide +kernel
theorem dX12_count_131 : decode cX12_count 131 = .ok (.sipush 3086, 3) := by decide +kernel
theorem dX12_count_134 : decode cX12_count 134 = .ok (.iaload, 1) := by decide +kernel
theorem dX12_count_135 : decode cX12_count 135 = .ok (.ireturn, 1) := by decide +kernel
theorem dX12_count_136 : decode cX12_count 136 = .ok (.aload_n 0, 1) := by decide +kernel
theorem dX12_count_137 : decode cX12_count 137 = .ok (.getfield 43, 3) := by decide +kernel
theorem dX12_count_140 : decode cX12_count 140 = .ok (.sipush 3087, 3) := by decide +kernel
theorem dX12_count_143 : decode cX12_count 143 = .ok (.iaload, 1) := by decide +kernel
theorem dX12_count_144 : decode cX12_count 144 = .ok (.ireturn, 1) := by decide +kernel
theorem dX12_count_145 : decode cX12_count 145 = .ok (.aload_n 0, 1) := by decide +kernel
theorem dX12_count_146 : decode cX12_count 146 = .ok (.invokevirtual 350, 3) := by decide +kernel
theorem dX12_count_149 : decode cX12_count 149 = .ok (.ireturn, 1) := by decide +kernel
theorem dX12_count_150 : decode cX12_count 150 = .ok (.aload_n 0, 1) := by decide +kernel
theorem dX12_count_151 : decode cX12_count 151 = .ok (.getfield 43, 3) := by decide +kernel
theorem dX12_count_154 : decode cX12_count 154 = .ok (.sipush 3088, 3) := by decide +kernel
theorem dX12_count_157 : decode cX12_count 157 = .ok (.iaload, 1) := by decide +kernel
theorem dX12_count_158 : decode cX12_count 158 = .ok (.ireturn, 1) := by decide +kernel
theorem dX12_count_159 : decode cX12_count 159 = .ok (.aload_n 0, 1) := by decide +kernel
theorem dX12_count_160 : decode cX12_count 160 = .ok (.invokevirtual 353, 3) := by decide +kernel
theorem dX12_count_163 : decode cX12_count 163 = .ok (.ireturn, 1) := by decide +kernel
theorem dX12_count_164 : decode cX12_count 164 = .ok (.aload_n 0, 1) := by decide +kernel
theorem dX12_count_165 : decode cX12_count 165 = .ok (.getfield 43, 3) := by decide +kernel
theorem dX12_count_168 : decode cX12_count 168 = .ok (.sipush 3089, 3) := by decide +kernel
theorem dX12_count_171 : decode cX12_count 171 = .ok (.iaload, 1) := by decide +kernel
theorem dX12_count_172 : decode cX12_count 172 = .ok (.ireturn, 1) := by decide +kernel
theorem dX12_count_173 : decode cX12_count 173 = .ok (.aload_n 0, 1) := by decide +kernel
theorem dX12_count_174 : decode cX12_count 174 = .ok (.getfield 232, 3) := by decide +kernel
theorem dX12_count_177 : decode cX12_count 177 = .ok (.ireturn, 1) := by decide +kernel
theorem dX12_count_178 : decode cX12_count 178 = .ok (.aload_n 0, 1) := by decide +kernel
theorem dX12_count_179 : decode cX12_count 179 = .ok (.getfield 235, 3) := by decide +kernel
theorem dX12_count_182 : decode cX12_count 182 = .ok (.ireturn, 1) := by decide +kernel
theorem dX12_count_183 : decode cX12_count 183 = .ok (.aload_n 0, 1) := by decide +kernel
theorem dX12_count_184 : decode cX12_count 184 = .ok (.getfield 121, 3) := by decide +kernel
theorem dX12_count_187 : decode cX12_count 187 = .ok (.ireturn, 1) := by decide +kernel
theorem dX12_count_188 : decode cX12_count 188 = .ok (.aload_n 0, 1) := by decide +kernel
theorem dX12_count_189 : decode cX12_count 189 = .ok (.getfield 46, 3) := by decide +kernel
theorem dX12_count_192 : decode cX12_count 192 = .ok (.iload_n 1, 1) := by decide +kernel
theorem dX12_count_193 : decode cX12_count 193 = .ok (.bipush 15, 2) := by decide +kernel
theorem dX12_count_195 : decode cX12_count 195 = .ok (.isub, 1) := by decide +kernel
theorem dX12_count_196 : decode cX12_count 196 = .ok (.iaload, 1) := by decide +kernel
theorem dX12_count_197 : decode cX12_count 197 = .ok (.ireturn, 1) := by decide +kernel
theorem dX12_count_198 : decode cX12_count 198 = .ok (.aload_n 0, 1) := by decide +kernel
theorem dX12_count_199 : decode cX12_count 199 = .ok (.iconst 1, 1) := by decide +kernel
theorem dX12_count_200 : decode cX12_count 200 = .ok (.invokevirtual 219, 3) := by decide +kernel
theorem dX12_count_203 : decode cX12_count 203 = .ok (.ireturn, 1) := by decide +kernel
theorem dX12_isClass_0 : decode cX12_isClass 0 = .ok (.iload_n 1, 1) := by decide +kernel
theorem dX12_isClass_1 : decode cX12_isClass 1 = .ok (.iconst 0, 1) := by decide +kernel
theorem dX12_isClass_2 : decode cX12_isClass 2 = .ok (.aload_n 0, 1) := by decide +kernel
theorem dX12_isClass_3 : decode cX12_isClass 3 = .ok (.getfield 21, 3) := by decide +kernel
theorem dX12_isClass_6 : decode cX12_isClass 6 = .ok (.iconst 0, 1) := by decide +kernel
theorem dX12_isClass_7 : decode cX12_isClass 7 = .ok (.iaload, 1) := by decide +kernel
theorem dX12_isClass_8 : decode cX12_isClass 8 = .ok (.iconst 1, 1) := by decide +kernel
theorem dX12_isClass_9 : decode cX12_isClass 9 = .ok (.isub, 1) := by decide +kernel
theorem dX12_isClass_10 : decode cX12_isClass 10 = .ok (.invokestatic 356, 3) := by decide +kernel
theorem dX12_isClass_13 : decode cX12_isClass 13 = .ok (.ireturn, 1) := by decide +kernel
theorem dX12_isLeafThere_0 : decode cX12_isLeafThere 0 = .ok (.aload_n 0, 1) := by decide +kernel
theorem dX12_isLeafThere_1 : decode cX12_isLeafThere 1 = .ok (.iload_n 1, 1) := by decide +kernel
theorem dX12_isLeafThere_2 : decode cX12_isLeafThere 2 = .ok (.invokevirtual 360, 3) := by decide +kernel
theorem dX12_isLeafThere_5 : decode cX12_isLeafThere 5 = .ok (.ifCond .eq 15, 3) := by decide +kernel
theorem dX12_isLeafThere_8 : decode cX12_isLeafThere 8 = .ok (.aload_n 0, 1) := by decide +kernel
theorem dX12_isLeafThere_9 : decode cX12_isLeafThere 9 = .ok (.iload_n 1, 1) := by decide +kernel
theorem dX12_isLeafThere_10 : decode cX12_isLeafThere 10 = .ok (.invokevirtual 305, 3) := by decide +kernel
theorem dX12_isLeafThere_13 : decode cX12_isLeafThere 13 = .ok (.ifCond .eq 7, 3) := by decide +kernel
theorem dX12_isLeafThere_16 : decode cX12_isLeafThere 16 = .ok (.iconst 1, 1) := by decide +kernel
theorem dX12_isLeafThere_17 : decode cX12_isLeafThere 17 = .ok (.goto 4, 3) := by decide +kernel
theorem dX12_isLeafThere_20 : decode cX12_isLeafThere 20 = .ok (.iconst 0, 1) := by decide +kernel
theorem dX12_isLeafThere_21 : decode cX12_isLeafThere 21 = .ok (.ireturn, 1) := by decide +kernel
theorem dX12_bytesOf_0 : decode cX12_bytesOf 0 = .ok (.iconst 0, 1) := by decide +kernel
theorem dX12_bytesOf_1 : decode cX12_bytesOf 1 = .ok (.istore_n 2, 1) := by decide +kernel
theorem dX12_bytesOf_2 : decode cX12_bytesOf 2 = .ok (.iconst 0, 1) := by decide +kernel
theorem dX12_bytesOf_3 : decode cX12_bytesOf 3 = .ok (.istore_n 3, 1) := by decide +kernel
theorem dX12_bytesOf_4 : decode cX12_bytesOf 4 = .ok (.iload_n 3, 1) := by decide +kernel
theorem dX12_bytesOf_5 : decode cX12_bytesOf 5 = .ok (.aload_n 0, 1) := by decide +kernel
theorem dX12_bytesOf_6 : decode cX12_bytesOf 6 = .ok (.getfield 43, 3) := by decide +kernel
theorem dX12_bytesOf_9 : decode cX12_bytesOf 9 = .ok (.sipush 257, 3) := by decide +kernel
theorem dX12_bytesOf_12 : decode cX12_bytesOf 12 = .ok (.iload_n 1, 1) := by decide +kernel
theorem dX12_bytesOf_13 : decode cX12_bytesOf 13 = .ok (.imul, 1) := by decide +kernel
theorem dX12_bytesOf_14 : decode cX12_bytesOf 14 = .ok (.bipush 17, 2) := by decide +kernel
theorem dX12_bytesOf_16 : decode cX12_bytesOf 16 = .ok (.iadd, 1) := by decide +kernel
theorem dX12_bytesOf_17 : decode cX12_bytesOf 17 = .ok (.iaload, 1) := by decide +kernel
theorem dX12_bytesOf_18 : decode cX12_bytesOf 18 = .ok (.if_icmp .ge 27, 3) := by decide +kernel
theorem dX12_bytesOf_21 : decode cX12_bytesOf 21 = .ok (.iload_n 2, 1) := by decide +kernel
theorem dX12_bytesOf_22 : decode cX12_bytesOf 22 = .ok (.aload_n 0, 1) := by decide +kernel
theorem dX12_bytesOf_23 : decode cX12_bytesOf 23 = .ok (.getfield 43, 3) := by decide +kernel
theorem dX12_bytesOf_26 : decode cX12_bytesOf 26 = .ok (.sipush 257, 3) := by decide +kernel
theorem dX12_bytesOf_29 : decode cX12_bytesOf 29 = .ok (.iload_n 1, 1) := by decide +kernel
theorem dX12_bytesOf_30 : decode cX12_bytesOf 30 = .ok (.imul, 1) := by decide +kernel
theorem dX12_bytesOf_31 : decode cX12_bytesOf 31 = .ok (.bipush 18, 2) := by decide +kernel
theorem dX12_bytesOf_33 : decode cX12_bytesOf 33 = .ok (.iadd, 1) := by decide +kernel
theorem dX12_bytesOf_34 : decode cX12_bytesOf 34 = .ok (.iload_n 3, 1) := by decide +kernel
theorem dX12_bytesOf_35 : decode cX12_bytesOf 35 = .ok (.iadd, 1) := by decide +kernel
theorem dX12_bytesOf_36 : decode cX12_bytesOf 36 = .ok (.iaload, 1) := by decide +kernel
theorem dX12_bytesOf_37 : decode cX12_bytesOf 37 = .ok (.iadd, 1) := by decide +kernel
theorem dX12_bytesOf_38 : decode cX12_bytesOf 38 = .ok (.istore_n 2, 1) := by decide +kernel
theorem dX12_bytesOf_39 : decode cX12_bytesOf 39 = .ok (.iinc 3 1, 3) := by decide +kernel
theorem dX12_bytesOf_42 : decode cX12_bytesOf 42 = .ok (.goto (-38), 3) := by decide +kernel
theorem dX12_bytesOf_45 : decode cX12_bytesOf 45 = .ok (.iload_n 2, 1) := by decide +kernel
theorem dX12_bytesOf_46 : decode cX12_bytesOf 46 = .ok (.ireturn, 1) := by decide +kernel
theorem dX12_of_0 : decode cX12_of 0 = .ok (.aload_n 0, 1) := by decide +kernel
theorem dX12_of_1 : decode cX12_of 1 = .ok (.iconst 0, 1) := by decide +kernel
theorem dX12_of_2 : decode cX12_of 2 = .ok (.putfield 118, 3) := by decide +kernel
theorem dX12_of_5 : decode cX12_of 5 = .ok (.aload_n 0, 1) := by decide +kernel
theorem dX12_of_6 : decode cX12_of 6 = .ok (.iload_n 1, 1) := by decide +kernel
theorem dX12_of_7 : decode cX12_of 7 = .ok (.invokevirtual 360, 3) := by decide +kernel
theorem dX12_of_10 : decode cX12_of 10 = .ok (.ifCond .ne 9, 3) := by decide +kernel
theorem dX12_of_13 : decode cX12_of 13 = .ok (.aload_n 0, 1) := by decide +kernel
theorem dX12_of_14 : decode cX12_of 14 = .ok (.iconst 1, 1) := by decide +kernel
theorem dX12_of_15 : decode cX12_of 15 = .ok (.invokevirtual 219, 3) := by decide +kernel
theorem dX12_of_18 : decode cX12_of 18 = .ok (.ireturn, 1) := by decide +kernel
theorem dX12_of_19 : decode cX12_of 19 = .ok (.iload_n 2, 1) := by decide +kernel
theorem dX12_of_20 : decode cX12_of 20 = .ok (.tableswitch 115 0 9 #[56, 63, 77, 91, 91, 91, 91, 91, 91, 109], 56) := by decide +kernel
theorem dX12_of_76 : decode cX12_of 76 = .ok (.aload_n 0, 1) := by decide +kernel
theorem dX12_of_77 : decode cX12_of 77 = .ok (.getfield 25, 3) := by decide +kernel
theorem dX12_of_80 : decode cX12_of 80 = .ok (.iload_n 1, 1) := by decide +kernel
theorem dX12_of_81 : decode cX12_of 81 = .ok (.iaload, 1) := by decide +kernel
theorem dX12_of_82 : decode cX12_of 82 = .ok (.ireturn, 1) := by decide +kernel
theorem dX12_of_83 : decode cX12_of 83 = .ok (.aload_n 0, 1) := by decide +kernel
theorem dX12_of_84 : decode cX12_of 84 = .ok (.iload_n 1, 1) := by decide +kernel
theorem dX12_of_85 : decode cX12_of 85 = .ok (.invokevirtual 305, 3) := by decide +kernel
theorem dX12_of_88 : decode cX12_of 88 = .ok (.ifCond .eq 7, 3) := by decide +kernel
theorem dX12_of_91 : decode cX12_of 91 = .ok (.iconst 1, 1) := by decide +kernel
theorem dX12_of_92 : decode cX12_of 92 = .ok (.goto 4, 3) := by decide +kernel
theorem dX12_of_95 : decode cX12_of 95 = .ok (.iconst 0, 1) := by decide +kernel
theorem dX12_of_96 : decode cX12_of 96 = .ok (.ireturn, 1) := by decide +kernel
theorem dX12_of_97 : decode cX12_of 97 = .ok (.aload_n 0, 1) := by decide +kernel
theorem dX12_of_98 : decode cX12_of 98 = .ok (.iload_n 1, 1) := by decide +kernel
theorem dX12_of_99 : decode cX12_of 99 = .ok (.invokevirtual 262, 3) := by decide +kernel
theorem dX12_of_102 : decode cX12_of 102 = .ok (.ifCond .eq 7, 3) := by decide +kernel
theorem dX12_of_105 : decode cX12_of 105 = .ok (.iconst 1, 1) := by decide +kernel
theorem dX12_of_106 : decode cX12_of 106 = .ok (.goto 4, 3) := by decide +kernel
theorem dX12_of_109 : decode cX12_of 109 = .ok (.iconst 0, 1) := by decide +kernel
theorem dX12_of_110 : decode cX12_of 110 = .ok (.ireturn, 1) := by decide +kernel
theorem dX12_of_111 : decode cX12_of 111 = .ok (.aload_n 0, 1) := by decide +kernel
theorem dX12_of_112 : decode cX12_of 112 = .ok (.getfield 43, 3) := by decide +kernel
theorem dX12_of_115 : decode cX12_of 115 = .ok (.sipush 257, 3) := by decide +kernel
theorem dX12_of_118 : decode cX12_of 118 = .ok (.iload_n 1, 1) := by decide +kernel
theorem dX12_of_119 : decode cX12_of 119 = .ok (.imul, 1) := by decide +kernel
theorem dX12_of_120 : decode cX12_of 120 = .ok (.bipush 12, 2) := by decide +kernel
theorem dX12_of_122 : decode cX12_of 122 = .ok (.iadd, 1) := by decide +kernel
theorem dX12_of_123 : decode cX12_of 123 = .ok (.iload_n 2, 1) := by decide +kernel
theorem dX12_of_124 : decode cX12_of 124 = .ok (.iadd, 1) := by decide +kernel
theorem dX12_of_125 : decode cX12_of 125 = .ok (.iconst 3, 1) := by decide +kernel
theorem dX12_of_126 : decode cX12_of 126 = .ok (.isub, 1) := by decide +kernel
theorem dX12_of_127 : decode cX12_of 127 = .ok (.iaload, 1) := by decide +kernel
theorem dX12_of_128 : decode cX12_of 128 = .ok (.ireturn, 1) := by decide +kernel
theorem dX12_of_129 : decode cX12_of 129 = .ok (.aload_n 0, 1) := by decide +kernel
theorem dX12_of_130 : decode cX12_of 130 = .ok (.iload_n 1, 1) := by decide +kernel
theorem dX12_of_131 : decode cX12_of 131 = .ok (.invokevirtual 363, 3) := by decide +kernel
theorem dX12_of_134 : decode cX12_of 134 = .ok (.ireturn, 1) := by decide +kernel
theorem dX12_of_135 : decode cX12_of 135 = .ok (.aload_n 0, 1) := by decide +kernel
theorem dX12_of_136 : decode cX12_of 136 = .ok (.iconst 1, 1) := by decide +kernel
theorem dX12_of_137 : decode cX12_of 137 = .ok (.invokevirtual 219, 3) := by decide +kernel
theorem dX12_of_140 : decode cX12_of 140 = .ok (.ireturn, 1) := by decide +kernel
theorem dX12_curve_0 : decode cX12_curve 0 = .ok (.aload_n 0, 1) := by decide +kernel
theorem dX12_curve_1 : decode cX12_curve 1 = .ok (.iconst 0, 1) := by decide +kernel
theorem dX12_curve_2 : decode cX12_curve 2 = .ok (.putfield 118, 3) := by decide +kernel
theorem dX12_curve_5 : decode cX12_curve 5 = .ok (.aload_n 0, 1) := by decide +kernel
theorem dX12_curve_6 : decode cX12_curve 6 = .ok (.iload_n 1, 1) := by decide +kernel
theorem dX12_curve_7 : decode cX12_curve 7 = .ok (.invokevirtual 360, 3) := by decide +kernel
theorem dX12_curve_10 : decode cX12_curve 10 = .ok (.ifCond .eq 30, 3) := by decide +kernel
theorem dX12_curve_13 : decode cX12_curve 13 = .ok (.iload_n 2, 1) := by decide +kernel
theorem dX12_curve_14 : decode cX12_curve 14 = .ok (.iconst 0, 1) := by decide +kernel
theorem dX12_curve_15 : decode cX12_curve 15 = .ok (.iconst 2, 1) := by decide +kernel
theorem dX12_curve_16 : decode cX12_curve 16 = .ok (.invokestatic 356, 3) := by decide +kernel
theorem dX12_curve_19 : decode cX12_curve 19 = .ok (.ifCond .eq 21, 3) := by decide +kernel
theorem dX12_curve_22 : decode cX12_curve 22 = .ok (.iload_n 3, 1) := by decide +kernel
theorem dX12_curve_23 : decode cX12_curve 23 = .ok (.iconst 0, 1) := by decide +kernel
theorem dX12_curve_24 : decode cX12_curve 24 = .ok (.iconst 2, 1) := by decide +kernel
theorem dX12_curve_25 : decode cX12_curve 25 = .ok (.invokestatic 356, 3) := by decide +kernel
theorem dX12_curve_28 : decode cX12_curve 28 = .ok (.ifCond .eq 12, 3) := by decide +kernel
theorem dX12_curve_31 : decode cX12_curve 31 = .ok (.aload_n 0, 1) := by decide +kernel
theorem dX12_curve_32 : decode cX12_curve 32 = .ok (.iload_n 1, 1) := by decide +kernel
theorem dX12_curve_33 : decode cX12_curve 33 = .ok (.iload_n 2, 1) := by decide +kernel
theorem dX12_curve_34 : decode cX12_curve 34 = .ok (.invokevirtual 283, 3) := by decide +kernel
theorem dX12_curve_37 : decode cX12_curve 37 = .ok (.ifCond .ne 9, 3) := by decide +kernel
theorem dX12_curve_40 : decode cX12_curve 40 = .ok (.aload_n 0, 1) := by decide +kernel
theorem dX12_curve_41 : decode cX12_curve 41 = .ok (.iconst 1, 1) := by decide +kernel
theorem dX12_curve_42 : decode cX12_curve 42 = .ok (.invokevirtual 219, 3) := by decide +kernel
theorem dX12_curve_45 : decode cX12_curve 45 = .ok (.ireturn, 1) := by decide +kernel
theorem dX12_curve_46 : decode cX12_curve 46 = .ok (.aload_n 0, 1) := by decide +kernel
theorem dX12_curve_47 : decode cX12_curve 47 = .ok (.getfield 43, 3) := by decide +kernel
theorem dX12_curve_50 : decode cX12_curve 50 = .ok (.iload_n 1, 1) := by decide +kernel
theorem dX12_curve_51 : decode cX12_curve 51 = .ok (.iload_n 2, 1) := by decide +kernel
theorem dX12_curve_52 : decode cX12_curve 52 = .ok (.invokestatic 245, 3) := by decide +kernel
theorem dX12_curve_55 : decode cX12_curve 55 = .ok (.iconst 1, 1) := by decide +kernel
theorem dX12_curve_56 : decode cX12_curve 56 = .ok (.iadd, 1) := by decide +kernel
theorem dX12_curve_57 : decode cX12_curve 57 = .ok (.iload_n 3, 1) := by decide +kernel
theorem dX12_curve_58 : decode cX12_curve 58 = .ok (.iadd, 1) := by decide +kernel
theorem dX12_curve_59 : decode cX12_curve 59 = .ok (.iaload, 1) := by decide +kernel
theorem dX12_curve_60 : decode cX12_curve 60 = .ok (.ireturn, 1) := by decide +kernel
theorem dX12_packet_0 : decode cX12_packet 0 = .ok (.aload_n 0, 1) := by decide +kernel
theorem dX12_packet_1 : decode cX12_packet 1 = .ok (.iconst 0, 1) := by decide +kernel
theorem dX12_packet_2 : decode cX12_packet 2 = .ok (.putfield 118, 3) := by decide +kernel
theorem dX12_packet_5 : decode cX12_packet 5 = .ok (.aload_n 0, 1) := by decide +kernel
theorem dX12_packet_6 : decode cX12_packet 6 = .ok (.iload_n 1, 1) := by decide +kernel
theorem dX12_packet_7 : decode cX12_packet 7 = .ok (.invokevirtual 360, 3) := by decide +kernel
theorem dX12_packet_10 : decode cX12_packet 10 = .ok (.ifCond .eq 44, 3) := by decide +kernel
theorem dX12_packet_13 : decode cX12_packet 13 = .ok (.iload_n 2, 1) := by decide +kernel
theorem dX12_packet_14 : decode cX12_packet 14 = .ok (.iconst 0, 1) := by decide +kernel
theorem dX12_packet_15 : decode cX12_packet 15 = .ok (.aload_n 0, 1) := by decide +kernel
theorem dX12_packet_16 : decode cX12_packet 16 = .ok (.getfield 43, 3) := by decide +kernel
theorem dX12_packet_19 : decode cX12_packet 19 = .ok (.sipush 257, 3) := by decide +kernel
theorem dX12_packet_22 : decode cX12_packet 22 = .ok (.iload_n 1, 1) := by decide +kernel
theorem dX12_packet_23 : decode cX12_packet 23 = .ok (.imul, 1) := by decide +kernel
theorem dX12_packet_24 : decode cX12_packet 24 = .ok (.bipush 17, 2) := by decide +kernel
theorem dX12_packet_26 : decode cX12_packet 26 = .ok (.iadd, 1) := by decide +kernel
theorem dX12_packet_27 : decode cX12_packet 27 = .ok (.iaload, 1) := by decide +kernel
theorem dX12_packet_28 : decode cX12_packet 28 = .ok (.iconst 1, 1) := by decide +kernel
theorem dX12_packet_29 : decode cX12_packet 29 = .ok (.isub, 1) := by decide +kernel
theorem dX12_packet_30 : decode cX12_packet 30 = .ok (.invokestatic 356, 3) := by decide +kernel
theorem dX12_packet_33 : decode cX12_packet 33 = .ok (.ifCond .eq 21, 3) := by decide +kernel
theorem dX12_packet_36 : decode cX12_packet 36 = .ok (.aload_n 0, 1) := by decide +kernel
theorem dX12_packet_37 : decode cX12_packet 37 = .ok (.getfield 43, 3) := by decide +kernel
theorem dX12_packet_40 : decode cX12_packet 40 = .ok (.sipush 257, 3) := by decide +kernel
theorem dX12_packet_43 : decode cX12_packet 43 = .ok (.iload_n 1, 1) := by decide +kernel
theorem dX12_packet_44 : decode cX12_packet 44 = .ok (.imul, 1) := by decide +kernel
theorem dX12_packet_45 : decode cX12_packet 45 = .ok (.bipush 18, 2) := by decide +kernel
theorem dX12_packet_47 : decode cX12_packet 47 = .ok (.iadd, 1) := by decide +kernel
theorem dX12_packet_48 : decode cX12_packet 48 = .ok (.iload_n 2, 1) := by decide +kernel
theorem dX12_packet_49 : decode cX12_packet 49 = .ok (.iadd, 1) := by decide +kernel
theorem dX12_packet_50 : decode cX12_packet 50 = .ok (.iaload, 1) := by decide +kernel
theorem dX12_packet_51 : decode cX12_packet 51 = .ok (.goto 8, 3) := by decide +kernel
theorem dX12_packet_54 : decode cX12_packet 54 = .ok (.aload_n 0, 1) := by decide +kernel
theorem dX12_packet_55 : decode cX12_packet 55 = .ok (.iconst 1, 1) := by decide +kernel
theorem dX12_packet_56 : decode cX12_packet 56 = .ok (.invokevirtual 219, 3) := by decide +kernel
theorem dX12_packet_59 : decode cX12_packet 59 = .ok (.ireturn, 1) := by decide +kernel
theorem dX12_due_0 : decode cX12_due 0 = .ok (.aload_n 0, 1) := by decide +kernel
theorem dX12_due_1 : decode cX12_due 1 = .ok (.iconst 0, 1) := by decide +kernel
theorem dX12_due_2 : decode cX12_due 2 = .ok (.putfield 118, 3) := by decide +kernel
theorem dX12_due_5 : decode cX12_due 5 = .ok (.aload_n 0, 1) := by decide +kernel
theorem dX12_due_6 : decode cX12_due 6 = .ok (.iload_n 1, 1) := by decide +kernel
theorem dX12_due_7 : decode cX12_due 7 = .ok (.invokevirtual 360, 3) := by decide +kernel
theorem dX12_due_10 : decode cX12_due 10 = .ok (.ifCond .eq 34, 3) := by decide +kernel
theorem dX12_due_13 : decode cX12_due 13 = .ok (.iload_n 2, 1) := by decide +kernel
theorem dX12_due_14 : decode cX12_due 14 = .ok (.iconst 0, 1) := by decide +kernel
theorem dX12_due_15 : decode cX12_due 15 = .ok (.iconst 2, 1) := by decide +kernel
theorem dX12_due_16 : decode cX12_due 16 = .ok (.invokestatic 356, 3) := by decide +kernel
theorem dX12_due_19 : decode cX12_due 19 = .ok (.ifCond .eq 25, 3) := by decide +kernel
theorem dX12_due_22 : decode cX12_due 22 = .ok (.aload_n 0, 1) := by decide +kernel
theorem dX12_due_23 : decode cX12_due 23 = .ok (.iload_n 1, 1) := by decide +kernel
theorem dX12_due_24 : decode cX12_due 24 = .ok (.invokevirtual 262, 3) := by decide +kernel
theorem dX12_due_27 : decode cX12_due 27 = .ok (.ifCond .eq 17, 3) := by decide +kernel
theorem dX12_due_30 : decode cX12_due 30 = .ok (.iload_n 2, 1) := by decide +kernel
theorem dX12_due_31 : decode cX12_due 31 = .ok (.iconst 2, 1) := by decide +kernel
theorem dX12_due_32 : decode cX12_due 32 = .ok (.if_icmp .ge 18, 3) := by decide +kernel
theorem dX12_due_35 : decode cX12_due 35 = .ok (.aload_n 0, 1) := by decide +kernel
theorem dX12_due_36 : decode cX12_due 36 = .ok (.iload_n 1, 1) := by decide +kernel
theorem dX12_due_37 : decode cX12_due 37 = .ok (.iconst 0, 1) := by decide +kernel
theorem dX12_due_38 : decode cX12_due 38 = .ok (.invokevirtual 283, 3) := by decide +kernel
theorem dX12_due_41 : decode cX12_due 41 = .ok (.ifCond .ne 9, 3) := by decide +kernel
theorem dX12_due_44 : decode cX12_due 44 = .ok (.aload_n 0, 1) := by decide +kernel
theorem dX12_due_45 : decode cX12_due 45 = .ok (.iconst 1, 1) := by decide +kernel
theorem dX12_due_46 : decode cX12_due 46 = .ok (.invokevirtual 219, 3) := by decide +kernel
theorem dX12_due_49 : decode cX12_due 49 = .ok (.ireturn, 1) := by decide +kernel
theorem dX12_due_50 : decode cX12_due 50 = .ok (.iload_n 2, 1) := by decide +kernel
theorem dX12_due_51 : decode cX12_due 51 = .ok (.ifCond .ne 11, 3) := by decide +kernel
theorem dX12_due_54 : decode cX12_due 54 = .ok (.aload_n 0, 1) := by decide +kernel
theorem dX12_due_55 : decode cX12_due 55 = .ok (.iload_n 1, 1) := by decide +kernel
theorem dX12_due_56 : decode cX12_due 56 = .ok (.invokevirtual 296, 3) := by decide +kernel
theorem dX12_due_59 : decode cX12_due 59 = .ok (.goto 21, 3) := by decide +kernel
theorem dX12_due_62 : decode cX12_due 62 = .ok (.iload_n 2, 1) := by decide +kernel
theorem dX12_due_63 : decode cX12_due 63 = .ok (.iconst 1, 1) := by decide +kernel
theorem dX12_due_64 : decode cX12_due 64 = .ok (.if_icmp .ne 11, 3) := by decide +kernel
theorem dX12_due_67 : decode cX12_due 67 = .ok (.aload_n 0, 1) := by decide +kernel
theorem dX12_due_68 : decode cX12_due 68 = .ok (.iload_n 1, 1) := by decide +kernel
theorem dX12_due_69 : decode cX12_due 69 = .ok (.invokevirtual 299, 3) := by decide +kernel
theorem dX12_due_72 : decode cX12_due 72 = .ok (.goto 8, 3) := by decide +kernel
theorem dX12_due_75 : decode cX12_due 75 = .ok (.aload_n 0, 1) := by decide +kernel
theorem dX12_due_76 : decode cX12_due 76 = .ok (.iload_n 1, 1) := by decide +kernel
theorem dX12_due_77 : decode cX12_due 77 = .ok (.invokevirtual 293, 3) := by decide +kernel
theorem dX12_due_80 : decode cX12_due 80 = .ok (.ireturn, 1) := by decide +kernel
theorem dX12_refuse_0 : decode cX12_refuse 0 = .ok (.aload_n 0, 1) := by decide +kernel
theorem dX12_refuse_1 : decode cX12_refuse 1 = .ok (.getfield 46, 3) := by decide +kernel
theorem dX12_refuse_4 : decode cX12_refuse 4 = .ok (.iload_n 1, 1) := by decide +kernel
theorem dX12_refuse_5 : decode cX12_refuse 5 = .ok (.dup2, 1) := by decide +kernel
theorem dX12_refuse_6 : decode cX12_refuse 6 = .ok (.iaload, 1) := by decide +kernel
theorem dX12_refuse_7 : decode cX12_refuse 7 = .ok (.iconst 1, 1) := by decide +kernel
theorem dX12_refuse_8 : decode cX12_refuse 8 = .ok (.iadd, 1) := by decide +kernel
theorem dX12_refuse_9 : decode cX12_refuse 9 = .ok (.iastore, 1) := by decide +kernel
theorem dX12_refuse_10 : decode cX12_refuse 10 = .ok (.iconst (-1), 1) := by decide +kernel
theorem dX12_refuse_11 : decode cX12_refuse 11 = .ok (.ireturn, 1) := by decide +kernel
theorem dX12_copyTo_0 : decode cX12_copyTo 0 = .ok (.iconst 0, 1) := by decide +kernel
theorem dX12_copyTo_1 : decode cX12_copyTo 1 = .ok (.istore_n 2, 1) := by decide +kernel
theorem dX12_copyTo_2 : decode cX12_copyTo 2 = .ok (.iload_n 2, 1) := by decide +kernel
theorem dX12_copyTo_3 : decode cX12_copyTo 3 = .ok (.aload_n 0, 1) := by decide +kernel
theorem dX12_copyTo_4 : decode cX12_copyTo 4 = .ok (.arraylength, 1) := by decide +kernel
theorem dX12_copyTo_5 : decode cX12_copyTo 5 = .ok (.if_icmp .ge 15, 3) := by decide +kernel
theorem dX12_copyTo_8 : decode cX12_copyTo 8 = .ok (.aload_n 0, 1) := by decide +kernel
theorem dX12_copyTo_9 : decode cX12_copyTo 9 = .ok (.iload_n 2, 1) := by decide +kernel
theorem dX12_copyTo_10 : decode cX12_copyTo 10 = .ok (.aload_n 1, 1) := by decide +kernel
theorem dX12_copyTo_11 : decode cX12_copyTo 11 = .ok (.iload_n 2, 1) := by decide +kernel
theorem dX12_copyTo_12 : decode cX12_copyTo 12 = .ok (.iaload, 1) := by decide +kernel
theorem dX12_copyTo_13 : decode cX12_copyTo 13 = .ok (.iastore, 1) := by decide +kernel
theorem dX12_copyTo_14 : decode cX12_copyTo 14 = .ok (.iinc 2 1, 3) := by decide +kernel
theorem dX12_copyTo_17 : decode cX12_copyTo 17 = .ok (.goto (-15), 3) := by decide +kernel
theorem dX12_copyTo_20 : decode cX12_copyTo 20 = .ok (.return_, 1) := by decide +kernel
theorem dX12_keep_0 : decode cX12_keep 0 = .ok (.aload_n 0, 1) := by decide +kernel
theorem dX12_keep_1 : decode cX12_keep 1 = .ok (.getfield 232, 3) := by decide +kernel
theorem dX12_keep_4 : decode cX12_keep 4 = .ok (.bipush 40, 2) := by decide +kernel
theorem dX12_keep_6 : decode cX12_keep 6 = .ok (.if_icmp .ne 48, 3) := by decide +kernel
theorem dX12_keep_9 : decode cX12_keep 9 = .ok (.sipush 3099, 3) := by decide +kernel
theorem dX12_keep_12 : decode cX12_keep 12 = .ok (.istore_n 1, 1) := by decide +kernel
theorem dX12_keep_13 : decode cX12_keep 13 = .ok (.iload_n 1, 1) := by decide +kernel
theorem dX12_keep_14 : decode cX12_keep 14 = .ok (.aload_n 0, 1) := by decide +kernel
theorem dX12_keep_15 : decode cX12_keep 15 = .ok (.getfield 73, 3) := by decide +kernel
theorem dX12_keep_18 : decode cX12_keep 18 = .ok (.arraylength, 1) := by decide +kernel
theorem dX12_keep_19 : decode cX12_keep 19 = .ok (.if_icmp .ge 25, 3) := by decide +kernel
theorem dX12_keep_22 : decode cX12_keep 22 = .ok (.aload_n 0, 1) := by decide +kernel
theorem dX12_keep_23 : decode cX12_keep 23 = .ok (.getfield 73, 3) := by decide +kernel
theorem dX12_keep_26 : decode cX12_keep 26 = .ok (.iload_n 1, 1) := by decide +kernel
theorem dX12_keep_27 : decode cX12_keep 27 = .ok (.sipush 3099, 3) := by decide +kernel
theorem dX12_keep_30 : decode cX12_keep 30 = .ok (.isub, 1) := by decide +kernel
theorem dX12_keep_31 : decode cX12_keep 31 = .ok (.aload_n 0, 1) := by decide +kernel
theorem dX12_keep_32 : decode cX12_keep 32 = .ok (.getfield 73, 3) := by decide +kernel
theorem dX12_keep_35 : decode cX12_keep 35 = .ok (.iload_n 1, 1) := by decide +kernel
theorem dX12_keep_36 : decode cX12_keep 36 = .ok (.iaload, 1) := by decide +kernel
theorem dX12_keep_37 : decode cX12_keep 37 = .ok (.iastore, 1) := by decide +kernel
theorem dX12_keep_38 : decode cX12_keep 38 = .ok (.iinc 1 1, 3) := by decide +kernel
theorem dX12_keep_41 : decode cX12_keep 41 = .ok (.goto (-28), 3) := by decide +kernel
theorem dX12_keep_44 : decode cX12_keep 44 = .ok (.aload_n 0, 1) := by decide +kernel
theorem dX12_keep_45 : decode cX12_keep 45 = .ok (.dup, 1) := by decide +kernel
theorem dX12_keep_46 : decode cX12_keep 46 = .ok (.getfield 232, 3) := by decide +kernel
theorem dX12_keep_49 : decode cX12_keep 49 = .ok (.iconst 1, 1) := by decide +kernel
theorem dX12_keep_50 : decode cX12_keep 50 = .ok (.isub, 1) := by decide +kernel
theorem dX12_keep_51 : decode cX12_keep 51 = .ok (.putfield 232, 3) := by decide +kernel
theorem dX12_keep_54 : decode cX12_keep 54 = .ok (.iconst 0, 1) := by decide +kernel
theorem dX12_keep_55 : decode cX12_keep 55 = .ok (.istore_n 1, 1) := by decide +kernel
theorem dX12_keep_56 : decode cX12_keep 56 = .ok (.iload_n 1, 1) := by decide +kernel
theorem dX12_keep_57 : decode cX12_keep 57 = .ok (.sipush 3099, 3) := by decide +kernel
theorem dX12_keep_60 : decode cX12_keep 60 = .ok (.if_icmp .ge 30, 3) := by decide +kernel
theorem dX12_keep_63 : decode cX12_keep 63 = .ok (.aload_n 0, 1) := by decide +kernel
theorem dX12_keep_64 : decode cX12_keep 64 = .ok (.getfield 73, 3) := by decide +kernel
theorem dX12_keep_67 : decode cX12_keep 67 = .ok (.sipush 3099, 3) := by decide +kernel
theorem dX12_keep_70 : decode cX12_keep 70 = .ok (.aload_n 0, 1) := by decide +kernel
theorem dX12_keep_71 : decode cX12_keep 71 = .ok (.getfield 232, 3) := by decide +kernel
theorem dX12_keep_74 : decode cX12_keep 74 = .ok (.imul, 1) := by decide +kernel
theorem dX12_keep_75 : decode cX12_keep 75 = .ok (.iload_n 1, 1) := by decide +kernel
theorem dX12_keep_76 : decode cX12_keep 76 = .ok (.iadd, 1) := by decide +kernel
theorem dX12_keep_77 : decode cX12_keep 77 = .ok (.aload_n 0, 1) := by decide +kernel
theorem dX12_keep_78 : decode cX12_keep 78 = .ok (.getfield 43, 3) := by decide +kernel
theorem dX12_keep_81 : decode cX12_keep 81 = .ok (.iload_n 1, 1) := by decide +kernel
theorem dX12_keep_82 : decode cX12_keep 82 = .ok (.iaload, 1) := by decide +kernel
theorem dX12_keep_83 : decode cX12_keep 83 = .ok (.iastore, 1) := by decide +kernel
theorem dX12_keep_84 : decode cX12_keep 84 = .ok (.iinc 1 1, 3) := by decide +kernel
theorem dX12_keep_87 : decode cX12_keep 87 = .ok (.goto (-31), 3) := by decide +kernel
theorem dX12_keep_90 : decode cX12_keep 90 = .ok (.aload_n 0, 1) := by decide +kernel
theorem dX12_keep_91 : decode cX12_keep 91 = .ok (.dup, 1) := by decide +kernel
theorem dX12_keep_92 : decode cX12_keep 92 = .ok (.getfield 232, 3) := by decide +kernel
theorem dX12_keep_95 : decode cX12_keep 95 = .ok (.iconst 1, 1) := by decide +kernel
theorem dX12_keep_96 : decode cX12_keep 96 = .ok (.iadd, 1) := by decide +kernel
theorem dX12_keep_97 : decode cX12_keep 97 = .ok (.putfield 232, 3) := by decide +kernel
theorem dX12_keep_100 : decode cX12_keep 100 = .ok (.return_, 1) := by decide +kernel
theorem dX12_come_0 : decode cX12_come 0 = .ok (.aload_n 0, 1) := by decide +kernel
theorem dX12_come_1 : decode cX12_come 1 = .ok (.iconst 0, 1) := by decide +kernel
theorem dX12_come_2 : decode cX12_come 2 = .ok (.putfield 118, 3) := by decide +kernel
theorem dX12_come_5 : decode cX12_come 5 = .ok (.aload_n 0, 1) := by decide +kernel
theorem dX12_come_6 : decode cX12_come 6 = .ok (.iload_n 1, 1) := by decide +kernel
theorem dX12_come_7 : decode cX12_come 7 = .ok (.invokevirtual 366, 3) := by decide +kernel
theorem dX12_come_10 : decode cX12_come 10 = .ok (.ifCond .eq 13, 3) := by decide +kernel
theorem dX12_come_13 : decode cX12_come 13 = .ok (.iload_n 2, 1) := by decide +kernel
theorem dX12_come_14 : decode cX12_come 14 = .ok (.iconst 1, 1) := by decide +kernel
theorem dX12_come_15 : decode cX12_come 15 = .ok (.bipush 64, 2) := by decide +kernel
theorem dX12_come_17 : decode cX12_come 17 = .ok (.invokestatic 356, 3) := by decide +kernel
theorem dX12_come_20 : decode cX12_come 20 = .ok (.ifCond .ne 9, 3) := by decide +kernel
theorem dX12_come_23 : decode cX12_come 23 = .ok (.aload_n 0, 1) := by decide +kernel
theorem dX12_come_24 : decode cX12_come 24 = .ok (.iconst 1, 1) := by decide +kernel
theorem dX12_come_25 : decode cX12_come 25 = .ok (.invokevirtual 369, 3) := by decide +kernel
theorem dX12_come_28 : decode cX12_come 28 = .ok (.ireturn, 1) := by decide +kernel
theorem dX12_come_29 : decode cX12_come 29 = .ok (.aload_n 0, 1) := by decide +kernel
theorem dX12_come_30 : decode cX12_come 30 = .ok (.invokevirtual 372, 3) := by decide +kernel
theorem dX12_come_33 : decode cX12_come 33 = .ok (.aload_n 0, 1) := by decide +kernel
theorem dX12_come_34 : decode cX12_come 34 = .ok (.iload_n 1, 1) := by decide +kernel
theorem dX12_come_35 : decode cX12_come 35 = .ok (.iload_n 2, 1) := by decide +kernel
theorem dX12_come_36 : decode cX12_come 36 = .ok (.invokevirtual 329, 3) := by decide +kernel
theorem dX12_come_39 : decode cX12_come 39 = .ok (.pop, 1) := by decide +kernel
theorem dX12_come_40 : decode cX12_come 40 = .ok (.aload_n 0, 1) := by decide +kernel
theorem dX12_come_41 : decode cX12_come 41 = .ok (.getfield 43, 3) := by decide +kernel
theorem dX12_come_44 : decode cX12_come 44 = .ok (.sipush 257, 3) := by decide +kernel
theorem dX12_come_47 : decode cX12_come 47 = .ok (.iload_n 1, 1) := by decide +kernel
theorem dX12_come_48 : decode cX12_come 48 = .ok (.imul, 1) := by decide +kernel
theorem dX12_come_49 : decode cX12_come 49 = .ok (.bipush 17, 2) := by decide +kernel
theorem dX12_come_51 : decode cX12_come 51 = .ok (.iadd, 1) := by decide +kernel
theorem dX12_come_52 : decode cX12_come 52 = .ok (.iaload, 1) := by decide +kernel
theorem dX12_come_53 : decode cX12_come 53 = .ok (.ireturn, 1) := by decide +kernel
theorem dX12_units_0 : decode cX12_units 0 = .ok (.aload_n 0, 1) := by decide +kernel
theorem dX12_units_1 : decode cX12_units 1 = .ok (.iconst 0, 1) := by decide +kernel
theorem dX12_units_2 : decode cX12_units 2 = .ok (.putfield 118, 3) := by decide +kernel
theorem dX12_units_5 : decode cX12_units 5 = .ok (.iload_n 1, 1) := by decide +kernel
theorem dX12_units_6 : decode cX12_units 6 = .ok (.iconst 1, 1) := by decide +kernel
theorem dX12_units_7 : decode cX12_units 7 = .ok (.bipush 100, 2) := by decide +kernel
theorem dX12_units_9 : decode cX12_units 9 = .ok (.invokestatic 356, 3) := by decide +kernel
theorem dX12_units_12 : decode cX12_units 12 = .ok (.ifCond .eq 19, 3) := by decide +kernel
theorem dX12_units_15 : decode cX12_units 15 = .ok (.aload_n 0, 1) := by decide +kernel
theorem dX12_units_16 : decode cX12_units 16 = .ok (.getfield 43, 3) := by decide +kernel
theorem dX12_units_19 : decode cX12_units 19 = .ok (.sipush 3084, 3) := by decide +kernel
theorem dX12_units_22 : decode cX12_units 22 = .ok (.iaload, 1) := by decide +kernel
theorem dX12_units_23 : decode cX12_units 23 = .ok (.iload_n 1, 1) := by decide +kernel
theorem dX12_units_24 : decode cX12_units 24 = .ok (.iadd, 1) := by decide +kernel
theorem dX12_units_25 : decode cX12_units 25 = .ok (.sipush 2000, 3) := by decide +kernel
theorem dX12_units_28 : decode cX12_units 28 = .ok (.if_icmp .le 9, 3) := by decide +kernel
theorem dX12_units_31 : decode cX12_units 31 = .ok (.aload_n 0, 1) := by decide +kernel
theorem dX12_units_32 : decode cX12_units 32 = .ok (.iconst 1, 1) := by decide +kernel
theorem dX12_units_33 : decode cX12_units 33 = .ok (.invokevirtual 369, 3) := by decide +kernel
theorem dX12_units_36 : decode cX12_units 36 = .ok (.ireturn, 1) := by decide +kernel
theorem dX12_units_37 : decode cX12_units 37 = .ok (.aload_n 0, 1) := by decide +kernel
theorem dX12_units_38 : decode cX12_units 38 = .ok (.invokevirtual 372, 3) := by decide +kernel
theorem dX12_units_41 : decode cX12_units 41 = .ok (.aload_n 0, 1) := by decide +kernel
theorem dX12_units_42 : decode cX12_units 42 = .ok (.iload_n 1, 1) := by decide +kernel
theorem dX12_units_43 : decode cX12_units 43 = .ok (.invokevirtual 375, 3) := by decide +kernel
theorem dX12_units_46 : decode cX12_units 46 = .ok (.aload_n 0, 1) := by decide +kernel
theorem dX12_units_47 : decode cX12_units 47 = .ok (.getfield 43, 3) := by decide +kernel
theorem dX12_units_50 : decode cX12_units 50 = .ok (.sipush 3084, 3) := by decide +kernel
theorem dX12_units_53 : decode cX12_units 53 = .ok (.iaload, 1) := by decide +kernel
theorem dX12_units_54 : decode cX12_units 54 = .ok (.ireturn, 1) := by decide +kernel
theorem dX12_bend_0 : decode cX12_bend 0 = .ok (.iload_n 1, 1) := by decide +kernel
theorem dX12_bend_1 : decode cX12_bend 1 = .ok (.iload_n 2, 1) := by decide +kernel
theorem dX12_bend_2 : decode cX12_bend 2 = .ok (.invokestatic 245, 3) := by decide +kernel
theorem dX12_bend_5 : decode cX12_bend 5 = .ok (.istore 6, 2) := by decide +kernel
theorem dX12_bend_7 : decode cX12_bend 7 = .ok (.aload_n 0, 1) := by decide +kernel
theorem dX12_bend_8 : decode cX12_bend 8 = .ok (.getfield 43, 3) := by decide +kernel
theorem dX12_bend_11 : decode cX12_bend 11 = .ok (.iload 6, 2) := by decide +kernel
theorem dX12_bend_13 : decode cX12_bend 13 = .ok (.iconst 1, 1) := by decide +kernel
theorem dX12_bend_14 : decode cX12_bend 14 = .ok (.iastore, 1) := by decide +kernel
theorem dX12_bend_15 : decode cX12_bend 15 = .ok (.aload_n 0, 1) := by decide +kernel
theorem dX12_bend_16 : decode cX12_bend 16 = .ok (.getfield 43, 3) := by decide +kernel
theorem dX12_bend_19 : decode cX12_bend 19 = .ok (.iload 6, 2) := by decide +kernel
theorem dX12_bend_21 : decode cX12_bend 21 = .ok (.iconst 1, 1) := by decide +kernel
theorem dX12_bend_22 : decode cX12_bend 22 = .ok (.iadd, 1) := by decide +kernel
theorem dX12_bend_23 : decode cX12_bend 23 = .ok (.iload_n 3, 1) := by decide +kernel
theorem dX12_bend_24 : decode cX12_bend 24 = .ok (.iastore, 1) := by decide +kernel
theorem dX12_bend_25 : decode cX12_bend 25 = .ok (.aload_n 0, 1) := by decide +kernel
theorem dX12_bend_26 : decode cX12_bend 26 = .ok (.getfield 43, 3) := by decide +kernel
theorem dX12_bend_29 : decode cX12_bend 29 = .ok (.iload 6, 2) := by decide +kernel
theorem dX12_bend_31 : decode cX12_bend 31 = .ok (.iconst 2, 1) := by decide +kernel
theorem dX12_bend_32 : decode cX12_bend 32 = .ok (.iadd, 1) := by decide +kernel
theorem dX12_bend_33 : decode cX12_bend 33 = .ok (.iload 4, 2) := by decide +kernel
theorem dX12_bend_35 : decode cX12_bend 35 = .ok (.iastore, 1) := by decide +kernel
theorem dX12_bend_36 : decode cX12_bend 36 = .ok (.aload_n 0, 1) := by decide +kernel
theorem dX12_bend_37 : decode cX12_bend 37 = .ok (.getfield 43, 3) := by decide +kernel
theorem dX12_bend_40 : decode cX12_bend 40 = .ok (.iload 6, 2) := by decide +kernel
theorem dX12_bend_42 : decode cX12_bend 42 = .ok (.iconst 3, 1) := by decide +kernel
theorem dX12_bend_43 : decode cX12_bend 43 = .ok (.iadd, 1) := by decide +kernel
theorem dX12_bend_44 : decode cX12_bend 44 = .ok (.iload 5, 2) := by decide +kernel
theorem dX12_bend_46 : decode cX12_bend 46 = .ok (.iastore, 1) := by decide +kernel
theorem dX12_bend_47 : decode cX12_bend 47 = .ok (.aload_n 0, 1) := by decide +kernel
theorem dX12_bend_48 : decode cX12_bend 48 = .ok (.getfield 43, 3) := by decide +kernel
theorem dX12_bend_51 : decode cX12_bend 51 = .ok (.iload_n 1, 1) := by decide +kernel
theorem dX12_bend_52 : decode cX12_bend 52 = .ok (.iload_n 2, 1) := by decide +kernel
theorem dX12_bend_53 : decode cX12_bend 53 = .ok (.invokestatic 248, 3) := by decide +kernel
theorem dX12_bend_56 : decode cX12_bend 56 = .ok (.iconst 0, 1) := by decide +kernel
theorem dX12_bend_57 : decode cX12_bend 57 = .ok (.iastore, 1) := by decide +kernel
theorem dX12_bend_58 : decode cX12_bend 58 = .ok (.aload_n 0, 1) := by decide +kernel
theorem dX12_bend_59 : decode cX12_bend 59 = .ok (.iload_n 1, 1) := by decide +kernel
theorem dX12_bend_60 : decode cX12_bend 60 = .ok (.invokevirtual 262, 3) := by decide +kernel
theorem dX12_bend_63 : decode cX12_bend 63 = .ok (.ifCond .eq 38, 3) := by decide +kernel
theorem dX12_bend_66 : decode cX12_bend 66 = .ok (.aload_n 0, 1) := by decide +kernel
theorem dX12_bend_67 : decode cX12_bend 67 = .ok (.iload_n 1, 1) := by decide +kernel
theorem dX12_bend_68 : decode cX12_bend 68 = .ok (.iload_n 2, 1) := by decide +kernel
theorem dX12_bend_69 : decode cX12_bend 69 = .ok (.iload_n 2, 1) := by decide +kernel
theorem dX12_bend_70 : decode cX12_bend 70 = .ok (.iconst 1, 1) := by decide +kernel
theorem dX12_bend_71 : decode cX12_bend 71 = .ok (.if_icmp .ne 19, 3) := by decide +kernel
theorem dX12_bend_74 : decode cX12_bend 74 = .ok (.aload_n 0, 1) := by decide +kernel
theorem dX12_bend_75 : decode cX12_bend 75 = .ok (.getfield 43, 3) := by decide +kernel
theorem dX12_bend_78 : decode cX12_bend 78 = .ok (.sipush 257, 3) := by decide +kernel
theorem dX12_bend_81 : decode cX12_bend 81 = .ok (.iload_n 1, 1) := by decide +kernel
theorem dX12_bend_82 : decode cX12_bend 82 = .ok (.imul, 1) := by decide +kernel
theorem dX12_bend_83 : decode cX12_bend 83 = .ok (.bipush 14, 2) := by decide +kernel
theorem dX12_bend_85 : decode cX12_bend 85 = .ok (.iadd, 1) := by decide +kernel
theorem dX12_bend_86 : decode cX12_bend 86 = .ok (.iaload, 1) := by decide +kernel
theorem dX12_bend_87 : decode cX12_bend 87 = .ok (.goto 11, 3) := by decide +kernel
theorem dX12_bend_90 : decode cX12_bend 90 = .ok (.aload_n 0, 1) := by decide +kernel
theorem dX12_bend_91 : decode cX12_bend 91 = .ok (.getfield 43, 3) := by decide +kernel
theorem dX12_bend_94 : decode cX12_bend 94 = .ok (.sipush 3084, 3) := by decide +kernel
theorem dX12_bend_97 : decode cX12_bend 97 = .ok (.iaload, 1) := by decide +kernel
theorem dX12_bend_98 : decode cX12_bend 98 = .ok (.invokevirtual 279, 3) := by decide +kernel
theorem dX12_bend_101 : decode cX12_bend 101 = .ok (.return_, 1) := by decide +kernel
theorem dX12_isSo_0 : decode cX12_isSo 0 = .ok (.aload_n 0, 1) := by decide +kernel
theorem dX12_isSo_1 : decode cX12_isSo 1 = .ok (.getfield 43, 3) := by decide +kernel
theorem dX12_isSo_4 : decode cX12_isSo 4 = .ok (.iload_n 1, 1) := by decide +kernel
theorem dX12_isSo_5 : decode cX12_isSo 5 = .ok (.iaload, 1) := by decide +kernel
theorem dX12_isSo_6 : decode cX12_isSo 6 = .ok (.iconst 1, 1) := by decide +kernel
theorem dX12_isSo_7 : decode cX12_isSo 7 = .ok (.if_icmp .ne 44, 3) := by decide +kernel
theorem dX12_isSo_10 : decode cX12_isSo 10 = .ok (.aload_n 0, 1) := by decide +kernel
theorem dX12_isSo_11 : decode cX12_isSo 11 = .ok (.getfield 43, 3) := by decide +kernel
theorem dX12_isSo_14 : decode cX12_isSo 14 = .ok (.iload_n 1, 1) := by decide +kernel
theorem dX12_isSo_15 : decode cX12_isSo 15 = .ok (.iconst 1, 1) := by decide +kernel
theorem dX12_isSo_16 : decode cX12_isSo 16 = .ok (.iadd, 1) := by decide +kernel
theorem dX12_isSo_17 : decode cX12_isSo 17 = .ok (.iaload, 1) := by decide +kernel
theorem dX12_isSo_18 : decode cX12_isSo 18 = .ok (.iload_n 2, 1) := by decide +kernel
theorem dX12_isSo_19 : decode cX12_isSo 19 = .ok (.if_icmp .ne 32, 3) := by decide +kernel
theorem dX12_isSo_22 : decode cX12_isSo 22 = .ok (.aload_n 0, 1) := by decide +kernel
theorem dX12_isSo_23 : decode cX12_isSo 23 = .ok (.getfield 43, 3) := by decide +kernel
theorem dX12_isSo_26 : decode cX12_isSo 26 = .ok (.iload_n 1, 1) := by decide +kernel
theorem dX12_isSo_27 : decode cX12_isSo 27 = .ok (.iconst 2, 1) := by decide +kernel
theorem dX12_isSo_28 : decode cX12_isSo 28 = .ok (.iadd, 1) := by decide +kernel
theorem dX12_isSo_29 : decode cX12_isSo 29 = .ok (.iaload, 1) := by decide +kernel
theorem dX12_isSo_30 : decode cX12_isSo 30 = .ok (.iload_n 3, 1) := by decide +kernel
theorem dX12_isSo_31 : decode cX12_isSo 31 = .ok (.if_icmp .ne 20, 3) := by decide +kernel
theorem dX12_isSo_34 : decode cX12_isSo 34 = .ok (.aload_n 0, 1) := by decide +kernel
theorem dX12_isSo_35 : decode cX12_isSo 35 = .ok (.getfield 43, 3) := by decide +kernel
theorem dX12_isSo_38 : decode cX12_isSo 38 = .ok (.iload_n 1, 1) := by decide +kernel
theorem dX12_isSo_39 : decode cX12_isSo 39 = .ok (.iconst 3, 1) := by decide +kernel
theorem dX12_isSo_40 : decode cX12_isSo 40 = .ok (.iadd, 1) := by decide +kernel
theorem dX12_isSo_41 : decode cX12_isSo 41 = .ok (.iaload, 1) := by decide +kernel
theorem dX12_isSo_42 : decode cX12_isSo 42 = .ok (.iload 4, 2) := by decide +kernel
theorem dX12_isSo_44 : decode cX12_isSo 44 = .ok (.if_icmp .ne 7, 3) := by decide +kernel
theorem dX12_isSo_47 : decode cX12_isSo 47 = .ok (.iconst 1, 1) := by decide +kernel
theorem dX12_isSo_48 : decode cX12_isSo 48 = .ok (.goto 4, 3) := by decide +kernel
theorem dX12_isSo_51 : decode cX12_isSo 51 = .ok (.iconst 0, 1) := by decide +kernel
theorem dX12_isSo_52 : decode cX12_isSo 52 = .ok (.ireturn, 1) := by decide +kernel
theorem dX12_change_0 : decode cX12_change 0 = .ok (.aload_n 0, 1) := by decide +kernel
theorem dX12_change_1 : decode cX12_change 1 = .ok (.iconst 0, 1) := by decide +kernel
theorem dX12_change_2 : decode cX12_change 2 = .ok (.putfield 118, 3) := by decide +kernel
theorem dX12_change_5 : decode cX12_change 5 = .ok (.aload_n 0, 1) := by decide +kernel
theorem dX12_change_6 : decode cX12_change 6 = .ok (.iload_n 1, 1) := by decide +kernel
theorem dX12_change_7 : decode cX12_change 7 = .ok (.invokevirtual 360, 3) := by decide +kernel
theorem dX12_change_10 : decode cX12_change 10 = .ok (.ifCond .eq 48, 3) := by decide +kernel
theorem dX12_change_13 : decode cX12_change 13 = .ok (.iload_n 2, 1) := by decide +kernel
theorem dX12_change_14 : decode cX12_change 14 = .ok (.iconst 0, 1) := by decide +kernel
theorem dX12_change_15 : decode cX12_change 15 = .ok (.iconst 2, 1) := by decide +kernel
theorem dX12_change_16 : decode cX12_change 16 = .ok (.invokestatic 356, 3) := by decide +kernel
theorem dX12_change_19 : decode cX12_change 19 = .ok (.ifCond .eq 39, 3) := by decide +kernel
theorem dX12_change_22 : decode cX12_change 22 = .ok (.iload_n 3, 1) := by decide +kernel
theorem dX12_change_23 : decode cX12_change 23 = .ok (.iconst 0, 1) := by decide +kernel
theorem dX12_change_24 : decode cX12_change 24 = .ok (.bipush 100, 2) := by decide +kernel
theorem dX12_change_26 : decode cX12_change 26 = .ok (.invokestatic 356, 3) := by decide +kernel
theorem dX12_change_29 : decode cX12_change 29 = .ok (.ifCond .eq 29, 3) := by decide +kernel
theorem dX12_change_32 : decode cX12_change 32 = .ok (.iload 4, 2) := by decide +kernel
theorem dX12_change_34 : decode cX12_change 34 = .ok (.iconst 0, 1) := by decide +kernel
theorem dX12_change_35 : decode cX12_change 35 = .ok (.bipush 30, 2) := by decide +kernel
theorem dX12_change_37 : decode cX12_change 37 = .ok (.invokestatic 356, 3) := by decide +kernel
theorem dX12_change_40 : decode cX12_change 40 = .ok (.ifCond .eq 18, 3) := by decide +kernel
theorem dX12_change_43 : decode cX12_change 43 = .ok (.iload 5, 2) := by decide +kernel
theorem dX12_change_45 : decode cX12_change 45 = .ok (.iconst 1, 1) := by decide +kernel
theorem dX12_change_46 : decode cX12_change 46 = .ok (.bipush 100, 2) := by decide +kernel
theorem dX12_change_48 : decode cX12_change 48 = .ok (.invokestatic 356, 3) := by decide +kernel
theorem dX12_change_51 : decode cX12_change 51 = .ok (.ifCond .eq 7, 3) := by decide +kernel
theorem dX12_change_54 : decode cX12_change 54 = .ok (.iconst 1, 1) := by decide +kernel
theorem dX12_change_55 : decode cX12_change 55 = .ok (.goto 4, 3) := by decide +kernel
theorem dX12_change_58 : decode cX12_change 58 = .ok (.iconst 0, 1) := by decide +kernel
theorem dX12_change_59 : decode cX12_change 59 = .ok (.istore 6, 2) := by decide +kernel
theorem dX12_change_61 : decode cX12_change 61 = .ok (.iload 6, 2) := by decide +kernel
theorem dX12_change_63 : decode cX12_change 63 = .ok (.ifCond .eq 32, 3) := by decide +kernel
theorem dX12_change_66 : decode cX12_change 66 = .ok (.iload_n 2, 1) := by decide +kernel
theorem dX12_change_67 : decode cX12_change 67 = .ok (.ifCond .ne 11, 3) := by decide +kernel
theorem dX12_change_70 : decode cX12_change 70 = .ok (.aload_n 0, 1) := by decide +kernel
theorem dX12_change_71 : decode cX12_change 71 = .ok (.iload_n 1, 1) := by decide +kernel
theorem dX12_change_72 : decode cX12_change 72 = .ok (.invokevirtual 305, 3) := by decide +kernel
theorem dX12_change_75 : decode cX12_change 75 = .ok (.ifCond .eq 20, 3) := by decide +kernel
theorem dX12_change_78 : decode cX12_change 78 = .ok (.aload_n 0, 1) := by decide +kernel
theorem dX12_change_79 : decode cX12_change 79 = .ok (.iload_n 1, 1) := by decide +kernel
theorem dX12_change_80 : decode cX12_change 80 = .ok (.iload_n 2, 1) := by decide +kernel
theorem dX12_change_81 : decode cX12_change 81 = .ok (.invokestatic 245, 3) := by decide +kernel
theorem dX12_change_84 : decode cX12_change 84 = .ok (.iload_n 3, 1) := by decide +kernel
theorem dX12_change_85 : decode cX12_change 85 = .ok (.iload 4, 2) := by decide +kernel
theorem dX12_change_87 : decode cX12_change 87 = .ok (.iload 5, 2) := by decide +kernel
theorem dX12_change_89 : decode cX12_change 89 = .ok (.invokevirtual 378, 3) := by decide +kernel
theorem dX12_change_92 : decode cX12_change 92 = .ok (.ifCond .eq 9, 3) := by decide +kernel
theorem dX12_change_95 : decode cX12_change 95 = .ok (.aload_n 0, 1) := by decide +kernel
theorem dX12_change_96 : decode cX12_change 96 = .ok (.iconst 1, 1) := by decide +kernel
theorem dX12_change_97 : decode cX12_change 97 = .ok (.invokevirtual 369, 3) := by decide +kernel
theorem dX12_change_100 : decode cX12_change 100 = .ok (.ireturn, 1) := by decide +kernel
theorem dX12_change_101 : decode cX12_change 101 = .ok (.aload_n 0, 1) := by decide +kernel
theorem dX12_change_102 : decode cX12_change 102 = .ok (.invokevirtual 372, 3) := by decide +kernel
theorem dX12_change_105 : decode cX12_change 105 = .ok (.aload_n 0, 1) := by decide +kernel
theorem dX12_change_106 : decode cX12_change 106 = .ok (.getfield 43, 3) := by decide +kernel
theorem dX12_change_109 : decode cX12_change 109 = .ok (.iload_n 1, 1) := by decide +kernel
theorem dX12_change_110 : decode cX12_change 110 = .ok (.iload_n 2, 1) := by decide +kernel
theorem dX12_change_111 : decode cX12_change 111 = .ok (.invokestatic 245, 3) := by decide +kernel
theorem dX12_change_114 : decode cX12_change 114 = .ok (.iaload, 1) := by decide +kernel
theorem dX12_change_115 : decode cX12_change 115 = .ok (.istore 7, 2) := by decide +kernel
theorem dX12_change_117 : decode cX12_change 117 = .ok (.aload_n 0, 1) := by decide +kernel
theorem dX12_change_118 : decode cX12_change 118 = .ok (.iload_n 1, 1) := by decide +kernel
theorem dX12_change_119 : decode cX12_change 119 = .ok (.iload_n 2, 1) := by decide +kernel
theorem dX12_change_120 : decode cX12_change 120 = .ok (.iload_n 3, 1) := by decide +kernel
theorem dX12_change_121 : decode cX12_change 121 = .ok (.iload 4, 2) := by decide +kernel
theorem dX12_change_123 : decode cX12_change 123 = .ok (.iload 5, 2) := by decide +kernel
theorem dX12_change_125 : decode cX12_change 125 = .ok (.invokevirtual 382, 3) := by decide +kernel
theorem dX12_change_128 : decode cX12_change 128 = .ok (.iload 7, 2) := by decide +kernel
theorem dX12_change_130 : decode cX12_change 130 = .ok (.ireturn, 1) := by decide +kernel
theorem dX12_drop_0 : decode cX12_drop 0 = .ok (.iconst 0, 1) := by decide +kernel
theorem dX12_drop_1 : decode cX12_drop 1 = .ok (.istore_n 2, 1) := by decide +kernel
theorem dX12_drop_2 : decode cX12_drop 2 = .ok (.iload_n 2, 1) := by decide +kernel
theorem dX12_drop_3 : decode cX12_drop 3 = .ok (.bipush 20, 2) := by decide +kernel
theorem dX12_drop_5 : decode cX12_drop 5 = .ok (.if_icmp .ge 25, 3) := by decide +kernel
theorem dX12_drop_8 : decode cX12_drop 8 = .ok (.aload_n 0, 1) := by decide +kernel
theorem dX12_drop_9 : decode cX12_drop 9 = .ok (.getfield 43, 3) := by decide +kernel
theorem dX12_drop_12 : decode cX12_drop 12 = .ok (.sipush 257, 3) := by decide +kernel
theorem dX12_drop_15 : decode cX12_drop 15 = .ok (.iload_n 1, 1) := by decide +kernel
theorem dX12_drop_16 : decode cX12_drop 16 = .ok (.imul, 1) := by decide +kernel
theorem dX12_drop_17 : decode cX12_drop 17 = .ok (.bipush 18, 2) := by decide +kernel
theorem dX12_drop_19 : decode cX12_drop 19 = .ok (.iadd, 1) := by decide +kernel
theorem dX12_drop_20 : decode cX12_drop 20 = .ok (.iload_n 2, 1) := by decide +kernel
theorem dX12_drop_21 : decode cX12_drop 21 = .ok (.iadd, 1) := by decide +kernel
theorem dX12_drop_22 : decode cX12_drop 22 = .ok (.iconst 0, 1) := by decide +kernel
theorem dX12_drop_23 : decode cX12_drop 23 = .ok (.iastore, 1) := by decide +kernel
theorem dX12_drop_24 : decode cX12_drop 24 = .ok (.iinc 2 1, 3) := by decide +kernel
theorem dX12_drop_27 : decode cX12_drop 27 = .ok (.goto (-25), 3) := by decide +kernel
theorem dX12_drop_30 : decode cX12_drop 30 = .ok (.aload_n 0, 1) := by decide +kernel
theorem dX12_drop_31 : decode cX12_drop 31 = .ok (.getfield 43, 3) := by decide +kernel
theorem dX12_drop_34 : decode cX12_drop 34 = .ok (.sipush 257, 3) := by decide +kernel
theorem dX12_drop_37 : decode cX12_drop 37 = .ok (.iload_n 1, 1) := by decide +kernel
theorem dX12_drop_38 : decode cX12_drop 38 = .ok (.imul, 1) := by decide +kernel
theorem dX12_drop_39 : decode cX12_drop 39 = .ok (.bipush 17, 2) := by decide +kernel
theorem dX12_drop_41 : decode cX12_drop 41 = .ok (.iadd, 1) := by decide +kernel
theorem dX12_drop_42 : decode cX12_drop 42 = .ok (.iconst 0, 1) := by decide +kernel
theorem dX12_drop_43 : decode cX12_drop 43 = .ok (.iastore, 1) := by decide +kernel
theorem dX12_drop_44 : decode cX12_drop 44 = .ok (.return_, 1) := by decide +kernel
theorem dX12_empty_0 : decode cX12_empty 0 = .ok (.aload_n 0, 1) := by decide +kernel
theorem dX12_empty_1 : decode cX12_empty 1 = .ok (.iconst 0, 1) := by decide +kernel
theorem dX12_empty_2 : decode cX12_empty 2 = .ok (.putfield 118, 3) := by decide +kernel
theorem dX12_empty_5 : decode cX12_empty 5 = .ok (.aload_n 0, 1) := by decide +kernel
theorem dX12_empty_6 : decode cX12_empty 6 = .ok (.iload_n 1, 1) := by decide +kernel
theorem dX12_empty_7 : decode cX12_empty 7 = .ok (.invokevirtual 360, 3) := by decide +kernel
theorem dX12_empty_10 : decode cX12_empty 10 = .ok (.ifCond .eq 19, 3) := by decide +kernel
theorem dX12_empty_13 : decode cX12_empty 13 = .ok (.aload_n 0, 1) := by decide +kernel
theorem dX12_empty_14 : decode cX12_empty 14 = .ok (.getfield 43, 3) := by decide +kernel
theorem dX12_empty_17 : decode cX12_empty 17 = .ok (.sipush 257, 3) := by decide +kernel
theorem dX12_empty_20 : decode cX12_empty 20 = .ok (.iload_n 1, 1) := by decide +kernel
theorem dX12_empty_21 : decode cX12_empty 21 = .ok (.imul, 1) := by decide +kernel
theorem dX12_empty_22 : decode cX12_empty 22 = .ok (.bipush 17, 2) := by decide +kernel
theorem dX12_empty_24 : decode cX12_empty 24 = .ok (.iadd, 1) := by decide +kernel
theorem dX12_empty_25 : decode cX12_empty 25 = .ok (.iaload, 1) := by decide +kernel
theorem dX12_empty_26 : decode cX12_empty 26 = .ok (.ifCond .ne 9, 3) := by decide +kernel
theorem dX12_empty_29 : decode cX12_empty 29 = .ok (.aload_n 0, 1) := by decide +kernel
theorem dX12_empty_30 : decode cX12_empty 30 = .ok (.iconst 1, 1) := by decide +kernel
theorem dX12_empty_31 : decode cX12_empty 31 = .ok (.invokevirtual 369, 3) := by decide +kernel
theorem dX12_empty_34 : decode cX12_empty 34 = .ok (.ireturn, 1) := by decide +kernel
theorem dX12_empty_35 : decode cX12_empty 35 = .ok (.aload_n 0, 1) := by decide +kernel
theorem dX12_empty_36 : decode cX12_empty 36 = .ok (.invokevirtual 372, 3) := by decide +kernel
theorem dX12_empty_39 : decode cX12_empty 39 = .ok (.aload_n 0, 1) := by decide +kernel
theorem dX12_empty_40 : decode cX12_empty 40 = .ok (.getfield 43, 3) := by decide +kernel
theorem dX12_empty_43 : decode cX12_empty 43 = .ok (.sipush 257, 3) := by decide +kernel
theorem dX12_empty_46 : decode cX12_empty 46 = .ok (.iload_n 1, 1) := by decide +kernel
theorem dX12_empty_47 : decode cX12_empty 47 = .ok (.imul, 1) := by decide +kernel
theorem dX12_empty_48 : decode cX12_empty 48 = .ok (.bipush 17, 2) := by decide +kernel
theorem dX12_empty_50 : decode cX12_empty 50 = .ok (.iadd, 1) := by decide +kernel
theorem dX12_empty_51 : decode cX12_empty 51 = .ok (.iaload, 1) := by decide +kernel
theorem dX12_empty_52 : decode cX12_empty 52 = .ok (.istore_n 2, 1) := by decide +kernel
theorem dX12_empty_53 : decode cX12_empty 53 = .ok (.aload_n 0, 1) := by decide +kernel
theorem dX12_empty_54 : decode cX12_empty 54 = .ok (.iload_n 1, 1) := by decide +kernel
theorem dX12_empty_55 : decode cX12_empty 55 = .ok (.invokevirtual 386, 3) := by decide +kernel
theorem dX12_empty_58 : decode cX12_empty 58 = .ok (.iload_n 2, 1) := by decide +kernel
theorem dX12_empty_59 : decode cX12_empty 59 = .ok (.ireturn, 1) := by decide +kernel
theorem dX12_lift_0 : decode cX12_lift 0 = .ok (.aload_n 0, 1) := by decide +kernel
theorem dX12_lift_1 : decode cX12_lift 1 = .ok (.iconst 0, 1) := by decide +kernel
theorem dX12_lift_2 : decode cX12_lift 2 = .ok (.putfield 118, 3) := by decide +kernel
theorem dX12_lift_5 : decode cX12_lift 5 = .ok (.aload_n 0, 1) := by decide +kernel
theorem dX12_lift_6 : decode cX12_lift 6 = .ok (.iload_n 1, 1) := by decide +kernel
theorem dX12_lift_7 : decode cX12_lift 7 = .ok (.invokevirtual 360, 3) := by decide +kernel
theorem dX12_lift_10 : decode cX12_lift 10 = .ok (.ifCond .eq 21, 3) := by decide +kernel
theorem dX12_lift_13 : decode cX12_lift 13 = .ok (.iload_n 2, 1) := by decide +kernel
theorem dX12_lift_14 : decode cX12_lift 14 = .ok (.ifCond .eq 8, 3) := by decide +kernel
theorem dX12_lift_17 : decode cX12_lift 17 = .ok (.iload_n 2, 1) := by decide +kernel
theorem dX12_lift_18 : decode cX12_lift 18 = .ok (.iconst 2, 1) := by decide +kernel
theorem dX12_lift_19 : decode cX12_lift 19 = .ok (.if_icmp .ne 12, 3) := by decide +kernel
theorem dX12_lift_22 : decode cX12_lift 22 = .ok (.aload_n 0, 1) := by decide +kernel
theorem dX12_lift_23 : decode cX12_lift 23 = .ok (.iload_n 1, 1) := by decide +kernel
theorem dX12_lift_24 : decode cX12_lift 24 = .ok (.iload_n 2, 1) := by decide +kernel
theorem dX12_lift_25 : decode cX12_lift 25 = .ok (.invokevirtual 283, 3) := by decide +kernel
theorem dX12_lift_28 : decode cX12_lift 28 = .ok (.ifCond .ne 11, 3) := by decide +kernel
theorem dX12_lift_31 : decode cX12_lift 31 = .ok (.aload_n 0, 1) := by decide +kernel
theorem dX12_lift_32 : decode cX12_lift 32 = .ok (.iconst 1, 1) := by decide +kernel
theorem dX12_lift_33 : decode cX12_lift 33 = .ok (.invokevirtual 369, 3) := by decide +kernel
theorem dX12_lift_36 : decode cX12_lift 36 = .ok (.pop, 1) := by decide +kernel
theorem dX12_lift_37 : decode cX12_lift 37 = .ok (.iconst 0, 1) := by decide +kernel
theorem dX12_lift_38 : decode cX12_lift 38 = .ok (.ireturn, 1) := by decide +kernel
theorem dX12_lift_39 : decode cX12_lift 39 = .ok (.aload_n 0, 1) := by decide +kernel
theorem dX12_lift_40 : decode cX12_lift 40 = .ok (.invokevirtual 372, 3) := by decide +kernel
theorem dX12_lift_43 : decode cX12_lift 43 = .ok (.iconst 0, 1) := by decide +kernel
theorem dX12_lift_44 : decode cX12_lift 44 = .ok (.istore_n 3, 1) := by decide +kernel
theorem dX12_lift_45 : decode cX12_lift 45 = .ok (.iload_n 3, 1) := by decide +kernel
theorem dX12_lift_46 : decode cX12_lift 46 = .ok (.iconst 4, 1) := by decide +kernel
theorem dX12_lift_47 : decode cX12_lift 47 = .ok (.if_icmp .ge 22, 3) := by decide +kernel
theorem dX12_lift_50 : decode cX12_lift 50 = .ok (.aload_n 0, 1) := by decide +kernel
theorem dX12_lift_51 : decode cX12_lift 51 = .ok (.getfield 43, 3) := by decide +kernel
theorem dX12_lift_54 : decode cX12_lift 54 = .ok (.iload_n 1, 1) := by decide +kernel
theorem dX12_lift_55 : decode cX12_lift 55 = .ok (.iload_n 2, 1) := by decide +kernel
theorem dX12_lift_56 : decode cX12_lift 56 = .ok (.invokestatic 245, 3) := by decide +kernel
theorem dX12_lift_59 : decode cX12_lift 59 = .ok (.iload_n 3, 1) := by decide +kernel
theorem dX12_lift_60 : decode cX12_lift 60 = .ok (.iadd, 1) := by decide +kernel
theorem dX12_lift_61 : decode cX12_lift 61 = .ok (.iconst 0, 1) := by decide +kernel
theorem dX12_lift_62 : decode cX12_lift 62 = .ok (.iastore, 1) := by decide +kernel
theorem dX12_lift_63 : decode cX12_lift 63 = .ok (.iinc 3 1, 3) := by decide +kernel
theorem dX12_lift_66 : decode cX12_lift 66 = .ok (.goto (-21), 3) := by decide +kernel
theorem dX12_lift_69 : decode cX12_lift 69 = .ok (.aload_n 0, 1) := by decide +kernel
theorem dX12_lift_70 : decode cX12_lift 70 = .ok (.getfield 43, 3) := by decide +kernel
theorem dX12_lift_73 : decode cX12_lift 73 = .ok (.iload_n 1, 1) := by decide +kernel
theorem dX12_lift_74 : decode cX12_lift 74 = .ok (.iload_n 2, 1) := by decide +kernel
theorem dX12_lift_75 : decode cX12_lift 75 = .ok (.invokestatic 248, 3) := by decide +kernel
theorem dX12_lift_78 : decode cX12_lift 78 = .ok (.iconst 0, 1) := by decide +kernel
theorem dX12_lift_79 : decode cX12_lift 79 = .ok (.iastore, 1) := by decide +kernel
theorem dX12_lift_80 : decode cX12_lift 80 = .ok (.iconst 1, 1) := by decide +kernel
theorem dX12_lift_81 : decode cX12_lift 81 = .ok (.ireturn, 1) := by decide +kernel
theorem dX12_stop_0 : decode cX12_stop 0 = .ok (.aload_n 0, 1) := by decide +kernel
theorem dX12_stop_1 : decode cX12_stop 1 = .ok (.iconst 0, 1) := by decide +kernel
theorem dX12_stop_2 : decode cX12_stop 2 = .ok (.putfield 118, 3) := by decide +kernel
theorem dX12_stop_5 : decode cX12_stop 5 = .ok (.iload_n 1, 1) := by decide +kernel
theorem dX12_stop_6 : decode cX12_stop 6 = .ok (.iconst 0, 1) := by decide +kernel
theorem dX12_stop_7 : decode cX12_stop 7 = .ok (.aload_n 0, 1) := by decide +kernel
theorem dX12_stop_8 : decode cX12_stop 8 = .ok (.getfield 21, 3) := by decide +kernel
theorem dX12_stop_11 : decode cX12_stop 11 = .ok (.iconst 1, 1) := by decide +kernel
theorem dX12_stop_12 : decode cX12_stop 12 = .ok (.iaload, 1) := by decide +kernel
theorem dX12_stop_13 : decode cX12_stop 13 = .ok (.iconst 1, 1) := by decide +kernel
theorem dX12_stop_14 : decode cX12_stop 14 = .ok (.isub, 1) := by decide +kernel
theorem dX12_stop_15 : decode cX12_stop 15 = .ok (.invokestatic 356, 3) := by decide +kernel
theorem dX12_stop_18 : decode cX12_stop 18 = .ok (.ifCond .ne 9, 3) := by decide +kernel
theorem dX12_stop_21 : decode cX12_stop 21 = .ok (.aload_n 0, 1) := by decide +kernel
theorem dX12_stop_22 : decode cX12_stop 22 = .ok (.iconst 1, 1) := by decide +kernel
theorem dX12_stop_23 : decode cX12_stop 23 = .ok (.invokevirtual 369, 3) := by decide +kernel
theorem dX12_stop_26 : decode cX12_stop 26 = .ok (.ireturn, 1) := by decide +kernel
theorem dX12_stop_27 : decode cX12_stop 27 = .ok (.aload_n 0, 1) := by decide +kernel
theorem dX12_stop_28 : decode cX12_stop 28 = .ok (.invokevirtual 372, 3) := by decide +kernel
theorem dX12_stop_31 : decode cX12_stop 31 = .ok (.aload_n 0, 1) := by decide +kernel
theorem dX12_stop_32 : decode cX12_stop 32 = .ok (.getfield 43, 3) := by decide +kernel
theorem dX12_stop_35 : decode cX12_stop 35 = .ok (.sipush 3090, 3) := by decide +kernel
theorem dX12_stop_38 : decode cX12_stop 38 = .ok (.dup2, 1) := by decide +kernel
theorem dX12_stop_39 : decode cX12_stop 39 = .ok (.iaload, 1) := by decide +kernel
theorem dX12_stop_40 : decode cX12_stop 40 = .ok (.iconst 1, 1) := by decide +kernel
theorem dX12_stop_41 : decode cX12_stop 41 = .ok (.iload_n 1, 1) := by decide +kernel
theorem dX12_stop_42 : decode cX12_stop 42 = .ok (.ishl, 1) := by decide +kernel
theorem dX12_stop_43 : decode cX12_stop 43 = .ok (.ixor, 1) := by decide +kernel
theorem dX12_stop_44 : decode cX12_stop 44 = .ok (.iastore, 1) := by decide +kernel
theorem dX12_stop_45 : decode cX12_stop 45 = .ok (.aload_n 0, 1) := by decide +kernel
theorem dX12_stop_46 : decode cX12_stop 46 = .ok (.getfield 43, 3) := by decide +kernel
theorem dX12_stop_49 : decode cX12_stop 49 = .ok (.sipush 3090, 3) := by decide +kernel
theorem dX12_stop_52 : decode cX12_stop 52 = .ok (.iaload, 1) := by decide +kernel
theorem dX12_stop_53 : decode cX12_stop 53 = .ok (.ireturn, 1) := by decide +kernel
theorem dX12_undo_0 : decode cX12_undo 0 = .ok (.aload_n 0, 1) := by decide +kernel
theorem dX12_undo_1 : decode cX12_undo 1 = .ok (.iconst 0, 1) := by decide +kernel
theorem dX12_undo_2 : decode cX12_undo 2 = .ok (.putfield 118, 3) := by decide +kernel
theorem dX12_undo_5 : decode cX12_undo 5 = .ok (.aload_n 0, 1) := by decide +kernel
theorem dX12_undo_6 : decode cX12_undo 6 = .ok (.getfield 232, 3) := by decide +kernel
theorem dX12_undo_9 : decode cX12_undo 9 = .ok (.ifCond .ne 5, 3) := by decide +kernel
theorem dX12_undo_12 : decode cX12_undo 12 = .ok (.iconst (-1), 1) := by decide +kernel
theorem dX12_undo_13 : decode cX12_undo 13 = .ok (.ireturn, 1) := by decide +kernel
theorem dX12_undo_14 : decode cX12_undo 14 = .ok (.aload_n 0, 1) := by decide +kernel
theorem dX12_undo_15 : decode cX12_undo 15 = .ok (.dup, 1) := by decide +kernel
theorem dX12_undo_16 : decode cX12_undo 16 = .ok (.getfield 232, 3) := by decide +kernel
theorem dX12_undo_19 : decode cX12_undo 19 = .ok (.iconst 1, 1) := by decide +kernel
theorem dX12_undo_20 : decode cX12_undo 20 = .ok (.isub, 1) := by decide +kernel
theorem dX12_undo_21 : decode cX12_undo 21 = .ok (.putfield 232, 3) := by decide +kernel
theorem dX12_undo_24 : decode cX12_undo 24 = .ok (.iconst 0, 1) := by decide +kernel
theorem dX12_undo_25 : decode cX12_undo 25 = .ok (.istore_n 1, 1) := by decide +kernel
theorem dX12_undo_26 : decode cX12_undo 26 = .ok (.iload_n 1, 1) := by decide +kernel
theorem dX12_undo_27 : decode cX12_undo 27 = .ok (.sipush 3099, 3) := by decide +kernel
theorem dX12_undo_30 : decode cX12_undo 30 = .ok (.if_icmp .ge 30, 3) := by decide +kernel
theorem dX12_undo_33 : decode cX12_undo 33 = .ok (.aload_n 0, 1) := by decide +kernel
theorem dX12_undo_34 : decode cX12_undo 34 = .ok (.getfield 43, 3) := by decide +kernel
theorem dX12_undo_37 : decode cX12_undo 37 = .ok (.iload_n 1, 1) := by decide +kernel
theorem dX12_undo_38 : decode cX12_undo 38 = .ok (.aload_n 0, 1) := by decide +kernel
theorem dX12_undo_39 : decode cX12_undo 39 = .ok (.getfield 73, 3) := by decide +kernel
theorem dX12_undo_42 : decode cX12_undo 42 = .ok (.sipush 3099, 3) := by decide +kernel
theorem dX12_undo_45 : decode cX12_undo 45 = .ok (.aload_n 0, 1) := by decide +kernel
theorem dX12_undo_46 : decode cX12_undo 46 = .ok (.getfield 232, 3) := by decide +kernel
theorem dX12_undo_49 : decode cX12_undo 49 = .ok (.imul, 1) := by decide +kernel
theorem dX12_undo_50 : decode cX12_undo 50 = .ok (.iload_n 1, 1) := by decide +kernel
theorem dX12_undo_51 : decode cX12_undo 51 = .ok (.iadd, 1) := by decide +kernel
theorem dX12_undo_52 : decode cX12_undo 52 = .ok (.iaload, 1) := by decide +kernel
theorem dX12_undo_53 : decode cX12_undo 53 = .ok (.iastore, 1) := by decide +kernel
theorem dX12_undo_54 : decode cX12_undo 54 = .ok (.iinc 1 1, 3) := by decide +kernel
theorem dX12_undo_57 : decode cX12_undo 57 = .ok (.goto (-31), 3) := by decide +kernel
theorem dX12_undo_60 : decode cX12_undo 60 = .ok (.aload_n 0, 1) := by decide +kernel
theorem dX12_undo_61 : decode cX12_undo 61 = .ok (.getfield 232, 3) := by decide +kernel
theorem dX12_undo_64 : decode cX12_undo 64 = .ok (.ireturn, 1) := by decide +kernel
theorem dX12_heightOf_0 : decode cX12_heightOf 0 = .ok (.iload_n 3, 1) := by decide +kernel
theorem dX12_heightOf_1 : decode cX12_heightOf 1 = .ok (.iload_n 1, 1) := by decide +kernel
theorem dX12_heightOf_2 : decode cX12_heightOf 2 = .ok (.if_icmp .ge 9, 3) := by decide +kernel
theorem dX12_heightOf_5 : decode cX12_heightOf 5 = .ok (.iload_n 0, 1) := by decide +kernel
theorem dX12_heightOf_6 : decode cX12_heightOf 6 = .ok (.iload_n 3, 1) := by decide +kernel
theorem dX12_heightOf_7 : decode cX12_heightOf 7 = .ok (.imul, 1) := by decide +kernel
theorem dX12_heightOf_8 : decode cX12_heightOf 8 = .ok (.goto 12, 3) := by decide +kernel
theorem dX12_heightOf_11 : decode cX12_heightOf 11 = .ok (.iload_n 0, 1) := by decide +kernel
theorem dX12_heightOf_12 : decode cX12_heightOf 12 = .ok (.iload_n 1, 1) := by decide +kernel
theorem dX12_heightOf_13 : decode cX12_heightOf 13 = .ok (.imul, 1) := by decide +kernel
theorem dX12_heightOf_14 : decode cX12_heightOf 14 = .ok (.iload_n 2, 1) := by decide +kernel
theorem dX12_heightOf_15 : decode cX12_heightOf 15 = .ok (.iload_n 3, 1) := by decide +kernel
theorem dX12_heightOf_16 : decode cX12_heightOf 16 = .ok (.iload_n 1, 1) := by decide +kernel
theorem dX12_heightOf_17 : decode cX12_heightOf 17 = .ok (.isub, 1) := by decide +kernel
theorem dX12_heightOf_18 : decode cX12_heightOf 18 = .ok (.imul, 1) := by decide +kernel
theorem dX12_heightOf_19 : decode cX12_heightOf 19 = .ok (.iadd, 1) := by decide +kernel
theorem dX12_heightOf_20 : decode cX12_heightOf 20 = .ok (.ireturn, 1) := by decide +kernel
theorem dX12_overBy_0 : decode cX12_overBy 0 = .ok (.iload_n 2, 1) := by decide +kernel
theorem dX12_overBy_1 : decode cX12_overBy 1 = .ok (.iload_n 3, 1) := by decide +kernel
theorem dX12_overBy_2 : decode cX12_overBy 2 = .ok (.iload 4, 2) := by decide +kernel
theorem dX12_overBy_4 : decode cX12_overBy 4 = .ok (.iload_n 1, 1) := by decide +kernel
theorem dX12_overBy_5 : decode cX12_overBy 5 = .ok (.invokestatic 389, 3) := by decide +kernel
theorem dX12_overBy_8 : decode cX12_overBy 8 = .ok (.bipush 100, 2) := by decide +kernel
theorem dX12_overBy_10 : decode cX12_overBy 10 = .ok (.iload_n 1, 1) := by decide +kernel
theorem dX12_overBy_11 : decode cX12_overBy 11 = .ok (.imul, 1) := by decide +kernel
theorem dX12_overBy_12 : decode cX12_overBy 12 = .ok (.isub, 1) := by decide +kernel
theorem dX12_overBy_13 : decode cX12_overBy 13 = .ok (.istore 5, 2) := by decide +kernel
theorem dX12_overBy_15 : decode cX12_overBy 15 = .ok (.iconst 0, 1) := by decide +kernel
theorem dX12_overBy_16 : decode cX12_overBy 16 = .ok (.istore 6, 2) := by decide +kernel
theorem dX12_overBy_18 : decode cX12_overBy 18 = .ok (.iload 6, 2) := by decide +kernel
theorem dX12_overBy_20 : decode cX12_overBy 20 = .ok (.aload_n 0, 1) := by decide +kernel
theorem dX12_overBy_21 : decode cX12_overBy 21 = .ok (.getfield 21, 3) := by decide +kernel
theorem dX12_overBy_24 : decode cX12_overBy 24 = .ok (.iconst 0, 1) := by decide +kernel
theorem dX12_overBy_25 : decode cX12_overBy 25 = .ok (.iaload, 1) := by decide +kernel
theorem dX12_overBy_26 : decode cX12_overBy 26 = .ok (.if_icmp .ge 64, 3) := by decide +kernel
theorem dX12_overBy_29 : decode cX12_overBy 29 = .ok (.iload 6, 2) := by decide +kernel
theorem dX12_overBy_31 : decode cX12_overBy 31 = .ok (.iconst 0, 1) := by decide +kernel
theorem dX12_overBy_32 : decode cX12_overBy 32 = .ok (.invokestatic 245, 3) := by decide +kernel
theorem dX12_overBy_35 : decode cX12_overBy 35 = .ok (.istore 7, 2) := by decide +kernel
theorem dX12_overBy_37 : decode cX12_overBy 37 = .ok (.aload_n 0, 1) := by decide +kernel
theorem dX12_overBy_38 : decode cX12_overBy 38 = .ok (.getfield 43, 3) := by decide +kernel
theorem dX12_overBy_41 : decode cX12_overBy 41 = .ok (.iload 7, 2) := by decide +kernel
theorem dX12_overBy_43 : decode cX12_overBy 43 = .ok (.iaload, 1) := by decide +kernel
theorem dX12_overBy_44 : decode cX12_overBy 44 = .ok (.iconst 1, 1) := by decide +kernel
theorem dX12_overBy_45 : decode cX12_overBy 45 = .ok (.if_icmp .ne 39, 3) := by decide +kernel
theorem dX12_overBy_48 : decode cX12_overBy 48 = .ok (.iload 5, 2) := by decide +kernel
theorem dX12_overBy_50 : decode cX12_overBy 50 = .ok (.aload_n 0, 1) := by decide +kernel
theorem dX12_overBy_51 : decode cX12_overBy 51 = .ok (.getfield 43, 3) := by decide +kernel
theorem dX12_overBy_54 : decode cX12_overBy 54 = .ok (.iload 7, 2) := by decide +kernel
theorem dX12_overBy_56 : decode cX12_overBy 56 = .ok (.iconst 1, 1) := by decide +kernel
theorem dX12_overBy_57 : decode cX12_overBy 57 = .ok (.iadd, 1) := by decide +kernel
theorem dX12_overBy_58 : decode cX12_overBy 58 = .ok (.iaload, 1) := by decide +kernel
theorem dX12_overBy_59 : decode cX12_overBy 59 = .ok (.aload_n 0, 1) := by decide +kernel
theorem dX12_overBy_60 : decode cX12_overBy 60 = .ok (.getfield 43, 3) := by decide +kernel
theorem dX12_overBy_63 : decode cX12_overBy 63 = .ok (.iload 7, 2) := by decide +kernel
theorem dX12_overBy_65 : decode cX12_overBy 65 = .ok (.iconst 2, 1) := by decide +kernel
theorem dX12_overBy_66 : decode cX12_overBy 66 = .ok (.iadd, 1) := by decide +kernel
theorem dX12_overBy_67 : decode cX12_overBy 67 = .ok (.iaload, 1) := by decide +kernel
theorem dX12_overBy_68 : decode cX12_overBy 68 = .ok (.aload_n 0, 1) := by decide +kernel
theorem dX12_overBy_69 : decode cX12_overBy 69 = .ok (.getfield 43, 3) := by decide +kernel
theorem dX12_overBy_72 : decode cX12_overBy 72 = .ok (.iload 7, 2) := by decide +kernel
theorem dX12_overBy_74 : decode cX12_overBy 74 = .ok (.iconst 3, 1) := by decide +kernel
theorem dX12_overBy_75 : decode cX12_overBy 75 = .ok (.iadd, 1) := by decide +kernel
theorem dX12_overBy_76 : decode cX12_overBy 76 = .ok (.iaload, 1) := by decide +kernel
theorem dX12_overBy_77 : decode cX12_overBy 77 = .ok (.iload_n 1, 1) := by decide +kernel
theorem dX12_overBy_78 : decode cX12_overBy 78 = .ok (.invokestatic 389, 3) := by decide +kernel
theorem dX12_overBy_81 : decode cX12_overBy 81 = .ok (.iadd, 1) := by decide +kernel
theorem dX12_overBy_82 : decode cX12_overBy 82 = .ok (.istore 5, 2) := by decide +kernel
theorem dX12_overBy_84 : decode cX12_overBy 84 = .ok (.iinc 6 1, 3) := by decide +kernel
theorem dX12_overBy_87 : decode cX12_overBy 87 = .ok (.goto (-69), 3) := by decide +kernel
theorem dX12_overBy_90 : decode cX12_overBy 90 = .ok (.iload 5, 2) := by decide +kernel
theorem dX12_overBy_92 : decode cX12_overBy 92 = .ok (.ireturn, 1) := by decide +kernel
theorem dX12_firstOver_0 : decode cX12_firstOver 0 = .ok (.iconst 0, 1) := by decide +kernel
theorem dX12_firstOver_1 : decode cX12_firstOver 1 = .ok (.istore 4, 2) := by decide +kernel
theorem dX12_firstOver_3 : decode cX12_firstOver 3 = .ok (.iload 4, 2) := by decide +kernel
theorem dX12_firstOver_5 : decode cX12_firstOver 5 = .ok (.sipush 4000, 3) := by decide +kernel
theorem dX12_firstOver_8 : decode cX12_firstOver 8 = .ok (.if_icmp .gt 24, 3) := by decide +kernel
theorem dX12_firstOver_11 : decode cX12_firstOver 11 = .ok (.aload_n 0, 1) := by decide +kernel
theorem dX12_firstOver_12 : decode cX12_firstOver 12 = .ok (.iload 4, 2) := by decide +kernel
theorem dX12_firstOver_14 : decode cX12_firstOver 14 = .ok (.iload_n 1, 1) := by decide +kernel
theorem dX12_firstOver_15 : decode cX12_firstOver 15 = .ok (.iload_n 2, 1) := by decide +kernel
theorem dX12_firstOver_16 : decode cX12_firstOver 16 = .ok (.iload_n 3, 1) := by decide +kernel
theorem dX12_firstOver_17 : decode cX12_firstOver 17 = .ok (.invokevirtual 392, 3) := by decide +kernel
theorem dX12_firstOver_20 : decode cX12_firstOver 20 = .ok (.ifCond .le 6, 3) := by decide +kernel
theorem dX12_firstOver_23 : decode cX12_firstOver 23 = .ok (.iload 4, 2) := by decide +kernel
theorem dX12_firstOver_25 : decode cX12_firstOver 25 = .ok (.ireturn, 1) := by decide +kernel
theorem dX12_firstOver_26 : decode cX12_firstOver 26 = .ok (.iinc 4 1, 3) := by decide +kernel
theorem dX12_firstOver_29 : decode cX12_firstOver 29 = .ok (.goto (-26), 3) := by decide +kernel
theorem dX12_firstOver_32 : decode cX12_firstOver 32 = .ok (.iconst (-1), 1) := by decide +kernel
theorem dX12_firstOver_33 : decode cX12_firstOver 33 = .ok (.ireturn, 1) := by decide +kernel
theorem dX12_together_0 : decode cX12_together 0 = .ok (.aload_n 0, 1) := by decide +kernel
theorem dX12_together_1 : decode cX12_together 1 = .ok (.iconst 0, 1) := by decide +kernel
theorem dX12_together_2 : decode cX12_together 2 = .ok (.putfield 118, 3) := by decide +kernel
theorem dX12_together_5 : decode cX12_together 5 = .ok (.iload_n 1, 1) := by decide +kernel
theorem dX12_together_6 : decode cX12_together 6 = .ok (.iconst 0, 1) := by decide +kernel
theorem dX12_together_7 : decode cX12_together 7 = .ok (.iconst 2, 1) := by decide +kernel
theorem dX12_together_8 : decode cX12_together 8 = .ok (.invokestatic 356, 3) := by decide +kernel
theorem dX12_together_11 : decode cX12_together 11 = .ok (.ifCond .ne 9, 3) := by decide +kernel
theorem dX12_together_14 : decode cX12_together 14 = .ok (.aload_n 0, 1) := by decide +kernel
theorem dX12_together_15 : decode cX12_together 15 = .ok (.iconst 1, 1) := by decide +kernel
theorem dX12_together_16 : decode cX12_together 16 = .ok (.invokevirtual 219, 3) := by decide +kernel
theorem dX12_together_19 : decode cX12_together 19 = .ok (.ireturn, 1) := by decide +kernel
theorem dX12_together_20 : decode cX12_together 20 = .ok (.aload_n 0, 1) := by decide +kernel
theorem dX12_together_21 : decode cX12_together 21 = .ok (.iconst 0, 1) := by decide +kernel
theorem dX12_together_22 : decode cX12_together 22 = .ok (.iconst 0, 1) := by decide +kernel
theorem dX12_together_23 : decode cX12_together 23 = .ok (.iconst 0, 1) := by decide +kernel
theorem dX12_together_24 : decode cX12_together 24 = .ok (.invokevirtual 395, 3) := by decide +kernel
theorem dX12_together_27 : decode cX12_together 27 = .ok (.istore_n 2, 1) := by decide +kernel
theorem dX12_together_28 : decode cX12_together 28 = .ok (.iload_n 1, 1) := by decide +kernel
theorem dX12_together_29 : decode cX12_together 29 = .ok (.ifCond .ne 16, 3) := by decide +kernel
theorem dX12_together_32 : decode cX12_together 32 = .ok (.iload_n 2, 1) := by decide +kernel
theorem dX12_together_33 : decode cX12_together 33 = .ok (.iconst (-1), 1) := by decide +kernel
theorem dX12_together_34 : decode cX12_together 34 = .ok (.if_icmp .ne 7, 3) := by decide +kernel
theorem dX12_together_37 : decode cX12_together 37 = .ok (.iconst 1, 1) := by decide +kernel
theorem dX12_together_38 : decode cX12_together 38 = .ok (.goto 33, 3) := by decide +kernel
theorem dX12_together_41 : decode cX12_together 41 = .ok (.iconst 0, 1) := by decide +kernel
theorem dX12_together_42 : decode cX12_together 42 = .ok (.goto 29, 3) := by decide +kernel
theorem dX12_together_45 : decode cX12_together 45 = .ok (.iload_n 1, 1) := by decide +kernel
theorem dX12_together_46 : decode cX12_together 46 = .ok (.iconst 1, 1) := by decide +kernel
theorem dX12_together_47 : decode cX12_together 47 = .ok (.if_icmp .ne 7, 3) := by decide +kernel
theorem dX12_together_50 : decode cX12_together 50 = .ok (.iload_n 2, 1) := by decide +kernel
theorem dX12_together_51 : decode cX12_together 51 = .ok (.goto 20, 3) := by decide +kernel
theorem dX12_together_54 : decode cX12_together 54 = .ok (.iload_n 2, 1) := by decide +kernel
theorem dX12_together_55 : decode cX12_together 55 = .ok (.iconst (-1), 1) := by decide +kernel
theorem dX12_together_56 : decode cX12_together 56 = .ok (.if_icmp .ne 7, 3) := by decide +kernel
theorem dX12_together_59 : decode cX12_together 59 = .ok (.iconst 0, 1) := by decide +kernel
theorem dX12_together_60 : decode cX12_together 60 = .ok (.goto 11, 3) := by decide +kernel
theorem dX12_together_63 : decode cX12_together 63 = .ok (.aload_n 0, 1) := by decide +kernel
theorem dX12_together_64 : decode cX12_together 64 = .ok (.iload_n 2, 1) := by decide +kernel
theorem dX12_together_65 : decode cX12_together 65 = .ok (.iconst 0, 1) := by decide +kernel
theorem dX12_together_66 : decode cX12_together 66 = .ok (.iconst 0, 1) := by decide +kernel
theorem dX12_together_67 : decode cX12_together 67 = .ok (.iconst 0, 1) := by decide +kernel
theorem dX12_together_68 : decode cX12_together 68 = .ok (.invokevirtual 392, 3) := by decide +kernel
theorem dX12_together_71 : decode cX12_together 71 = .ok (.ireturn, 1) := by decide +kernel
theorem dX12_toGrant_0 : decode cX12_toGrant 0 = .ok (.aload_n 0, 1) := by decide +kernel
theorem dX12_toGrant_1 : decode cX12_toGrant 1 = .ok (.iconst 0, 1) := by decide +kernel
theorem dX12_toGrant_2 : decode cX12_toGrant 2 = .ok (.putfield 118, 3) := by decide +kernel
theorem dX12_toGrant_5 : decode cX12_toGrant 5 = .ok (.iload_n 1, 1) := by decide +kernel
theorem dX12_toGrant_6 : decode cX12_toGrant 6 = .ok (.iconst 0, 1) := by decide +kernel
theorem dX12_toGrant_7 : decode cX12_toGrant 7 = .ok (.bipush 30, 2) := by decide +kernel
theorem dX12_toGrant_9 : decode cX12_toGrant 9 = .ok (.invokestatic 356, 3) := by decide +kernel
theorem dX12_toGrant_12 : decode cX12_toGrant 12 = .ok (.ifCond .eq 13, 3) := by decide +kernel
theorem dX12_toGrant_15 : decode cX12_toGrant 15 = .ok (.iload_n 2, 1) := by decide +kernel
theorem dX12_toGrant_16 : decode cX12_toGrant 16 = .ok (.iconst 1, 1) := by decide +kernel
theorem dX12_toGrant_17 : decode cX12_toGrant 17 = .ok (.bipush 100, 2) := by decide +kernel
theorem dX12_toGrant_19 : decode cX12_toGrant 19 = .ok (.invokestatic 356, 3) := by decide +kernel
theorem dX12_toGrant_22 : decode cX12_toGrant 22 = .ok (.ifCond .ne 9, 3) := by decide +kernel
theorem dX12_toGrant_25 : decode cX12_toGrant 25 = .ok (.aload_n 0, 1) := by decide +kernel
theorem dX12_toGrant_26 : decode cX12_toGrant 26 = .ok (.iconst 1, 1) := by decide +kernel
theorem dX12_toGrant_27 : decode cX12_toGrant 27 = .ok (.invokevirtual 219, 3) := by decide +kernel
theorem dX12_toGrant_30 : decode cX12_toGrant 30 = .ok (.ireturn, 1) := by decide +kernel
theorem dX12_toGrant_31 : decode cX12_toGrant 31 = .ok (.iconst (-1), 1) := by decide +kernel
theorem dX12_toGrant_32 : decode cX12_toGrant 32 = .ok (.istore_n 3, 1) := by decide +kernel
theorem dX12_toGrant_33 : decode cX12_toGrant 33 = .ok (.iconst 0, 1) := by decide +kernel
theorem dX12_toGrant_34 : decode cX12_toGrant 34 = .ok (.istore 4, 2) := by decide +kernel
theorem dX12_toGrant_36 : decode cX12_toGrant 36 = .ok (.iload 4, 2) := by decide +kernel
theorem dX12_toGrant_38 : decode cX12_toGrant 38 = .ok (.bipush 100, 2) := by decide +kernel
theorem dX12_toGrant_40 : decode cX12_toGrant 40 = .ok (.if_icmp .gt 28, 3) := by decide +kernel
theorem dX12_toGrant_43 : decode cX12_toGrant 43 = .ok (.aload_n 0, 1) := by decide +kernel
theorem dX12_toGrant_44 : decode cX12_toGrant 44 = .ok (.iload 4, 2) := by decide +kernel
theorem dX12_toGrant_46 : decode cX12_toGrant 46 = .ok (.iload_n 1, 1) := by decide +kernel
theorem dX12_toGrant_47 : decode cX12_toGrant 47 = .ok (.iload_n 2, 1) := by decide +kernel
theorem dX12_toGrant_48 : decode cX12_toGrant 48 = .ok (.invokevirtual 395, 3) := by decide +kernel
theorem dX12_toGrant_51 : decode cX12_toGrant 51 = .ok (.iconst (-1), 1) := by decide +kernel
theorem dX12_toGrant_52 : decode cX12_toGrant 52 = .ok (.if_icmp .ne 8, 3) := by decide +kernel
theorem dX12_toGrant_55 : decode cX12_toGrant 55 = .ok (.iload 4, 2) := by decide +kernel
theorem dX12_toGrant_57 : decode cX12_toGrant 57 = .ok (.goto 4, 3) := by decide +kernel
theorem dX12_toGrant_60 : decode cX12_toGrant 60 = .ok (.iload_n 3, 1) := by decide +kernel
theorem dX12_toGrant_61 : decode cX12_toGrant 61 = .ok (.istore_n 3, 1) := by decide +kernel
theorem dX12_toGrant_62 : decode cX12_toGrant 62 = .ok (.iinc 4 1, 3) := by decide +kernel
theorem dX12_toGrant_65 : decode cX12_toGrant 65 = .ok (.goto (-29), 3) := by decide +kernel
theorem dX12_toGrant_68 : decode cX12_toGrant 68 = .ok (.iload_n 3, 1) := by decide +kernel
theorem dX12_toGrant_69 : decode cX12_toGrant 69 = .ok (.ireturn, 1) := by decide +kernel
theorem dX12_bound_0 : decode cX12_bound 0 = .ok (.aload_n 0, 1) := by decide +kernel
theorem dX12_bound_1 : decode cX12_bound 1 = .ok (.iconst 0, 1) := by decide +kernel
theorem dX12_bound_2 : decode cX12_bound 2 = .ok (.putfield 118, 3) := by decide +kernel
theorem dX12_bound_5 : decode cX12_bound 5 = .ok (.aload_n 0, 1) := by decide +kernel
theorem dX12_bound_6 : decode cX12_bound 6 = .ok (.iload_n 1, 1) := by decide +kernel
theorem dX12_bound_7 : decode cX12_bound 7 = .ok (.invokevirtual 360, 3) := by decide +kernel
theorem dX12_bound_10 : decode cX12_bound 10 = .ok (.ifCond .eq 12, 3) := by decide +kernel
theorem dX12_bound_13 : decode cX12_bound 13 = .ok (.aload_n 0, 1) := by decide +kernel
theorem dX12_bound_14 : decode cX12_bound 14 = .ok (.iload_n 1, 1) := by decide +kernel
theorem dX12_bound_15 : decode cX12_bound 15 = .ok (.iconst 0, 1) := by decide +kernel
theorem dX12_bound_16 : decode cX12_bound 16 = .ok (.invokevirtual 283, 3) := by decide +kernel
theorem dX12_bound_19 : decode cX12_bound 19 = .ok (.ifCond .ne 9, 3) := by decide +kernel
theorem dX12_bound_22 : decode cX12_bound 22 = .ok (.aload_n 0, 1) := by decide +kernel
theorem dX12_bound_23 : decode cX12_bound 23 = .ok (.iconst 1, 1) := by decide +kernel
theorem dX12_bound_24 : decode cX12_bound 24 = .ok (.invokevirtual 219, 3) := by decide +kernel
theorem dX12_bound_27 : decode cX12_bound 27 = .ok (.ireturn, 1) := by decide +kernel
theorem dX12_bound_28 : decode cX12_bound 28 = .ok (.iload_n 1, 1) := by decide +kernel
theorem dX12_bound_29 : decode cX12_bound 29 = .ok (.iconst 0, 1) := by decide +kernel
theorem dX12_bound_30 : decode cX12_bound 30 = .ok (.invokestatic 245, 3) := by decide +kernel
theorem dX12_bound_33 : decode cX12_bound 33 = .ok (.istore_n 3, 1) := by decide +kernel
theorem dX12_bound_34 : decode cX12_bound 34 = .ok (.iload_n 2, 1) := by decide +kernel
theorem dX12_bound_35 : decode cX12_bound 35 = .ok (.iconst 1, 1) := by decide +kernel
theorem dX12_bound_36 : decode cX12_bound 36 = .ok (.sipush 999, 3) := by decide +kernel
theorem dX12_bound_39 : decode cX12_bound 39 = .ok (.invokestatic 356, 3) := by decide +kernel
theorem dX12_bound_42 : decode cX12_bound 42 = .ok (.ifCond .eq 39, 3) := by decide +kernel
theorem dX12_bound_45 : decode cX12_bound 45 = .ok (.aload_n 0, 1) := by decide +kernel
theorem dX12_bound_46 : decode cX12_bound 46 = .ok (.getfield 43, 3) := by decide +kernel
theorem dX12_bound_49 : decode cX12_bound 49 = .ok (.iload_n 3, 1) := by decide +kernel
theorem dX12_bound_50 : decode cX12_bound 50 = .ok (.iconst 1, 1) := by decide +kernel
theorem dX12_bound_51 : decode cX12_bound 51 = .ok (.iadd, 1) := by decide +kernel
theorem dX12_bound_52 : decode cX12_bound 52 = .ok (.iaload, 1) := by decide +kernel
theorem dX12_bound_53 : decode cX12_bound 53 = .ok (.aload_n 0, 1) := by decide +kernel
theorem dX12_bound_54 : decode cX12_bound 54 = .ok (.getfield 43, 3) := by decide +kernel
theorem dX12_bound_57 : decode cX12_bound 57 = .ok (.iload_n 3, 1) := by decide +kernel
theorem dX12_bound_58 : decode cX12_bound 58 = .ok (.iconst 2, 1) := by decide +kernel
theorem dX12_bound_59 : decode cX12_bound 59 = .ok (.iadd, 1) := by decide +kernel
theorem dX12_bound_60 : decode cX12_bound 60 = .ok (.iaload, 1) := by decide +kernel
theorem dX12_bound_61 : decode cX12_bound 61 = .ok (.aload_n 0, 1) := by decide +kernel
theorem dX12_bound_62 : decode cX12_bound 62 = .ok (.getfield 43, 3) := by decide +kernel
theorem dX12_bound_65 : decode cX12_bound 65 = .ok (.iload_n 3, 1) := by decide +kernel
theorem dX12_bound_66 : decode cX12_bound 66 = .ok (.iconst 3, 1) := by decide +kernel
theorem dX12_bound_67 : decode cX12_bound 67 = .ok (.iadd, 1) := by decide +kernel
theorem dX12_bound_68 : decode cX12_bound 68 = .ok (.iaload, 1) := by decide +kernel
theorem dX12_bound_69 : decode cX12_bound 69 = .ok (.iconst 0, 1) := by decide +kernel
theorem dX12_bound_70 : decode cX12_bound 70 = .ok (.iconst 0, 1) := by decide +kernel
theorem dX12_bound_71 : decode cX12_bound 71 = .ok (.iload_n 2, 1) := by decide +kernel
theorem dX12_bound_72 : decode cX12_bound 72 = .ok (.invokestatic 251, 3) := by decide +kernel
theorem dX12_bound_75 : decode cX12_bound 75 = .ok (.bipush 64, 2) := by decide +kernel
theorem dX12_bound_77 : decode cX12_bound 77 = .ok (.iadd, 1) := by decide +kernel
theorem dX12_bound_78 : decode cX12_bound 78 = .ok (.goto 8, 3) := by decide +kernel
theorem dX12_bound_81 : decode cX12_bound 81 = .ok (.aload_n 0, 1) := by decide +kernel
theorem dX12_bound_82 : decode cX12_bound 82 = .ok (.iconst 2, 1) := by decide +kernel
theorem dX12_bound_83 : decode cX12_bound 83 = .ok (.invokevirtual 219, 3) := by decide +kernel
theorem dX12_bound_86 : decode cX12_bound 86 = .ok (.ireturn, 1) := by decide +kernel
theorem dX12_rememberNow_0 : decode cX12_rememberNow 0 = .ok (.aload_n 0, 1) := by decide +kernel
theorem dX12_rememberNow_1 : decode cX12_rememberNow 1 = .ok (.getfield 76, 3) := by decide +kernel
theorem dX12_rememberNow_4 : decode cX12_rememberNow 4 = .ok (.aload_n 0, 1) := by decide +kernel
theorem dX12_rememberNow_5 : decode cX12_rememberNow 5 = .ok (.getfield 43, 3) := by decide +kernel
theorem dX12_rememberNow_8 : decode cX12_rememberNow 8 = .ok (.invokestatic 398, 3) := by decide +kernel
theorem dX12_rememberNow_11 : decode cX12_rememberNow 11 = .ok (.return_, 1) := by decide +kernel
theorem dX12_back_0 : decode cX12_back 0 = .ok (.aload_n 0, 1) := by decide +kernel
theorem dX12_back_1 : decode cX12_back 1 = .ok (.getfield 43, 3) := by decide +kernel
theorem dX12_back_4 : decode cX12_back 4 = .ok (.aload_n 0, 1) := by decide +kernel
theorem dX12_back_5 : decode cX12_back 5 = .ok (.getfield 76, 3) := by decide +kernel
theorem dX12_back_8 : decode cX12_back 8 = .ok (.invokestatic 398, 3) := by decide +kernel
theorem dX12_back_11 : decode cX12_back 11 = .ok (.iload_n 1, 1) := by decide +kernel
theorem dX12_back_12 : decode cX12_back 12 = .ok (.ireturn, 1) := by decide +kernel
theorem dX12_then_0 : decode cX12_then 0 = .ok (.aload_n 0, 1) := by decide +kernel
theorem dX12_then_1 : decode cX12_then 1 = .ok (.iconst 0, 1) := by decide +kernel
theorem dX12_then_2 : decode cX12_then 2 = .ok (.putfield 118, 3) := by decide +kernel
theorem dX12_then_5 : decode cX12_then 5 = .ok (.aload_n 0, 1) := by decide +kernel
theorem dX12_then_6 : decode cX12_then 6 = .ok (.iload_n 1, 1) := by decide +kernel
theorem dX12_then_7 : decode cX12_then 7 = .ok (.invokevirtual 360, 3) := by decide +kernel
theorem dX12_then_10 : decode cX12_then 10 = .ok (.ifCond .eq 12, 3) := by decide +kernel
theorem dX12_then_13 : decode cX12_then 13 = .ok (.iload_n 3, 1) := by decide +kernel
theorem dX12_then_14 : decode cX12_then 14 = .ok (.iconst 0, 1) := by decide +kernel
theorem dX12_then_15 : decode cX12_then 15 = .ok (.iconst 5, 1) := by decide +kernel
theorem dX12_then_16 : decode cX12_then 16 = .ok (.invokestatic 356, 3) := by decide +kernel
theorem dX12_then_19 : decode cX12_then 19 = .ok (.ifCond .ne 9, 3) := by decide +kernel
theorem dX12_then_22 : decode cX12_then 22 = .ok (.aload_n 0, 1) := by decide +kernel
theorem dX12_then_23 : decode cX12_then 23 = .ok (.iconst 1, 1) := by decide +kernel
theorem dX12_then_24 : decode cX12_then 24 = .ok (.invokevirtual 219, 3) := by decide +kernel
theorem dX12_then_27 : decode cX12_then 27 = .ok (.ireturn, 1) := by decide +kernel
theorem dX12_then_28 : decode cX12_then 28 = .ok (.iload_n 2, 1) := by decide +kernel
theorem dX12_then_29 : decode cX12_then 29 = .ok (.iconst 0, 1) := by decide +kernel
theorem dX12_then_30 : decode cX12_then 30 = .ok (.sipush 400, 3) := by decide +kernel
theorem dX12_then_33 : decode cX12_then 33 = .ok (.invokestatic 356, 3) := by decide +kernel
theorem dX12_then_36 : decode cX12_then 36 = .ok (.ifCond .ne 9, 3) := by decide +kernel
theorem dX12_then_39 : decode cX12_then 39 = .ok (.aload_n 0, 1) := by decide +kernel
theorem dX12_then_40 : decode cX12_then 40 = .ok (.iconst 2, 1) := by decide +kernel
theorem dX12_then_41 : decode cX12_then 41 = .ok (.invokevirtual 219, 3) := by decide +kernel
theorem dX12_then_44 : decode cX12_then 44 = .ok (.ireturn, 1) := by decide +kernel
theorem dX12_then_45 : decode cX12_then 45 = .ok (.aload_n 0, 1) := by decide +kernel
theorem dX12_then_46 : decode cX12_then 46 = .ok (.invokevirtual 402, 3) := by decide +kernel
theorem dX12_then_49 : decode cX12_then 49 = .ok (.aload_n 0, 1) := by decide +kernel
theorem dX12_then_50 : decode cX12_then 50 = .ok (.iload_n 2, 1) := by decide +kernel
theorem dX12_then_51 : decode cX12_then 51 = .ok (.invokevirtual 375, 3) := by decide +kernel
theorem dX12_then_54 : decode cX12_then 54 = .ok (.sipush 257, 3) := by decide +kernel
theorem dX12_then_57 : decode cX12_then 57 = .ok (.iload_n 1, 1) := by decide +kernel
theorem dX12_then_58 : decode cX12_then 58 = .ok (.imul, 1) := by decide +kernel
theorem dX12_then_59 : decode cX12_then 59 = .ok (.istore 4, 2) := by decide +kernel
theorem dX12_then_61 : decode cX12_then 61 = .ok (.aload_n 0, 1) := by decide +kernel
theorem dX12_then_62 : decode cX12_then 62 = .ok (.iload_n 3, 1) := by decide +kernel
theorem dX12_then_63 : decode cX12_then 63 = .ok (.ifCond .ne 16, 3) := by decide +kernel
theorem dX12_then_66 : decode cX12_then 66 = .ok (.aload_n 0, 1) := by decide +kernel
theorem dX12_then_67 : decode cX12_then 67 = .ok (.getfield 43, 3) := by decide +kernel
theorem dX12_then_70 : decode cX12_then 70 = .ok (.iload 4, 2) := by decide +kernel
theorem dX12_then_72 : decode cX12_then 72 = .ok (.bipush 12, 2) := by decide +kernel
theorem dX12_then_74 : decode cX12_then 74 = .ok (.iadd, 1) := by decide +kernel
theorem dX12_then_75 : decode cX12_then 75 = .ok (.iaload, 1) := by decide +kernel
theorem dX12_then_76 : decode cX12_then 76 = .ok (.goto 88, 3) := by decide +kernel
theorem dX12_then_79 : decode cX12_then 79 = .ok (.iload_n 3, 1) := by decide +kernel
theorem dX12_then_80 : decode cX12_then 80 = .ok (.iconst 1, 1) := by decide +kernel
theorem dX12_then_81 : decode cX12_then 81 = .ok (.if_icmp .ne 16, 3) := by decide +kernel
theorem dX12_then_84 : decode cX12_then 84 = .ok (.aload_n 0, 1) := by decide +kernel
theorem dX12_then_85 : decode cX12_then 85 = .ok (.getfield 43, 3) := by decide +kernel
theorem dX12_then_88 : decode cX12_then 88 = .ok (.iload 4, 2) := by decide +kernel
theorem dX12_then_90 : decode cX12_then 90 = .ok (.bipush 17, 2) := by decide +kernel
theorem dX12_then_92 : decode cX12_then 92 = .ok (.iadd, 1) := by decide +kernel
theorem dX12_then_93 : decode cX12_then 93 = .ok (.iaload, 1) := by decide +kernel
theorem dX12_then_94 : decode cX12_then 94 = .ok (.goto 70, 3) := by decide +kernel
theorem dX12_then_97 : decode cX12_then 97 = .ok (.iload_n 3, 1) := by decide +kernel
theorem dX12_then_98 : decode cX12_then 98 = .ok (.iconst 2, 1) := by decide +kernel
theorem dX12_then_99 : decode cX12_then 99 = .ok (.if_icmp .ne 16, 3) := by decide +kernel
theorem dX12_then_102 : decode cX12_then 102 = .ok (.aload_n 0, 1) := by decide +kernel
theorem dX12_then_103 : decode cX12_then 103 = .ok (.getfield 43, 3) := by decide +kernel
theorem dX12_then_106 : decode cX12_then 106 = .ok (.iload 4, 2) := by decide +kernel
theorem dX12_then_108 : decode cX12_then 108 = .ok (.bipush 14, 2) := by decide +kernel
theorem dX12_then_110 : decode cX12_then 110 = .ok (.iadd, 1) := by decide +kernel
theorem dX12_then_111 : decode cX12_then 111 = .ok (.iaload, 1) := by decide +kernel
theorem dX12_then_112 : decode cX12_then 112 = .ok (.goto 52, 3) := by decide +kernel
theorem dX12_then_115 : decode cX12_then 115 = .ok (.iload_n 3, 1) := by decide +kernel
theorem dX12_then_116 : decode cX12_then 116 = .ok (.iconst 3, 1) := by decide +kernel
theorem dX12_then_117 : decode cX12_then 117 = .ok (.if_icmp .ne 16, 3) := by decide +kernel
theorem dX12_then_120 : decode cX12_then 120 = .ok (.aload_n 0, 1) := by decide +kernel
theorem dX12_then_121 : decode cX12_then 121 = .ok (.getfield 43, 3) := by decide +kernel
theorem dX12_then_124 : decode cX12_then 124 = .ok (.iload 4, 2) := by decide +kernel
theorem dX12_then_126 : decode cX12_then 126 = .ok (.bipush 13, 2) := by decide +kernel
theorem dX12_then_128 : decode cX12_then 128 = .ok (.iadd, 1) := by decide +kernel
theorem dX12_then_129 : decode cX12_then 129 = .ok (.iaload, 1) := by decide +kernel
theorem dX12_then_130 : decode cX12_then 130 = .ok (.goto 34, 3) := by decide +kernel
theorem dX12_then_133 : decode cX12_then 133 = .ok (.iload_n 3, 1) := by decide +kernel
theorem dX12_then_134 : decode cX12_then 134 = .ok (.iconst 4, 1) := by decide +kernel
theorem dX12_then_135 : decode cX12_then 135 = .ok (.if_icmp .ne 16, 3) := by decide +kernel
theorem dX12_then_138 : decode cX12_then 138 = .ok (.aload_n 0, 1) := by decide +kernel
theorem dX12_then_139 : decode cX12_then 139 = .ok (.getfield 43, 3) := by decide +kernel
theorem dX12_then_142 : decode cX12_then 142 = .ok (.iload 4, 2) := by decide +kernel
theorem dX12_then_144 : decode cX12_then 144 = .ok (.bipush 16, 2) := by decide +kernel
theorem dX12_then_146 : decode cX12_then 146 = .ok (.iadd, 1) := by decide +kernel
theorem dX12_then_147 : decode cX12_then 147 = .ok (.iaload, 1) := by decide +kernel
theorem dX12_then_148 : decode cX12_then 148 = .ok (.goto 16, 3) := by decide +kernel
theorem dX12_then_151 : decode cX12_then 151 = .ok (.aload_n 0, 1) := by decide +kernel
theorem dX12_then_152 : decode cX12_then 152 = .ok (.iload_n 1, 1) := by decide +kernel
theorem dX12_then_153 : decode cX12_then 153 = .ok (.invokevirtual 262, 3) := by decide +kernel
theorem dX12_then_156 : decode cX12_then 156 = .ok (.ifCond .eq 7, 3) := by decide +kernel
theorem dX12_then_159 : decode cX12_then 159 = .ok (.iconst 1, 1) := by decide +kernel
theorem dX12_then_160 : decode cX12_then 160 = .ok (.goto 4, 3) := by decide +kernel
theorem dX12_then_163 : decode cX12_then 163 = .ok (.iconst 0, 1) := by decide +kernel
theorem dX12_then_164 : decode cX12_then 164 = .ok (.invokevirtual 405, 3) := by decide +kernel
theorem dX12_then_167 : decode cX12_then 167 = .ok (.ireturn, 1) := by decide +kernel
theorem dX12_next_0 : decode cX12_next 0 = .ok (.aload_n 0, 1) := by decide +kernel
theorem dX12_next_1 : decode cX12_next 1 = .ok (.iconst 0, 1) := by decide +kernel
theorem dX12_next_2 : decode cX12_next 2 = .ok (.putfield 118, 3) := by decide +kernel
theorem dX12_next_5 : decode cX12_next 5 = .ok (.iload_n 2, 1) := by decide +kernel
theorem dX12_next_6 : decode cX12_next 6 = .ok (.iconst 0, 1) := by decide +kernel
theorem dX12_next_7 : decode cX12_next 7 = .ok (.iconst 2, 1) := by decide +kernel
theorem dX12_next_8 : decode cX12_next 8 = .ok (.invokestatic 356, 3) := by decide +kernel
theorem dX12_next_11 : decode cX12_next 11 = .ok (.ifCond .ne 9, 3) := by decide +kernel
theorem dX12_next_14 : decode cX12_next 14 = .ok (.aload_n 0, 1) := by decide +kernel
theorem dX12_next_15 : decode cX12_next 15 = .ok (.iconst 1, 1) := by decide +kernel
theorem dX12_next_16 : decode cX12_next 16 = .ok (.invokevirtual 219, 3) := by decide +kernel
theorem dX12_next_19 : decode cX12_next 19 = .ok (.ireturn, 1) := by decide +kernel
theorem dX12_next_20 : decode cX12_next 20 = .ok (.iload_n 1, 1) := by decide +kernel
theorem dX12_next_21 : decode cX12_next 21 = .ok (.iconst 1, 1) := by decide +kernel
theorem dX12_next_22 : decode cX12_next 22 = .ok (.bipush 20, 2) := by decide +kernel
theorem dX12_next_24 : decode cX12_next 24 = .ok (.invokestatic 356, 3) := by decide +kernel
theorem dX12_next_27 : decode cX12_next 27 = .ok (.ifCond .ne 9, 3) := by decide +kernel
theorem dX12_next_30 : decode cX12_next 30 = .ok (.aload_n 0, 1) := by decide +kernel
theorem dX12_next_31 : decode cX12_next 31 = .ok (.iconst 2, 1) := by decide +kernel
theorem dX12_next_32 : decode cX12_next 32 = .ok (.invokevirtual 219, 3) := by decide +kernel
theorem dX12_next_35 : decode cX12_next 35 = .ok (.ireturn, 1) := by decide +kernel
theorem dX12_next_36 : decode cX12_next 36 = .ok (.iload_n 1, 1) := by decide +kernel
theorem dX12_next_37 : decode cX12_next 37 = .ok (.istore_n 3, 1) := by decide +kernel
theorem dX12_next_38 : decode cX12_next 38 = .ok (.aload_n 0, 1) := by decide +kernel
theorem dX12_next_39 : decode cX12_next 39 = .ok (.invokevirtual 402, 3) := by decide +kernel
theorem dX12_next_42 : decode cX12_next 42 = .ok (.iconst 0, 1) := by decide +kernel
theorem dX12_next_43 : decode cX12_next 43 = .ok (.istore 4, 2) := by decide +kernel
theorem dX12_next_45 : decode cX12_next 45 = .ok (.iload 4, 2) := by decide +kernel
theorem dX12_next_47 : decode cX12_next 47 = .ok (.sipush 400, 3) := by decide +kernel
theorem dX12_next_50 : decode cX12_next 50 = .ok (.if_icmp .ge 79, 3) := by decide +kernel
theorem dX12_next_53 : decode cX12_next 53 = .ok (.aload_n 0, 1) := by decide +kernel
theorem dX12_next_54 : decode cX12_next 54 = .ok (.invokevirtual 341, 3) := by decide +kernel
theorem dX12_next_57 : decode cX12_next 57 = .ok (.iload_n 3, 1) := by decide +kernel
theorem dX12_next_58 : decode cX12_next 58 = .ok (.aload_n 0, 1) := by decide +kernel
theorem dX12_next_59 : decode cX12_next 59 = .ok (.getfield 317, 3) := by decide +kernel
theorem dX12_next_62 : decode cX12_next 62 = .ok (.iconst (-1), 1) := by decide +kernel
theorem dX12_next_63 : decode cX12_next 63 = .ok (.if_icmp .ne 7, 3) := by decide +kernel
theorem dX12_next_66 : decode cX12_next 66 = .ok (.iconst 0, 1) := by decide +kernel
theorem dX12_next_67 : decode cX12_next 67 = .ok (.goto 4, 3) := by decide +kernel
theorem dX12_next_70 : decode cX12_next 70 = .ok (.iconst 1, 1) := by decide +kernel
theorem dX12_next_71 : decode cX12_next 71 = .ok (.isub, 1) := by decide +kernel
theorem dX12_next_72 : decode cX12_next 72 = .ok (.istore_n 3, 1) := by decide +kernel
theorem dX12_next_73 : decode cX12_next 73 = .ok (.iload_n 3, 1) := by decide +kernel
theorem dX12_next_74 : decode cX12_next 74 = .ok (.ifCond .ne 49, 3) := by decide +kernel
theorem dX12_next_77 : decode cX12_next 77 = .ok (.aload_n 0, 1) := by decide +kernel
theorem dX12_next_78 : decode cX12_next 78 = .ok (.iload_n 2, 1) := by decide +kernel
theorem dX12_next_79 : decode cX12_next 79 = .ok (.ifCond .ne 10, 3) := by decide +kernel
theorem dX12_next_82 : decode cX12_next 82 = .ok (.aload_n 0, 1) := by decide +kernel
theorem dX12_next_83 : decode cX12_next 83 = .ok (.getfield 317, 3) := by decide +kernel
theorem dX12_next_86 : decode cX12_next 86 = .ok (.goto 33, 3) := by decide +kernel
theorem dX12_next_89 : decode cX12_next 89 = .ok (.iload_n 2, 1) := by decide +kernel
theorem dX12_next_90 : decode cX12_next 90 = .ok (.iconst 1, 1) := by decide +kernel
theorem dX12_next_91 : decode cX12_next 91 = .ok (.if_icmp .ne 16, 3) := by decide +kernel
theorem dX12_next_94 : decode cX12_next 94 = .ok (.aload_n 0, 1) := by decide +kernel
theorem dX12_next_95 : decode cX12_next 95 = .ok (.getfield 43, 3) := by decide +kernel
theorem dX12_next_98 : decode cX12_next 98 = .ok (.sipush 3084, 3) := by decide +kernel
theorem dX12_next_101 : decode cX12_next 101 = .ok (.iaload, 1) := by decide +kernel
theorem dX12_next_102 : decode cX12_next 102 = .ok (.iconst 1, 1) := by decide +kernel
theorem dX12_next_103 : decode cX12_next 103 = .ok (.isub, 1) := by decide +kernel
theorem dX12_next_104 : decode cX12_next 104 = .ok (.goto 15, 3) := by decide +kernel
theorem dX12_next_107 : decode cX12_next 107 = .ok (.aload_n 0, 1) := by decide +kernel
theorem dX12_next_108 : decode cX12_next 108 = .ok (.getfield 311, 3) := by decide +kernel
theorem dX12_next_111 : decode cX12_next 111 = .ok (.ifCond .eq 7, 3) := by decide +kernel
theorem dX12_next_114 : decode cX12_next 114 = .ok (.iconst 1, 1) := by decide +kernel
theorem dX12_next_115 : decode cX12_next 115 = .ok (.goto 4, 3) := by decide +kernel
theorem dX12_next_118 : decode cX12_next 118 = .ok (.iconst 0, 1) := by decide +kernel
theorem dX12_next_119 : decode cX12_next 119 = .ok (.invokevirtual 405, 3) := by decide +kernel
theorem dX12_next_122 : decode cX12_next 122 = .ok (.ireturn, 1) := by decide +kernel
theorem dX12_next_123 : decode cX12_next 123 = .ok (.iinc 4 1, 3) := by decide +kernel
theorem dX12_next_126 : decode cX12_next 126 = .ok (.goto (-81), 3) := by decide +kernel
theorem dX12_next_129 : decode cX12_next 129 = .ok (.aload_n 0, 1) := by decide +kernel
theorem dX12_next_130 : decode cX12_next 130 = .ok (.iconst (-1), 1) := by decide +kernel
theorem dX12_next_131 : decode cX12_next 131 = .ok (.invokevirtual 405, 3) := by decide +kernel
theorem dX12_next_134 : decode cX12_next 134 = .ok (.ireturn, 1) := by decide +kernel
