theorem dX12_unitsTill_0 : decode cX12_unitsTill 0 = .ok (.iload_n 2, 1) := by decide +kernel
theorem dX12_unitsTill_1 : decode cX12_unitsTill 1 = .ok (.istore_n 3, 1) := by decide +kernel
theorem dX12_unitsTill_2 : decode cX12_unitsTill 2 = .ok (.iconst 0, 1) := by decide +kernel
theorem dX12_unitsTill_3 : decode cX12_unitsTill 3 = .ok (.istore 4, 2) := by decide +kernel
theorem dX12_unitsTill_5 : decode cX12_unitsTill 5 = .ok (.iload 4, 2) := by decide +kernel
theorem dX12_unitsTill_7 : decode cX12_unitsTill 7 = .ok (.sipush 400, 3) := by decide +kernel
theorem dX12_unitsTill_10 : decode cX12_unitsTill 10 = .ok (.if_icmp .ge 36, 3) := by decide +kernel
theorem dX12_unitsTill_13 : decode cX12_unitsTill 13 = .ok (.aload_n 0, 1) := by decide +kernel
theorem dX12_unitsTill_14 : decode cX12_unitsTill 14 = .ok (.invokevirtual 341, 3) := by decide +kernel
theorem dX12_unitsTill_17 : decode cX12_unitsTill 17 = .ok (.iload_n 3, 1) := by decide +kernel
theorem dX12_unitsTill_18 : decode cX12_unitsTill 18 = .ok (.aload_n 0, 1) := by decide +kernel
theorem dX12_unitsTill_19 : decode cX12_unitsTill 19 = .ok (.getfield 317, 3) := by decide +kernel
theorem dX12_unitsTill_22 : decode cX12_unitsTill 22 = .ok (.iload_n 1, 1) := by decide +kernel
theorem dX12_unitsTill_23 : decode cX12_unitsTill 23 = .ok (.if_icmp .ne 7, 3) := by decide +kernel
theorem dX12_unitsTill_26 : decode cX12_unitsTill 26 = .ok (.iconst 1, 1) := by decide +kernel
theorem dX12_unitsTill_27 : decode cX12_unitsTill 27 = .ok (.goto 4, 3) := by decide +kernel
theorem dX12_unitsTill_30 : decode cX12_unitsTill 30 = .ok (.iconst 0, 1) := by decide +kernel
theorem dX12_unitsTill_31 : decode cX12_unitsTill 31 = .ok (.isub, 1) := by decide +kernel
theorem dX12_unitsTill_32 : decode cX12_unitsTill 32 = .ok (.istore_n 3, 1) := by decide +kernel
theorem dX12_unitsTill_33 : decode cX12_unitsTill 33 = .ok (.iload_n 3, 1) := by decide +kernel
theorem dX12_unitsTill_34 : decode cX12_unitsTill 34 = .ok (.ifCond .ne 6, 3) := by decide +kernel
theorem dX12_unitsTill_37 : decode cX12_unitsTill 37 = .ok (.iload 4, 2) := by decide +kernel
theorem dX12_unitsTill_39 : decode cX12_unitsTill 39 = .ok (.ireturn, 1) := by decide +kernel
theorem dX12_unitsTill_40 : decode cX12_unitsTill 40 = .ok (.iinc 4 1, 3) := by decide +kernel
theorem dX12_unitsTill_43 : decode cX12_unitsTill 43 = .ok (.goto (-38), 3) := by decide +kernel
theorem dX12_unitsTill_46 : decode cX12_unitsTill 46 = .ok (.iconst (-1), 1) := by decide +kernel
theorem dX12_unitsTill_47 : decode cX12_unitsTill 47 = .ok (.ireturn, 1) := by decide +kernel
theorem dX12_hasPackets_0 : decode cX12_hasPackets 0 = .ok (.aload_n 0, 1) := by decide +kernel
theorem dX12_hasPackets_1 : decode cX12_hasPackets 1 = .ok (.iload_n 1, 1) := by decide +kernel
theorem dX12_hasPackets_2 : decode cX12_hasPackets 2 = .ok (.invokevirtual 366, 3) := by decide +kernel
theorem dX12_hasPackets_5 : decode cX12_hasPackets 5 = .ok (.ifCond .eq 23, 3) := by decide +kernel
theorem dX12_hasPackets_8 : decode cX12_hasPackets 8 = .ok (.aload_n 0, 1) := by decide +kernel
theorem dX12_hasPackets_9 : decode cX12_hasPackets 9 = .ok (.getfield 43, 3) := by decide +kernel
theorem dX12_hasPackets_12 : decode cX12_hasPackets 12 = .ok (.sipush 257, 3) := by decide +kernel
theorem dX12_hasPackets_15 : decode cX12_hasPackets 15 = .ok (.iload_n 1, 1) := by decide +kernel
theorem dX12_hasPackets_16 : decode cX12_hasPackets 16 = .ok (.imul, 1) := by decide +kernel
theorem dX12_hasPackets_17 : decode cX12_hasPackets 17 = .ok (.bipush 17, 2) := by decide +kernel
theorem dX12_hasPackets_19 : decode cX12_hasPackets 19 = .ok (.iadd, 1) := by decide +kernel
theorem dX12_hasPackets_20 : decode cX12_hasPackets 20 = .ok (.iaload, 1) := by decide +kernel
theorem dX12_hasPackets_21 : decode cX12_hasPackets 21 = .ok (.ifCond .le 7, 3) := by decide +kernel
theorem dX12_hasPackets_24 : decode cX12_hasPackets 24 = .ok (.iconst 1, 1) := by decide +kernel
theorem dX12_hasPackets_25 : decode cX12_hasPackets 25 = .ok (.goto 4, 3) := by decide +kernel
theorem dX12_hasPackets_28 : decode cX12_hasPackets 28 = .ok (.iconst 0, 1) := by decide +kernel
theorem dX12_hasPackets_29 : decode cX12_hasPackets 29 = .ok (.ireturn, 1) := by decide +kernel
theorem dX12_waits_0 : decode cX12_waits 0 = .ok (.aload_n 0, 1) := by decide +kernel
theorem dX12_waits_1 : decode cX12_waits 1 = .ok (.iconst 0, 1) := by decide +kernel
theorem dX12_waits_2 : decode cX12_waits 2 = .ok (.putfield 118, 3) := by decide +kernel
theorem dX12_waits_5 : decode cX12_waits 5 = .ok (.aload_n 0, 1) := by decide +kernel
theorem dX12_waits_6 : decode cX12_waits 6 = .ok (.iload_n 1, 1) := by decide +kernel
theorem dX12_waits_7 : decode cX12_waits 7 = .ok (.invokevirtual 408, 3) := by decide +kernel
theorem dX12_waits_10 : decode cX12_waits 10 = .ok (.ifCond .ne 9, 3) := by decide +kernel
theorem dX12_waits_13 : decode cX12_waits 13 = .ok (.aload_n 0, 1) := by decide +kernel
theorem dX12_waits_14 : decode cX12_waits 14 = .ok (.iconst 1, 1) := by decide +kernel
theorem dX12_waits_15 : decode cX12_waits 15 = .ok (.invokevirtual 219, 3) := by decide +kernel
theorem dX12_waits_18 : decode cX12_waits 18 = .ok (.ireturn, 1) := by decide +kernel
theorem dX12_waits_19 : decode cX12_waits 19 = .ok (.aload_n 0, 1) := by decide +kernel
theorem dX12_waits_20 : decode cX12_waits 20 = .ok (.invokevirtual 402, 3) := by decide +kernel
theorem dX12_waits_23 : decode cX12_waits 23 = .ok (.aload_n 0, 1) := by decide +kernel
theorem dX12_waits_24 : decode cX12_waits 24 = .ok (.aload_n 0, 1) := by decide +kernel
theorem dX12_waits_25 : decode cX12_waits 25 = .ok (.iload_n 1, 1) := by decide +kernel
theorem dX12_waits_26 : decode cX12_waits 26 = .ok (.aload_n 0, 1) := by decide +kernel
theorem dX12_waits_27 : decode cX12_waits 27 = .ok (.getfield 43, 3) := by decide +kernel
theorem dX12_waits_30 : decode cX12_waits 30 = .ok (.sipush 257, 3) := by decide +kernel
theorem dX12_waits_33 : decode cX12_waits 33 = .ok (.iload_n 1, 1) := by decide +kernel
theorem dX12_waits_34 : decode cX12_waits 34 = .ok (.imul, 1) := by decide +kernel
theorem dX12_waits_35 : decode cX12_waits 35 = .ok (.bipush 17, 2) := by decide +kernel
theorem dX12_waits_37 : decode cX12_waits 37 = .ok (.iadd, 1) := by decide +kernel
theorem dX12_waits_38 : decode cX12_waits 38 = .ok (.iaload, 1) := by decide +kernel
theorem dX12_waits_39 : decode cX12_waits 39 = .ok (.invokevirtual 411, 3) := by decide +kernel
theorem dX12_waits_42 : decode cX12_waits 42 = .ok (.invokevirtual 405, 3) := by decide +kernel
theorem dX12_waits_45 : decode cX12_waits 45 = .ok (.ireturn, 1) := by decide +kernel
theorem dX12_longest_0 : decode cX12_longest 0 = .ok (.aload_n 0, 1) := by decide +kernel
theorem dX12_longest_1 : decode cX12_longest 1 = .ok (.iconst 0, 1) := by decide +kernel
theorem dX12_longest_2 : decode cX12_longest 2 = .ok (.putfield 118, 3) := by decide +kernel
theorem dX12_longest_5 : decode cX12_longest 5 = .ok (.aload_n 0, 1) := by decide +kernel
theorem dX12_longest_6 : decode cX12_longest 6 = .ok (.iload_n 1, 1) := by decide +kernel
theorem dX12_longest_7 : decode cX12_longest 7 = .ok (.invokevirtual 366, 3) := by decide +kernel
theorem dX12_longest_10 : decode cX12_longest 10 = .ok (.ifCond .ne 9, 3) := by decide +kernel
theorem dX12_longest_13 : decode cX12_longest 13 = .ok (.aload_n 0, 1) := by decide +kernel
theorem dX12_longest_14 : decode cX12_longest 14 = .ok (.iconst 1, 1) := by decide +kernel
theorem dX12_longest_15 : decode cX12_longest 15 = .ok (.invokevirtual 219, 3) := by decide +kernel
theorem dX12_longest_18 : decode cX12_longest 18 = .ok (.ireturn, 1) := by decide +kernel
theorem dX12_longest_19 : decode cX12_longest 19 = .ok (.iload_n 2, 1) := by decide +kernel
theorem dX12_longest_20 : decode cX12_longest 20 = .ok (.iconst 1, 1) := by decide +kernel
theorem dX12_longest_21 : decode cX12_longest 21 = .ok (.sipush 200, 3) := by decide +kernel
theorem dX12_longest_24 : decode cX12_longest 24 = .ok (.invokestatic 356, 3) := by decide +kernel
theorem dX12_longest_27 : decode cX12_longest 27 = .ok (.ifCond .ne 9, 3) := by decide +kernel
theorem dX12_longest_30 : decode cX12_longest 30 = .ok (.aload_n 0, 1) := by decide +kernel
theorem dX12_longest_31 : decode cX12_longest 31 = .ok (.iconst 2, 1) := by decide +kernel
theorem dX12_longest_32 : decode cX12_longest 32 = .ok (.invokevirtual 219, 3) := by decide +kernel
theorem dX12_longest_35 : decode cX12_longest 35 = .ok (.ireturn, 1) := by decide +kernel
theorem dX12_longest_36 : decode cX12_longest 36 = .ok (.aload_n 0, 1) := by decide +kernel
theorem dX12_longest_37 : decode cX12_longest 37 = .ok (.invokevirtual 402, 3) := by decide +kernel
theorem dX12_longest_40 : decode cX12_longest 40 = .ok (.aload_n 0, 1) := by decide +kernel
theorem dX12_longest_41 : decode cX12_longest 41 = .ok (.getfield 43, 3) := by decide +kernel
theorem dX12_longest_44 : decode cX12_longest 44 = .ok (.sipush 257, 3) := by decide +kernel
theorem dX12_longest_47 : decode cX12_longest 47 = .ok (.iload_n 1, 1) := by decide +kernel
theorem dX12_longest_48 : decode cX12_longest 48 = .ok (.imul, 1) := by decide +kernel
theorem dX12_longest_49 : decode cX12_longest 49 = .ok (.bipush 17, 2) := by decide +kernel
theorem dX12_longest_51 : decode cX12_longest 51 = .ok (.iadd, 1) := by decide +kernel
theorem dX12_longest_52 : decode cX12_longest 52 = .ok (.iaload, 1) := by decide +kernel
theorem dX12_longest_53 : decode cX12_longest 53 = .ok (.istore_n 3, 1) := by decide +kernel
theorem dX12_longest_54 : decode cX12_longest 54 = .ok (.iconst 0, 1) := by decide +kernel
theorem dX12_longest_55 : decode cX12_longest 55 = .ok (.istore 4, 2) := by decide +kernel
theorem dX12_longest_57 : decode cX12_longest 57 = .ok (.iconst (-1), 1) := by decide +kernel
theorem dX12_longest_58 : decode cX12_longest 58 = .ok (.istore 5, 2) := by decide +kernel
theorem dX12_longest_60 : decode cX12_longest 60 = .ok (.aload_n 0, 1) := by decide +kernel
theorem dX12_longest_61 : decode cX12_longest 61 = .ok (.iload_n 1, 1) := by decide +kernel
theorem dX12_longest_62 : decode cX12_longest 62 = .ok (.putfield 66, 3) := by decide +kernel
theorem dX12_longest_65 : decode cX12_longest 65 = .ok (.aload_n 0, 1) := by decide +kernel
theorem dX12_longest_66 : decode cX12_longest 66 = .ok (.iconst 0, 1) := by decide +kernel
theorem dX12_longest_67 : decode cX12_longest 67 = .ok (.putfield 332, 3) := by decide +kernel
theorem dX12_longest_70 : decode cX12_longest 70 = .ok (.iconst 0, 1) := by decide +kernel
theorem dX12_longest_71 : decode cX12_longest 71 = .ok (.istore 6, 2) := by decide +kernel
theorem dX12_longest_73 : decode cX12_longest 73 = .ok (.iload 6, 2) := by decide +kernel
theorem dX12_longest_75 : decode cX12_longest 75 = .ok (.iload_n 2, 1) := by decide +kernel
theorem dX12_longest_76 : decode cX12_longest 76 = .ok (.if_icmp .ge 68, 3) := by decide +kernel
theorem dX12_longest_79 : decode cX12_longest 79 = .ok (.aload_n 0, 1) := by decide +kernel
theorem dX12_longest_80 : decode cX12_longest 80 = .ok (.invokevirtual 341, 3) := by decide +kernel
theorem dX12_longest_83 : decode cX12_longest 83 = .ok (.aload_n 0, 1) := by decide +kernel
theorem dX12_longest_84 : decode cX12_longest 84 = .ok (.getfield 317, 3) := by decide +kernel
theorem dX12_longest_87 : decode cX12_longest 87 = .ok (.iload_n 1, 1) := by decide +kernel
theorem dX12_longest_88 : decode cX12_longest 88 = .ok (.if_icmp .eq 6, 3) := by decide +kernel
theorem dX12_longest_91 : decode cX12_longest 91 = .ok (.goto 47, 3) := by decide +kernel
theorem dX12_longest_94 : decode cX12_longest 94 = .ok (.iload_n 3, 1) := by decide +kernel
theorem dX12_longest_95 : decode cX12_longest 95 = .ok (.ifCond .le 9, 3) := by decide +kernel
theorem dX12_longest_98 : decode cX12_longest 98 = .ok (.iinc 3 (-1), 3) := by decide +kernel
theorem dX12_longest_101 : decode cX12_longest 101 = .ok (.goto 37, 3) := by decide +kernel
theorem dX12_longest_104 : decode cX12_longest 104 = .ok (.iload 5, 2) := by decide +kernel
theorem dX12_longest_106 : decode cX12_longest 106 = .ok (.aload_n 0, 1) := by decide +kernel
theorem dX12_longest_107 : decode cX12_longest 107 = .ok (.getfield 43, 3) := by decide +kernel
theorem dX12_longest_110 : decode cX12_longest 110 = .ok (.sipush 3084, 3) := by decide +kernel
theorem dX12_longest_113 : decode cX12_longest 113 = .ok (.iaload, 1) := by decide +kernel
theorem dX12_longest_114 : decode cX12_longest 114 = .ok (.iconst 1, 1) := by decide +kernel
theorem dX12_longest_115 : decode cX12_longest 115 = .ok (.isub, 1) := by decide +kernel
theorem dX12_longest_116 : decode cX12_longest 116 = .ok (.aload_n 0, 1) := by decide +kernel
theorem dX12_longest_117 : decode cX12_longest 117 = .ok (.getfield 69, 3) := by decide +kernel
theorem dX12_longest_120 : decode cX12_longest 120 = .ok (.iload 4, 2) := by decide +kernel
theorem dX12_longest_122 : decode cX12_longest 122 = .ok (.aload_n 0, 1) := by decide +kernel
theorem dX12_longest_123 : decode cX12_longest 123 = .ok (.getfield 69, 3) := by decide +kernel
theorem dX12_longest_126 : decode cX12_longest 126 = .ok (.arraylength, 1) := by decide +kernel
theorem dX12_longest_127 : decode cX12_longest 127 = .ok (.irem, 1) := by decide +kernel
theorem dX12_longest_128 : decode cX12_longest 128 = .ok (.iaload, 1) := by decide +kernel
theorem dX12_longest_129 : decode cX12_longest 129 = .ok (.isub, 1) := by decide +kernel
theorem dX12_longest_130 : decode cX12_longest 130 = .ok (.invokestatic 255, 3) := by decide +kernel
theorem dX12_longest_133 : decode cX12_longest 133 = .ok (.istore 5, 2) := by decide +kernel
theorem dX12_longest_135 : decode cX12_longest 135 = .ok (.iinc 4 1, 3) := by decide +kernel
theorem dX12_longest_138 : decode cX12_longest 138 = .ok (.iinc 6 1, 3) := by decide +kernel
theorem dX12_longest_141 : decode cX12_longest 141 = .ok (.goto (-68), 3) := by decide +kernel
theorem dX12_longest_144 : decode cX12_longest 144 = .ok (.aload_n 0, 1) := by decide +kernel
theorem dX12_longest_145 : decode cX12_longest 145 = .ok (.iconst (-1), 1) := by decide +kernel
theorem dX12_longest_146 : decode cX12_longest 146 = .ok (.putfield 66, 3) := by decide +kernel
theorem dX12_longest_149 : decode cX12_longest 149 = .ok (.aload_n 0, 1) := by decide +kernel
theorem dX12_longest_150 : decode cX12_longest 150 = .ok (.iload 5, 2) := by decide +kernel
theorem dX12_longest_152 : decode cX12_longest 152 = .ok (.invokevirtual 405, 3) := by decide +kernel
theorem dX12_longest_155 : decode cX12_longest 155 = .ok (.ireturn, 1) := by decide +kernel
theorem dX12_toShare_0 : decode cX12_toShare 0 = .ok (.aload_n 0, 1) := by decide +kernel
theorem dX12_toShare_1 : decode cX12_toShare 1 = .ok (.iconst 0, 1) := by decide +kernel
theorem dX12_toShare_2 : decode cX12_toShare 2 = .ok (.putfield 118, 3) := by decide +kernel
theorem dX12_toShare_5 : decode cX12_toShare 5 = .ok (.aload_n 0, 1) := by decide +kernel
theorem dX12_toShare_6 : decode cX12_toShare 6 = .ok (.iload_n 1, 1) := by decide +kernel
theorem dX12_toShare_7 : decode cX12_toShare 7 = .ok (.invokevirtual 360, 3) := by decide +kernel
theorem dX12_toShare_10 : decode cX12_toShare 10 = .ok (.ifCond .ne 9, 3) := by decide +kernel
theorem dX12_toShare_13 : decode cX12_toShare 13 = .ok (.aload_n 0, 1) := by decide +kernel
theorem dX12_toShare_14 : decode cX12_toShare 14 = .ok (.iconst 1, 1) := by decide +kernel
theorem dX12_toShare_15 : decode cX12_toShare 15 = .ok (.invokevirtual 219, 3) := by decide +kernel
theorem dX12_toShare_18 : decode cX12_toShare 18 = .ok (.ireturn, 1) := by decide +kernel
theorem dX12_toShare_19 : decode cX12_toShare 19 = .ok (.iload_n 2, 1) := by decide +kernel
theorem dX12_toShare_20 : decode cX12_toShare 20 = .ok (.iconst 1, 1) := by decide +kernel
theorem dX12_toShare_21 : decode cX12_toShare 21 = .ok (.sipush 999, 3) := by decide +kernel
theorem dX12_toShare_24 : decode cX12_toShare 24 = .ok (.invokestatic 356, 3) := by decide +kernel
theorem dX12_toShare_27 : decode cX12_toShare 27 = .ok (.ifCond .eq 14, 3) := by decide +kernel
theorem dX12_toShare_30 : decode cX12_toShare 30 = .ok (.iload_n 3, 1) := by decide +kernel
theorem dX12_toShare_31 : decode cX12_toShare 31 = .ok (.iconst 1, 1) := by decide +kernel
theorem dX12_toShare_32 : decode cX12_toShare 32 = .ok (.sipush 200, 3) := by decide +kernel
theorem dX12_toShare_35 : decode cX12_toShare 35 = .ok (.invokestatic 356, 3) := by decide +kernel
theorem dX12_toShare_38 : decode cX12_toShare 38 = .ok (.ifCond .ne 9, 3) := by decide +kernel
theorem dX12_toShare_41 : decode cX12_toShare 41 = .ok (.aload_n 0, 1) := by decide +kernel
theorem dX12_toShare_42 : decode cX12_toShare 42 = .ok (.iconst 2, 1) := by decide +kernel
theorem dX12_toShare_43 : decode cX12_toShare 43 = .ok (.invokevirtual 219, 3) := by decide +kernel
theorem dX12_toShare_46 : decode cX12_toShare 46 = .ok (.ireturn, 1) := by decide +kernel
theorem dX12_toShare_47 : decode cX12_toShare 47 = .ok (.aload_n 0, 1) := by decide +kernel
theorem dX12_toShare_48 : decode cX12_toShare 48 = .ok (.invokevirtual 402, 3) := by decide +kernel
theorem dX12_toShare_51 : decode cX12_toShare 51 = .ok (.iconst 1, 1) := by decide +kernel
theorem dX12_toShare_52 : decode cX12_toShare 52 = .ok (.istore 4, 2) := by decide +kernel
theorem dX12_toShare_54 : decode cX12_toShare 54 = .ok (.iload 4, 2) := by decide +kernel
theorem dX12_toShare_56 : decode cX12_toShare 56 = .ok (.bipush 100, 2) := by decide +kernel
theorem dX12_toShare_58 : decode cX12_toShare 58 = .ok (.if_icmp .gt 81, 3) := by decide +kernel
theorem dX12_toShare_61 : decode cX12_toShare 61 = .ok (.aload_n 0, 1) := by decide +kernel
theorem dX12_toShare_62 : decode cX12_toShare 62 = .ok (.getfield 43, 3) := by decide +kernel
theorem dX12_toShare_65 : decode cX12_toShare 65 = .ok (.sipush 257, 3) := by decide +kernel
theorem dX12_toShare_68 : decode cX12_toShare 68 = .ok (.iload_n 1, 1) := by decide +kernel
theorem dX12_toShare_69 : decode cX12_toShare 69 = .ok (.imul, 1) := by decide +kernel
theorem dX12_toShare_70 : decode cX12_toShare 70 = .ok (.bipush 12, 2) := by decide +kernel
theorem dX12_toShare_72 : decode cX12_toShare 72 = .ok (.iadd, 1) := by decide +kernel
theorem dX12_toShare_73 : decode cX12_toShare 73 = .ok (.iaload, 1) := by decide +kernel
theorem dX12_toShare_74 : decode cX12_toShare 74 = .ok (.istore 5, 2) := by decide +kernel
theorem dX12_toShare_76 : decode cX12_toShare 76 = .ok (.aload_n 0, 1) := by decide +kernel
theorem dX12_toShare_77 : decode cX12_toShare 77 = .ok (.iload_n 1, 1) := by decide +kernel
theorem dX12_toShare_78 : decode cX12_toShare 78 = .ok (.iconst 1, 1) := by decide +kernel
theorem dX12_toShare_79 : decode cX12_toShare 79 = .ok (.iload 4, 2) := by decide +kernel
theorem dX12_toShare_81 : decode cX12_toShare 81 = .ok (.iconst 0, 1) := by decide +kernel
theorem dX12_toShare_82 : decode cX12_toShare 82 = .ok (.iload 4, 2) := by decide +kernel
theorem dX12_toShare_84 : decode cX12_toShare 84 = .ok (.invokevirtual 382, 3) := by decide +kernel
theorem dX12_toShare_87 : decode cX12_toShare 87 = .ok (.aload_n 0, 1) := by decide +kernel
theorem dX12_toShare_88 : decode cX12_toShare 88 = .ok (.iload_n 3, 1) := by decide +kernel
theorem dX12_toShare_89 : decode cX12_toShare 89 = .ok (.invokevirtual 375, 3) := by decide +kernel
theorem dX12_toShare_92 : decode cX12_toShare 92 = .ok (.aload_n 0, 1) := by decide +kernel
theorem dX12_toShare_93 : decode cX12_toShare 93 = .ok (.getfield 43, 3) := by decide +kernel
theorem dX12_toShare_96 : decode cX12_toShare 96 = .ok (.sipush 257, 3) := by decide +kernel
theorem dX12_toShare_99 : decode cX12_toShare 99 = .ok (.iload_n 1, 1) := by decide +kernel
theorem dX12_toShare_100 : decode cX12_toShare 100 = .ok (.imul, 1) := by decide +kernel
theorem dX12_toShare_101 : decode cX12_toShare 101 = .ok (.bipush 12, 2) := by decide +kernel
theorem dX12_toShare_103 : decode cX12_toShare 103 = .ok (.iadd, 1) := by decide +kernel
theorem dX12_toShare_104 : decode cX12_toShare 104 = .ok (.iaload, 1) := by decide +kernel
theorem dX12_toShare_105 : decode cX12_toShare 105 = .ok (.iload 5, 2) := by decide +kernel
theorem dX12_toShare_107 : decode cX12_toShare 107 = .ok (.isub, 1) := by decide +kernel
theorem dX12_toShare_108 : decode cX12_toShare 108 = .ok (.iload_n 2, 1) := by decide +kernel
theorem dX12_toShare_109 : decode cX12_toShare 109 = .ok (.if_icmp .lt 7, 3) := by decide +kernel
theorem dX12_toShare_112 : decode cX12_toShare 112 = .ok (.iconst 1, 1) := by decide +kernel
theorem dX12_toShare_113 : decode cX12_toShare 113 = .ok (.goto 4, 3) := by decide +kernel
theorem dX12_toShare_116 : decode cX12_toShare 116 = .ok (.iconst 0, 1) := by decide +kernel
theorem dX12_toShare_117 : decode cX12_toShare 117 = .ok (.istore 6, 2) := by decide +kernel
theorem dX12_toShare_119 : decode cX12_toShare 119 = .ok (.aload_n 0, 1) := by decide +kernel
theorem dX12_toShare_120 : decode cX12_toShare 120 = .ok (.iconst 0, 1) := by decide +kernel
theorem dX12_toShare_121 : decode cX12_toShare 121 = .ok (.invokevirtual 405, 3) := by decide +kernel
theorem dX12_toShare_124 : decode cX12_toShare 124 = .ok (.pop, 1) := by decide +kernel
theorem dX12_toShare_125 : decode cX12_toShare 125 = .ok (.iload 6, 2) := by decide +kernel
theorem dX12_toShare_127 : decode cX12_toShare 127 = .ok (.ifCond .eq 6, 3) := by decide +kernel
theorem dX12_toShare_130 : decode cX12_toShare 130 = .ok (.iload 4, 2) := by decide +kernel
theorem dX12_toShare_132 : decode cX12_toShare 132 = .ok (.ireturn, 1) := by decide +kernel
theorem dX12_toShare_133 : decode cX12_toShare 133 = .ok (.iinc 4 1, 3) := by decide +kernel
theorem dX12_toShare_136 : decode cX12_toShare 136 = .ok (.goto (-82), 3) := by decide +kernel
theorem dX12_toShare_139 : decode cX12_toShare 139 = .ok (.iconst (-1), 1) := by decide +kernel
theorem dX12_toShare_140 : decode cX12_toShare 140 = .ok (.ireturn, 1) := by decide +kernel
theorem dX12_toCap_0 : decode cX12_toCap 0 = .ok (.aload_n 0, 1) := by decide +kernel
theorem dX12_toCap_1 : decode cX12_toCap 1 = .ok (.iconst 0, 1) := by decide +kernel
theorem dX12_toCap_2 : decode cX12_toCap 2 = .ok (.putfield 118, 3) := by decide +kernel
theorem dX12_toCap_5 : decode cX12_toCap 5 = .ok (.aload_n 0, 1) := by decide +kernel
theorem dX12_toCap_6 : decode cX12_toCap 6 = .ok (.iload_n 1, 1) := by decide +kernel
theorem dX12_toCap_7 : decode cX12_toCap 7 = .ok (.invokevirtual 360, 3) := by decide +kernel
theorem dX12_toCap_10 : decode cX12_toCap 10 = .ok (.ifCond .eq 11, 3) := by decide +kernel
theorem dX12_toCap_13 : decode cX12_toCap 13 = .ok (.aload_n 0, 1) := by decide +kernel
theorem dX12_toCap_14 : decode cX12_toCap 14 = .ok (.iload_n 2, 1) := by decide +kernel
theorem dX12_toCap_15 : decode cX12_toCap 15 = .ok (.invokevirtual 408, 3) := by decide +kernel
theorem dX12_toCap_18 : decode cX12_toCap 18 = .ok (.ifCond .ne 9, 3) := by decide +kernel
theorem dX12_toCap_21 : decode cX12_toCap 21 = .ok (.aload_n 0, 1) := by decide +kernel
theorem dX12_toCap_22 : decode cX12_toCap 22 = .ok (.iconst 1, 1) := by decide +kernel
theorem dX12_toCap_23 : decode cX12_toCap 23 = .ok (.invokevirtual 219, 3) := by decide +kernel
theorem dX12_toCap_26 : decode cX12_toCap 26 = .ok (.ireturn, 1) := by decide +kernel
theorem dX12_toCap_27 : decode cX12_toCap 27 = .ok (.iload_n 3, 1) := by decide +kernel
theorem dX12_toCap_28 : decode cX12_toCap 28 = .ok (.iconst 0, 1) := by decide +kernel
theorem dX12_toCap_29 : decode cX12_toCap 29 = .ok (.sipush 399, 3) := by decide +kernel
theorem dX12_toCap_32 : decode cX12_toCap 32 = .ok (.invokestatic 356, 3) := by decide +kernel
theorem dX12_toCap_35 : decode cX12_toCap 35 = .ok (.ifCond .ne 9, 3) := by decide +kernel
theorem dX12_toCap_38 : decode cX12_toCap 38 = .ok (.aload_n 0, 1) := by decide +kernel
theorem dX12_toCap_39 : decode cX12_toCap 39 = .ok (.iconst 2, 1) := by decide +kernel
theorem dX12_toCap_40 : decode cX12_toCap 40 = .ok (.invokevirtual 219, 3) := by decide +kernel
theorem dX12_toCap_43 : decode cX12_toCap 43 = .ok (.ireturn, 1) := by decide +kernel
theorem dX12_toCap_44 : decode cX12_toCap 44 = .ok (.aload_n 0, 1) := by decide +kernel
theorem dX12_toCap_45 : decode cX12_toCap 45 = .ok (.invokevirtual 402, 3) := by decide +kernel
theorem dX12_toCap_48 : decode cX12_toCap 48 = .ok (.aload_n 0, 1) := by decide +kernel
theorem dX12_toCap_49 : decode cX12_toCap 49 = .ok (.getfield 43, 3) := by decide +kernel
theorem dX12_toCap_52 : decode cX12_toCap 52 = .ok (.sipush 257, 3) := by decide +kernel
theorem dX12_toCap_55 : decode cX12_toCap 55 = .ok (.iload_n 2, 1) := by decide +kernel
theorem dX12_toCap_56 : decode cX12_toCap 56 = .ok (.imul, 1) := by decide +kernel
theorem dX12_toCap_57 : decode cX12_toCap 57 = .ok (.bipush 17, 2) := by decide +kernel
theorem dX12_toCap_59 : decode cX12_toCap 59 = .ok (.iadd, 1) := by decide +kernel
theorem dX12_toCap_60 : decode cX12_toCap 60 = .ok (.iaload, 1) := by decide +kernel
theorem dX12_toCap_61 : decode cX12_toCap 61 = .ok (.istore 4, 2) := by decide +kernel
theorem dX12_toCap_63 : decode cX12_toCap 63 = .ok (.bipush 100, 2) := by decide +kernel
theorem dX12_toCap_65 : decode cX12_toCap 65 = .ok (.istore 5, 2) := by decide +kernel
theorem dX12_toCap_67 : decode cX12_toCap 67 = .ok (.iload 5, 2) := by decide +kernel
theorem dX12_toCap_69 : decode cX12_toCap 69 = .ok (.ifCond .le 48, 3) := by decide +kernel
theorem dX12_toCap_72 : decode cX12_toCap 72 = .ok (.aload_n 0, 1) := by decide +kernel
theorem dX12_toCap_73 : decode cX12_toCap 73 = .ok (.iload_n 1, 1) := by decide +kernel
theorem dX12_toCap_74 : decode cX12_toCap 74 = .ok (.iconst 2, 1) := by decide +kernel
theorem dX12_toCap_75 : decode cX12_toCap 75 = .ok (.iload 5, 2) := by decide +kernel
theorem dX12_toCap_77 : decode cX12_toCap 77 = .ok (.iconst 0, 1) := by decide +kernel
theorem dX12_toCap_78 : decode cX12_toCap 78 = .ok (.iload 5, 2) := by decide +kernel
theorem dX12_toCap_80 : decode cX12_toCap 80 = .ok (.invokevirtual 382, 3) := by decide +kernel
theorem dX12_toCap_83 : decode cX12_toCap 83 = .ok (.aload_n 0, 1) := by decide +kernel
theorem dX12_toCap_84 : decode cX12_toCap 84 = .ok (.aload_n 0, 1) := by decide +kernel
theorem dX12_toCap_85 : decode cX12_toCap 85 = .ok (.iload_n 2, 1) := by decide +kernel
theorem dX12_toCap_86 : decode cX12_toCap 86 = .ok (.iload 4, 2) := by decide +kernel
theorem dX12_toCap_88 : decode cX12_toCap 88 = .ok (.invokevirtual 411, 3) := by decide +kernel
theorem dX12_toCap_91 : decode cX12_toCap 91 = .ok (.invokevirtual 405, 3) := by decide +kernel
theorem dX12_toCap_94 : decode cX12_toCap 94 = .ok (.istore 6, 2) := by decide +kernel
theorem dX12_toCap_96 : decode cX12_toCap 96 = .ok (.iload 6, 2) := by decide +kernel
theorem dX12_toCap_98 : decode cX12_toCap 98 = .ok (.iconst (-1), 1) := by decide +kernel
theorem dX12_toCap_99 : decode cX12_toCap 99 = .ok (.if_icmp .eq 12, 3) := by decide +kernel
theorem dX12_toCap_102 : decode cX12_toCap 102 = .ok (.iload 6, 2) := by decide +kernel
theorem dX12_toCap_104 : decode cX12_toCap 104 = .ok (.iload_n 3, 1) := by decide +kernel
theorem dX12_toCap_105 : decode cX12_toCap 105 = .ok (.if_icmp .gt 6, 3) := by decide +kernel
theorem dX12_toCap_108 : decode cX12_toCap 108 = .ok (.iload 5, 2) := by decide +kernel
theorem dX12_toCap_110 : decode cX12_toCap 110 = .ok (.ireturn, 1) := by decide +kernel
theorem dX12_toCap_111 : decode cX12_toCap 111 = .ok (.iinc 5 (-1), 3) := by decide +kernel
theorem dX12_toCap_114 : decode cX12_toCap 114 = .ok (.goto (-47), 3) := by decide +kernel
theorem dX12_toCap_117 : decode cX12_toCap 117 = .ok (.iconst (-1), 1) := by decide +kernel
theorem dX12_toCap_118 : decode cX12_toCap 118 = .ok (.ireturn, 1) := by decide +kernel
theorem dX12_blocked_0 : decode cX12_blocked 0 = .ok (.aload_n 0, 1) := by decide +kernel
theorem dX12_blocked_1 : decode cX12_blocked 1 = .ok (.iconst 0, 1) := by decide +kernel
theorem dX12_blocked_2 : decode cX12_blocked 2 = .ok (.putfield 118, 3) := by decide +kernel
theorem dX12_blocked_5 : decode cX12_blocked 5 = .ok (.aload_n 0, 1) := by decide +kernel
theorem dX12_blocked_6 : decode cX12_blocked 6 = .ok (.iload_n 1, 1) := by decide +kernel
theorem dX12_blocked_7 : decode cX12_blocked 7 = .ok (.invokevirtual 408, 3) := by decide +kernel
theorem dX12_blocked_10 : decode cX12_blocked 10 = .ok (.ifCond .eq 11, 3) := by decide +kernel
theorem dX12_blocked_13 : decode cX12_blocked 13 = .ok (.aload_n 0, 1) := by decide +kernel
theorem dX12_blocked_14 : decode cX12_blocked 14 = .ok (.iload_n 2, 1) := by decide +kernel
theorem dX12_blocked_15 : decode cX12_blocked 15 = .ok (.invokevirtual 366, 3) := by decide +kernel
theorem dX12_blocked_18 : decode cX12_blocked 18 = .ok (.ifCond .ne 9, 3) := by decide +kernel
theorem dX12_blocked_21 : decode cX12_blocked 21 = .ok (.aload_n 0, 1) := by decide +kernel
theorem dX12_blocked_22 : decode cX12_blocked 22 = .ok (.iconst 1, 1) := by decide +kernel
theorem dX12_blocked_23 : decode cX12_blocked 23 = .ok (.invokevirtual 219, 3) := by decide +kernel
theorem dX12_blocked_26 : decode cX12_blocked 26 = .ok (.ireturn, 1) := by decide +kernel
theorem dX12_blocked_27 : decode cX12_blocked 27 = .ok (.aload_n 0, 1) := by decide +kernel
theorem dX12_blocked_28 : decode cX12_blocked 28 = .ok (.invokevirtual 402, 3) := by decide +kernel
theorem dX12_blocked_31 : decode cX12_blocked 31 = .ok (.aload_n 0, 1) := by decide +kernel
theorem dX12_blocked_32 : decode cX12_blocked 32 = .ok (.getfield 43, 3) := by decide +kernel
theorem dX12_blocked_35 : decode cX12_blocked 35 = .ok (.sipush 257, 3) := by decide +kernel
theorem dX12_blocked_38 : decode cX12_blocked 38 = .ok (.iload_n 1, 1) := by decide +kernel
theorem dX12_blocked_39 : decode cX12_blocked 39 = .ok (.imul, 1) := by decide +kernel
theorem dX12_blocked_40 : decode cX12_blocked 40 = .ok (.bipush 17, 2) := by decide +kernel
theorem dX12_blocked_42 : decode cX12_blocked 42 = .ok (.iadd, 1) := by decide +kernel
theorem dX12_blocked_43 : decode cX12_blocked 43 = .ok (.iaload, 1) := by decide +kernel
theorem dX12_blocked_44 : decode cX12_blocked 44 = .ok (.istore_n 3, 1) := by decide +kernel
theorem dX12_blocked_45 : decode cX12_blocked 45 = .ok (.iconst 0, 1) := by decide +kernel
theorem dX12_blocked_46 : decode cX12_blocked 46 = .ok (.istore 4, 2) := by decide +kernel
theorem dX12_blocked_48 : decode cX12_blocked 48 = .ok (.iconst 0, 1) := by decide +kernel
theorem dX12_blocked_49 : decode cX12_blocked 49 = .ok (.istore 5, 2) := by decide +kernel
theorem dX12_blocked_51 : decode cX12_blocked 51 = .ok (.iload 5, 2) := by decide +kernel
theorem dX12_blocked_53 : decode cX12_blocked 53 = .ok (.sipush 400, 3) := by decide +kernel
theorem dX12_blocked_56 : decode cX12_blocked 56 = .ok (.if_icmp .ge 58, 3) := by decide +kernel
theorem dX12_blocked_59 : decode cX12_blocked 59 = .ok (.iload_n 3, 1) := by decide +kernel
theorem dX12_blocked_60 : decode cX12_blocked 60 = .ok (.ifCond .le 54, 3) := by decide +kernel
theorem dX12_blocked_63 : decode cX12_blocked 63 = .ok (.aload_n 0, 1) := by decide +kernel
theorem dX12_blocked_64 : decode cX12_blocked 64 = .ok (.invokevirtual 341, 3) := by decide +kernel
theorem dX12_blocked_67 : decode cX12_blocked 67 = .ok (.iload_n 3, 1) := by decide +kernel
theorem dX12_blocked_68 : decode cX12_blocked 68 = .ok (.aload_n 0, 1) := by decide +kernel
theorem dX12_blocked_69 : decode cX12_blocked 69 = .ok (.getfield 317, 3) := by decide +kernel
theorem dX12_blocked_72 : decode cX12_blocked 72 = .ok (.iload_n 1, 1) := by decide +kernel
theorem dX12_blocked_73 : decode cX12_blocked 73 = .ok (.if_icmp .ne 7, 3) := by decide +kernel
theorem dX12_blocked_76 : decode cX12_blocked 76 = .ok (.iconst 1, 1) := by decide +kernel
theorem dX12_blocked_77 : decode cX12_blocked 77 = .ok (.goto 4, 3) := by decide +kernel
theorem dX12_blocked_80 : decode cX12_blocked 80 = .ok (.iconst 0, 1) := by decide +kernel
theorem dX12_blocked_81 : decode cX12_blocked 81 = .ok (.isub, 1) := by decide +kernel
theorem dX12_blocked_82 : decode cX12_blocked 82 = .ok (.istore_n 3, 1) := by decide +kernel
theorem dX12_blocked_83 : decode cX12_blocked 83 = .ok (.iload 4, 2) := by decide +kernel
theorem dX12_blocked_85 : decode cX12_blocked 85 = .ok (.aload_n 0, 1) := by decide +kernel
theorem dX12_blocked_86 : decode cX12_blocked 86 = .ok (.getfield 317, 3) := by decide +kernel
theorem dX12_blocked_89 : decode cX12_blocked 89 = .ok (.iload_n 2, 1) := by decide +kernel
theorem dX12_blocked_90 : decode cX12_blocked 90 = .ok (.if_icmp .ne 14, 3) := by decide +kernel
theorem dX12_blocked_93 : decode cX12_blocked 93 = .ok (.iload_n 3, 1) := by decide +kernel
theorem dX12_blocked_94 : decode cX12_blocked 94 = .ok (.ifCond .le 10, 3) := by decide +kernel
theorem dX12_blocked_97 : decode cX12_blocked 97 = .ok (.aload_n 0, 1) := by decide +kernel
theorem dX12_blocked_98 : decode cX12_blocked 98 = .ok (.getfield 320, 3) := by decide +kernel
theorem dX12_blocked_101 : decode cX12_blocked 101 = .ok (.goto 4, 3) := by decide +kernel
theorem dX12_blocked_104 : decode cX12_blocked 104 = .ok (.iconst 0, 1) := by decide +kernel
theorem dX12_blocked_105 : decode cX12_blocked 105 = .ok (.iadd, 1) := by decide +kernel
theorem dX12_blocked_106 : decode cX12_blocked 106 = .ok (.istore 4, 2) := by decide +kernel
theorem dX12_blocked_108 : decode cX12_blocked 108 = .ok (.iinc 5 1, 3) := by decide +kernel
theorem dX12_blocked_111 : decode cX12_blocked 111 = .ok (.goto (-60), 3) := by decide +kernel
theorem dX12_blocked_114 : decode cX12_blocked 114 = .ok (.aload_n 0, 1) := by decide +kernel
theorem dX12_blocked_115 : decode cX12_blocked 115 = .ok (.iload 4, 2) := by decide +kernel
theorem dX12_blocked_117 : decode cX12_blocked 117 = .ok (.invokevirtual 405, 3) := by decide +kernel
theorem dX12_blocked_120 : decode cX12_blocked 120 = .ok (.ireturn, 1) := by decide +kernel
theorem dX12_spreadNow_0 : decode cX12_spreadNow 0 = .ok (.aload_n 0, 1) := by decide +kernel
theorem dX12_spreadNow_1 : decode cX12_spreadNow 1 = .ok (.iload_n 1, 1) := by decide +kernel
theorem dX12_spreadNow_2 : decode cX12_spreadNow 2 = .ok (.iconst (-1), 1) := by decide +kernel
theorem dX12_spreadNow_3 : decode cX12_spreadNow 3 = .ok (.invokevirtual 271, 3) := by decide +kernel
theorem dX12_spreadNow_6 : decode cX12_spreadNow 6 = .ok (.ifCond .eq 15, 3) := by decide +kernel
theorem dX12_spreadNow_9 : decode cX12_spreadNow 9 = .ok (.aload_n 0, 1) := by decide +kernel
theorem dX12_spreadNow_10 : decode cX12_spreadNow 10 = .ok (.getfield 268, 3) := by decide +kernel
theorem dX12_spreadNow_13 : decode cX12_spreadNow 13 = .ok (.aload_n 0, 1) := by decide +kernel
theorem dX12_spreadNow_14 : decode cX12_spreadNow 14 = .ok (.getfield 265, 3) := by decide +kernel
theorem dX12_spreadNow_17 : decode cX12_spreadNow 17 = .ok (.isub, 1) := by decide +kernel
theorem dX12_spreadNow_18 : decode cX12_spreadNow 18 = .ok (.goto 4, 3) := by decide +kernel
theorem dX12_spreadNow_21 : decode cX12_spreadNow 21 = .ok (.iconst 0, 1) := by decide +kernel
theorem dX12_spreadNow_22 : decode cX12_spreadNow 22 = .ok (.ireturn, 1) := by decide +kernel
theorem dX12_spread_0 : decode cX12_spread 0 = .ok (.aload_n 0, 1) := by decide +kernel
theorem dX12_spread_1 : decode cX12_spread 1 = .ok (.iconst 0, 1) := by decide +kernel
theorem dX12_spread_2 : decode cX12_spread 2 = .ok (.putfield 118, 3) := by decide +kernel
theorem dX12_spread_5 : decode cX12_spread 5 = .ok (.iload_n 1, 1) := by decide +kernel
theorem dX12_spread_6 : decode cX12_spread 6 = .ok (.iconst (-1), 1) := by decide +kernel
theorem dX12_spread_7 : decode cX12_spread 7 = .ok (.if_icmp .eq 17, 3) := by decide +kernel
theorem dX12_spread_10 : decode cX12_spread 10 = .ok (.aload_n 0, 1) := by decide +kernel
theorem dX12_spread_11 : decode cX12_spread 11 = .ok (.iload_n 1, 1) := by decide +kernel
theorem dX12_spread_12 : decode cX12_spread 12 = .ok (.invokevirtual 360, 3) := by decide +kernel
theorem dX12_spread_15 : decode cX12_spread 15 = .ok (.ifCond .ne 9, 3) := by decide +kernel
theorem dX12_spread_18 : decode cX12_spread 18 = .ok (.aload_n 0, 1) := by decide +kernel
theorem dX12_spread_19 : decode cX12_spread 19 = .ok (.iconst 1, 1) := by decide +kernel
theorem dX12_spread_20 : decode cX12_spread 20 = .ok (.invokevirtual 219, 3) := by decide +kernel
theorem dX12_spread_23 : decode cX12_spread 23 = .ok (.ireturn, 1) := by decide +kernel
theorem dX12_spread_24 : decode cX12_spread 24 = .ok (.iload_n 2, 1) := by decide +kernel
theorem dX12_spread_25 : decode cX12_spread 25 = .ok (.iconst 0, 1) := by decide +kernel
theorem dX12_spread_26 : decode cX12_spread 26 = .ok (.sipush 400, 3) := by decide +kernel
theorem dX12_spread_29 : decode cX12_spread 29 = .ok (.invokestatic 356, 3) := by decide +kernel
theorem dX12_spread_32 : decode cX12_spread 32 = .ok (.ifCond .ne 9, 3) := by decide +kernel
theorem dX12_spread_35 : decode cX12_spread 35 = .ok (.aload_n 0, 1) := by decide +kernel
theorem dX12_spread_36 : decode cX12_spread 36 = .ok (.iconst 2, 1) := by decide +kernel
theorem dX12_spread_37 : decode cX12_spread 37 = .ok (.invokevirtual 219, 3) := by decide +kernel
theorem dX12_spread_40 : decode cX12_spread 40 = .ok (.ireturn, 1) := by decide +kernel
theorem dX12_spread_41 : decode cX12_spread 41 = .ok (.aload_n 0, 1) := by decide +kernel
theorem dX12_spread_42 : decode cX12_spread 42 = .ok (.invokevirtual 402, 3) := by decide +kernel
theorem dX12_spread_45 : decode cX12_spread 45 = .ok (.aload_n 0, 1) := by decide +kernel
theorem dX12_spread_46 : decode cX12_spread 46 = .ok (.iload_n 1, 1) := by decide +kernel
theorem dX12_spread_47 : decode cX12_spread 47 = .ok (.invokevirtual 414, 3) := by decide +kernel
theorem dX12_spread_50 : decode cX12_spread 50 = .ok (.istore_n 3, 1) := by decide +kernel
theorem dX12_spread_51 : decode cX12_spread 51 = .ok (.iconst 0, 1) := by decide +kernel
theorem dX12_spread_52 : decode cX12_spread 52 = .ok (.istore 4, 2) := by decide +kernel
theorem dX12_spread_54 : decode cX12_spread 54 = .ok (.iload 4, 2) := by decide +kernel
theorem dX12_spread_56 : decode cX12_spread 56 = .ok (.iload_n 2, 1) := by decide +kernel
theorem dX12_spread_57 : decode cX12_spread 57 = .ok (.if_icmp .ge 23, 3) := by decide +kernel
theorem dX12_spread_60 : decode cX12_spread 60 = .ok (.aload_n 0, 1) := by decide +kernel
theorem dX12_spread_61 : decode cX12_spread 61 = .ok (.invokevirtual 341, 3) := by decide +kernel
theorem dX12_spread_64 : decode cX12_spread 64 = .ok (.iload_n 3, 1) := by decide +kernel
theorem dX12_spread_65 : decode cX12_spread 65 = .ok (.aload_n 0, 1) := by decide +kernel
theorem dX12_spread_66 : decode cX12_spread 66 = .ok (.iload_n 1, 1) := by decide +kernel
theorem dX12_spread_67 : decode cX12_spread 67 = .ok (.invokevirtual 414, 3) := by decide +kernel
theorem dX12_spread_70 : decode cX12_spread 70 = .ok (.invokestatic 255, 3) := by decide +kernel
theorem dX12_spread_73 : decode cX12_spread 73 = .ok (.istore_n 3, 1) := by decide +kernel
theorem dX12_spread_74 : decode cX12_spread 74 = .ok (.iinc 4 1, 3) := by decide +kernel
theorem dX12_spread_77 : decode cX12_spread 77 = .ok (.goto (-23), 3) := by decide +kernel
theorem dX12_spread_80 : decode cX12_spread 80 = .ok (.aload_n 0, 1) := by decide +kernel
theorem dX12_spread_81 : decode cX12_spread 81 = .ok (.iload_n 3, 1) := by decide +kernel
theorem dX12_spread_82 : decode cX12_spread 82 = .ok (.invokevirtual 405, 3) := by decide +kernel
theorem dX12_spread_85 : decode cX12_spread 85 = .ok (.ireturn, 1) := by decide +kernel
theorem dX12_note_0 : decode cX12_note 0 = .ok (.aload_n 0, 1) := by decide +kernel
theorem dX12_note_1 : decode cX12_note 1 = .ok (.iconst 0, 1) := by decide +kernel
theorem dX12_note_2 : decode cX12_note 2 = .ok (.putfield 118, 3) := by decide +kernel
theorem dX12_note_5 : decode cX12_note 5 = .ok (.aload_n 0, 1) := by decide +kernel
theorem dX12_note_6 : decode cX12_note 6 = .ok (.getfield 235, 3) := by decide +kernel
theorem dX12_note_9 : decode cX12_note 9 = .ok (.bipush 8, 2) := by decide +kernel
theorem dX12_note_11 : decode cX12_note 11 = .ok (.if_icmp .eq 32, 3) := by decide +kernel
theorem dX12_note_14 : decode cX12_note 14 = .ok (.aload_n 0, 1) := by decide +kernel
theorem dX12_note_15 : decode cX12_note 15 = .ok (.iload_n 1, 1) := by decide +kernel
theorem dX12_note_16 : decode cX12_note 16 = .ok (.invokevirtual 360, 3) := by decide +kernel
theorem dX12_note_19 : decode cX12_note 19 = .ok (.ifCond .eq 24, 3) := by decide +kernel
theorem dX12_note_22 : decode cX12_note 22 = .ok (.iload_n 2, 1) := by decide +kernel
theorem dX12_note_23 : decode cX12_note 23 = .ok (.iconst 0, 1) := by decide +kernel
theorem dX12_note_24 : decode cX12_note 24 = .ok (.bipush 100, 2) := by decide +kernel
theorem dX12_note_26 : decode cX12_note 26 = .ok (.invokestatic 356, 3) := by decide +kernel
theorem dX12_note_29 : decode cX12_note 29 = .ok (.ifCond .eq 14, 3) := by decide +kernel
theorem dX12_note_32 : decode cX12_note 32 = .ok (.iload_n 3, 1) := by decide +kernel
theorem dX12_note_33 : decode cX12_note 33 = .ok (.iconst 0, 1) := by decide +kernel
theorem dX12_note_34 : decode cX12_note 34 = .ok (.sipush 9999, 3) := by decide +kernel
theorem dX12_note_37 : decode cX12_note 37 = .ok (.invokestatic 356, 3) := by decide +kernel
theorem dX12_note_40 : decode cX12_note 40 = .ok (.ifCond .ne 9, 3) := by decide +kernel
theorem dX12_note_43 : decode cX12_note 43 = .ok (.aload_n 0, 1) := by decide +kernel
theorem dX12_note_44 : decode cX12_note 44 = .ok (.iconst 2, 1) := by decide +kernel
theorem dX12_note_45 : decode cX12_note 45 = .ok (.invokevirtual 369, 3) := by decide +kernel
theorem dX12_note_48 : decode cX12_note 48 = .ok (.ireturn, 1) := by decide +kernel
theorem dX12_note_49 : decode cX12_note 49 = .ok (.aload_n 0, 1) := by decide +kernel
theorem dX12_note_50 : decode cX12_note 50 = .ok (.getfield 79, 3) := by decide +kernel
theorem dX12_note_53 : decode cX12_note 53 = .ok (.aload_n 0, 1) := by decide +kernel
theorem dX12_note_54 : decode cX12_note 54 = .ok (.getfield 235, 3) := by decide +kernel
theorem dX12_note_57 : decode cX12_note 57 = .ok (.iload_n 1, 1) := by decide +kernel
theorem dX12_note_58 : decode cX12_note 58 = .ok (.iastore, 1) := by decide +kernel
theorem dX12_note_59 : decode cX12_note 59 = .ok (.aload_n 0, 1) := by decide +kernel
theorem dX12_note_60 : decode cX12_note 60 = .ok (.getfield 82, 3) := by decide +kernel
theorem dX12_note_63 : decode cX12_note 63 = .ok (.aload_n 0, 1) := by decide +kernel
theorem dX12_note_64 : decode cX12_note 64 = .ok (.getfield 235, 3) := by decide +kernel
theorem dX12_note_67 : decode cX12_note 67 = .ok (.iload_n 2, 1) := by decide +kernel
theorem dX12_note_68 : decode cX12_note 68 = .ok (.iastore, 1) := by decide +kernel
theorem dX12_note_69 : decode cX12_note 69 = .ok (.aload_n 0, 1) := by decide +kernel
theorem dX12_note_70 : decode cX12_note 70 = .ok (.getfield 85, 3) := by decide +kernel
theorem dX12_note_73 : decode cX12_note 73 = .ok (.aload_n 0, 1) := by decide +kernel
theorem dX12_note_74 : decode cX12_note 74 = .ok (.getfield 235, 3) := by decide +kernel
theorem dX12_note_77 : decode cX12_note 77 = .ok (.iload_n 3, 1) := by decide +kernel
theorem dX12_note_78 : decode cX12_note 78 = .ok (.iastore, 1) := by decide +kernel
theorem dX12_note_79 : decode cX12_note 79 = .ok (.aload_n 0, 1) := by decide +kernel
theorem dX12_note_80 : decode cX12_note 80 = .ok (.dup, 1) := by decide +kernel
theorem dX12_note_81 : decode cX12_note 81 = .ok (.getfield 235, 3) := by decide +kernel
theorem dX12_note_84 : decode cX12_note 84 = .ok (.iconst 1, 1) := by decide +kernel
theorem dX12_note_85 : decode cX12_note 85 = .ok (.iadd, 1) := by decide +kernel
theorem dX12_note_86 : decode cX12_note 86 = .ok (.putfield 235, 3) := by decide +kernel
theorem dX12_note_89 : decode cX12_note 89 = .ok (.aload_n 0, 1) := by decide +kernel
theorem dX12_note_90 : decode cX12_note 90 = .ok (.getfield 235, 3) := by decide +kernel
theorem dX12_note_93 : decode cX12_note 93 = .ok (.ireturn, 1) := by decide +kernel
theorem dX12_forget_0 : decode cX12_forget 0 = .ok (.aload_n 0, 1) := by decide +kernel
theorem dX12_forget_1 : decode cX12_forget 1 = .ok (.iconst 0, 1) := by decide +kernel
theorem dX12_forget_2 : decode cX12_forget 2 = .ok (.putfield 118, 3) := by decide +kernel
theorem dX12_forget_5 : decode cX12_forget 5 = .ok (.aload_n 0, 1) := by decide +kernel
theorem dX12_forget_6 : decode cX12_forget 6 = .ok (.iconst 0, 1) := by decide +kernel
theorem dX12_forget_7 : decode cX12_forget 7 = .ok (.putfield 235, 3) := by decide +kernel
theorem dX12_forget_10 : decode cX12_forget 10 = .ok (.return_, 1) := by decide +kernel
theorem dX12_isAsNoted_0 : decode cX12_isAsNoted 0 = .ok (.iconst 1, 1) := by decide +kernel
theorem dX12_isAsNoted_1 : decode cX12_isAsNoted 1 = .ok (.istore_n 1, 1) := by decide +kernel
theorem dX12_isAsNoted_2 : decode cX12_isAsNoted 2 = .ok (.iconst 0, 1) := by decide +kernel
theorem dX12_isAsNoted_3 : decode cX12_isAsNoted 3 = .ok (.istore_n 2, 1) := by decide +kernel
theorem dX12_isAsNoted_4 : decode cX12_isAsNoted 4 = .ok (.iload_n 2, 1) := by decide +kernel
theorem dX12_isAsNoted_5 : decode cX12_isAsNoted 5 = .ok (.bipush 100, 2) := by decide +kernel
theorem dX12_isAsNoted_7 : decode cX12_isAsNoted 7 = .ok (.if_icmp .gt 137, 3) := by decide +kernel
theorem dX12_isAsNoted_10 : decode cX12_isAsNoted 10 = .ok (.iconst 0, 1) := by decide +kernel
theorem dX12_isAsNoted_11 : decode cX12_isAsNoted 11 = .ok (.istore_n 3, 1) := by decide +kernel
theorem dX12_isAsNoted_12 : decode cX12_isAsNoted 12 = .ok (.iload_n 3, 1) := by decide +kernel
theorem dX12_isAsNoted_13 : decode cX12_isAsNoted 13 = .ok (.aload_n 0, 1) := by decide +kernel
theorem dX12_isAsNoted_14 : decode cX12_isAsNoted 14 = .ok (.getfield 235, 3) := by decide +kernel
theorem dX12_isAsNoted_17 : decode cX12_isAsNoted 17 = .ok (.if_icmp .ge 68, 3) := by decide +kernel
theorem dX12_isAsNoted_20 : decode cX12_isAsNoted 20 = .ok (.sipush 257, 3) := by decide +kernel
theorem dX12_isAsNoted_23 : decode cX12_isAsNoted 23 = .ok (.aload_n 0, 1) := by decide +kernel
theorem dX12_isAsNoted_24 : decode cX12_isAsNoted 24 = .ok (.getfield 79, 3) := by decide +kernel
theorem dX12_isAsNoted_27 : decode cX12_isAsNoted 27 = .ok (.iload_n 3, 1) := by decide +kernel
theorem dX12_isAsNoted_28 : decode cX12_isAsNoted 28 = .ok (.iaload, 1) := by decide +kernel
theorem dX12_isAsNoted_29 : decode cX12_isAsNoted 29 = .ok (.imul, 1) := by decide +kernel
theorem dX12_isAsNoted_30 : decode cX12_isAsNoted 30 = .ok (.bipush 12, 2) := by decide +kernel
theorem dX12_isAsNoted_32 : decode cX12_isAsNoted 32 = .ok (.iadd, 1) := by decide +kernel
theorem dX12_isAsNoted_33 : decode cX12_isAsNoted 33 = .ok (.istore 4, 2) := by decide +kernel
theorem dX12_isAsNoted_35 : decode cX12_isAsNoted 35 = .ok (.iload_n 1, 1) := by decide +kernel
theorem dX12_isAsNoted_36 : decode cX12_isAsNoted 36 = .ok (.ifCond .eq 41, 3) := by decide +kernel
theorem dX12_isAsNoted_39 : decode cX12_isAsNoted 39 = .ok (.aload_n 0, 1) := by decide +kernel
theorem dX12_isAsNoted_40 : decode cX12_isAsNoted 40 = .ok (.getfield 82, 3) := by decide +kernel
theorem dX12_isAsNoted_43 : decode cX12_isAsNoted 43 = .ok (.iload_n 3, 1) := by decide +kernel
theorem dX12_isAsNoted_44 : decode cX12_isAsNoted 44 = .ok (.iaload, 1) := by decide +kernel
theorem dX12_isAsNoted_45 : decode cX12_isAsNoted 45 = .ok (.iload_n 2, 1) := by decide +kernel
theorem dX12_isAsNoted_46 : decode cX12_isAsNoted 46 = .ok (.if_icmp .ne 27, 3) := by decide +kernel
theorem dX12_isAsNoted_49 : decode cX12_isAsNoted 49 = .ok (.aload_n 0, 1) := by decide +kernel
theorem dX12_isAsNoted_50 : decode cX12_isAsNoted 50 = .ok (.getfield 43, 3) := by decide +kernel
theorem dX12_isAsNoted_53 : decode cX12_isAsNoted 53 = .ok (.iload 4, 2) := by decide +kernel
theorem dX12_isAsNoted_55 : decode cX12_isAsNoted 55 = .ok (.iaload, 1) := by decide +kernel
theorem dX12_isAsNoted_56 : decode cX12_isAsNoted 56 = .ok (.aload_n 0, 1) := by decide +kernel
theorem dX12_isAsNoted_57 : decode cX12_isAsNoted 57 = .ok (.getfield 76, 3) := by decide +kernel
theorem dX12_isAsNoted_60 : decode cX12_isAsNoted 60 = .ok (.iload 4, 2) := by decide +kernel
theorem dX12_isAsNoted_62 : decode cX12_isAsNoted 62 = .ok (.iaload, 1) := by decide +kernel
theorem dX12_isAsNoted_63 : decode cX12_isAsNoted 63 = .ok (.isub, 1) := by decide +kernel
theorem dX12_isAsNoted_64 : decode cX12_isAsNoted 64 = .ok (.aload_n 0, 1) := by decide +kernel
theorem dX12_isAsNoted_65 : decode cX12_isAsNoted 65 = .ok (.getfield 85, 3) := by decide +kernel
theorem dX12_isAsNoted_68 : decode cX12_isAsNoted 68 = .ok (.iload_n 3, 1) := by decide +kernel
theorem dX12_isAsNoted_69 : decode cX12_isAsNoted 69 = .ok (.iaload, 1) := by decide +kernel
theorem dX12_isAsNoted_70 : decode cX12_isAsNoted 70 = .ok (.if_icmp .ne 7, 3) := by decide +kernel
theorem dX12_isAsNoted_73 : decode cX12_isAsNoted 73 = .ok (.iconst 1, 1) := by decide +kernel
theorem dX12_isAsNoted_74 : decode cX12_isAsNoted 74 = .ok (.goto 4, 3) := by decide +kernel
theorem dX12_isAsNoted_77 : decode cX12_isAsNoted 77 = .ok (.iconst 0, 1) := by decide +kernel
theorem dX12_isAsNoted_78 : decode cX12_isAsNoted 78 = .ok (.istore_n 1, 1) := by decide +kernel
theorem dX12_isAsNoted_79 : decode cX12_isAsNoted 79 = .ok (.iinc 3 1, 3) := by decide +kernel
theorem dX12_isAsNoted_82 : decode cX12_isAsNoted 82 = .ok (.goto (-70), 3) := by decide +kernel
theorem dX12_isAsNoted_85 : decode cX12_isAsNoted 85 = .ok (.iconst 0, 1) := by decide +kernel
theorem dX12_isAsNoted_86 : decode cX12_isAsNoted 86 = .ok (.istore_n 3, 1) := by decide +kernel
theorem dX12_isAsNoted_87 : decode cX12_isAsNoted 87 = .ok (.iload_n 3, 1) := by decide +kernel
theorem dX12_isAsNoted_88 : decode cX12_isAsNoted 88 = .ok (.aload_n 0, 1) := by decide +kernel
theorem dX12_isAsNoted_89 : decode cX12_isAsNoted 89 = .ok (.getfield 21, 3) := by decide +kernel
theorem dX12_isAsNoted_92 : decode cX12_isAsNoted 92 = .ok (.iconst 0, 1) := by decide +kernel
theorem dX12_isAsNoted_93 : decode cX12_isAsNoted 93 = .ok (.iaload, 1) := by decide +kernel
theorem dX12_isAsNoted_94 : decode cX12_isAsNoted 94 = .ok (.if_icmp .ge 34, 3) := by decide +kernel
theorem dX12_isAsNoted_97 : decode cX12_isAsNoted 97 = .ok (.iload_n 2, 1) := by decide +kernel
theorem dX12_isAsNoted_98 : decode cX12_isAsNoted 98 = .ok (.bipush 50, 2) := by decide +kernel
theorem dX12_isAsNoted_100 : decode cX12_isAsNoted 100 = .ok (.if_icmp .ne 28, 3) := by decide +kernel
theorem dX12_isAsNoted_103 : decode cX12_isAsNoted 103 = .ok (.aload_n 0, 1) := by decide +kernel
theorem dX12_isAsNoted_104 : decode cX12_isAsNoted 104 = .ok (.getfield 88, 3) := by decide +kernel
theorem dX12_isAsNoted_107 : decode cX12_isAsNoted 107 = .ok (.iload_n 3, 1) := by decide +kernel
theorem dX12_isAsNoted_108 : decode cX12_isAsNoted 108 = .ok (.aload_n 0, 1) := by decide +kernel
theorem dX12_isAsNoted_109 : decode cX12_isAsNoted 109 = .ok (.getfield 43, 3) := by decide +kernel
theorem dX12_isAsNoted_112 : decode cX12_isAsNoted 112 = .ok (.sipush 257, 3) := by decide +kernel
theorem dX12_isAsNoted_115 : decode cX12_isAsNoted 115 = .ok (.iload_n 3, 1) := by decide +kernel
theorem dX12_isAsNoted_116 : decode cX12_isAsNoted 116 = .ok (.imul, 1) := by decide +kernel
theorem dX12_isAsNoted_117 : decode cX12_isAsNoted 117 = .ok (.bipush 12, 2) := by decide +kernel
theorem dX12_isAsNoted_119 : decode cX12_isAsNoted 119 = .ok (.iadd, 1) := by decide +kernel
theorem dX12_isAsNoted_120 : decode cX12_isAsNoted 120 = .ok (.iaload, 1) := by decide +kernel
theorem dX12_isAsNoted_121 : decode cX12_isAsNoted 121 = .ok (.iastore, 1) := by decide +kernel
theorem dX12_isAsNoted_122 : decode cX12_isAsNoted 122 = .ok (.iinc 3 1, 3) := by decide +kernel
theorem dX12_isAsNoted_125 : decode cX12_isAsNoted 125 = .ok (.goto (-38), 3) := by decide +kernel
theorem dX12_isAsNoted_128 : decode cX12_isAsNoted 128 = .ok (.iload_n 2, 1) := by decide +kernel
theorem dX12_isAsNoted_129 : decode cX12_isAsNoted 129 = .ok (.bipush 100, 2) := by decide +kernel
theorem dX12_isAsNoted_131 : decode cX12_isAsNoted 131 = .ok (.if_icmp .ge 7, 3) := by decide +kernel
theorem dX12_isAsNoted_134 : decode cX12_isAsNoted 134 = .ok (.aload_n 0, 1) := by decide +kernel
theorem dX12_isAsNoted_135 : decode cX12_isAsNoted 135 = .ok (.invokevirtual 341, 3) := by decide +kernel
theorem dX12_isAsNoted_138 : decode cX12_isAsNoted 138 = .ok (.iinc 2 1, 3) := by decide +kernel
theorem dX12_isAsNoted_141 : decode cX12_isAsNoted 141 = .ok (.goto (-137), 3) := by decide +kernel
theorem dX12_isAsNoted_144 : decode cX12_isAsNoted 144 = .ok (.aload_n 0, 1) := by decide +kernel
theorem dX12_isAsNoted_145 : decode cX12_isAsNoted 145 = .ok (.iconst 0, 1) := by decide +kernel
theorem dX12_isAsNoted_146 : decode cX12_isAsNoted 146 = .ok (.invokevirtual 405, 3) := by decide +kernel
theorem dX12_isAsNoted_149 : decode cX12_isAsNoted 149 = .ok (.pop, 1) := by decide +kernel
theorem dX12_isAsNoted_150 : decode cX12_isAsNoted 150 = .ok (.iload_n 1, 1) := by decide +kernel
theorem dX12_isAsNoted_151 : decode cX12_isAsNoted 151 = .ok (.ireturn, 1) := by decide +kernel
theorem dX12_putSent_0 : decode cX12_putSent 0 = .ok (.iconst 0, 1) := by decide +kernel
theorem dX12_putSent_1 : decode cX12_putSent 1 = .ok (.istore_n 1, 1) := by decide +kernel
theorem dX12_putSent_2 : decode cX12_putSent 2 = .ok (.iload_n 1, 1) := by decide +kernel
theorem dX12_putSent_3 : decode cX12_putSent 3 = .ok (.aload_n 0, 1) := by decide +kernel
theorem dX12_putSent_4 : decode cX12_putSent 4 = .ok (.getfield 21, 3) := by decide +kernel
theorem dX12_putSent_7 : decode cX12_putSent 7 = .ok (.iconst 0, 1) := by decide +kernel
theorem dX12_putSent_8 : decode cX12_putSent 8 = .ok (.iaload, 1) := by decide +kernel
theorem dX12_putSent_9 : decode cX12_putSent 9 = .ok (.if_icmp .ge 101, 3) := by decide +kernel
theorem dX12_putSent_12 : decode cX12_putSent 12 = .ok (.iconst 1, 1) := by decide +kernel
theorem dX12_putSent_13 : decode cX12_putSent 13 = .ok (.istore_n 2, 1) := by decide +kernel
theorem dX12_putSent_14 : decode cX12_putSent 14 = .ok (.sipush 512, 3) := by decide +kernel
theorem dX12_putSent_17 : decode cX12_putSent 17 = .ok (.iload_n 1, 1) := by decide +kernel
theorem dX12_putSent_18 : decode cX12_putSent 18 = .ok (.imul, 1) := by decide +kernel
theorem dX12_putSent_19 : decode cX12_putSent 19 = .ok (.istore_n 3, 1) := by decide +kernel
theorem dX12_putSent_20 : decode cX12_putSent 20 = .ok (.iconst 0, 1) := by decide +kernel
theorem dX12_putSent_21 : decode cX12_putSent 21 = .ok (.istore 4, 2) := by decide +kernel
theorem dX12_putSent_23 : decode cX12_putSent 23 = .ok (.iload 4, 2) := by decide +kernel
theorem dX12_putSent_25 : decode cX12_putSent 25 = .ok (.aload_n 0, 1) := by decide +kernel
theorem dX12_putSent_26 : decode cX12_putSent 26 = .ok (.getfield 91, 3) := by decide +kernel
theorem dX12_putSent_29 : decode cX12_putSent 29 = .ok (.iload_n 1, 1) := by decide +kernel
theorem dX12_putSent_30 : decode cX12_putSent 30 = .ok (.iaload, 1) := by decide +kernel
theorem dX12_putSent_31 : decode cX12_putSent 31 = .ok (.if_icmp .ge 37, 3) := by decide +kernel
theorem dX12_putSent_34 : decode cX12_putSent 34 = .ok (.iload_n 2, 1) := by decide +kernel
theorem dX12_putSent_35 : decode cX12_putSent 35 = .ok (.ifCond .eq 25, 3) := by decide +kernel
theorem dX12_putSent_38 : decode cX12_putSent 38 = .ok (.aload_n 0, 1) := by decide +kernel
theorem dX12_putSent_39 : decode cX12_putSent 39 = .ok (.getfield 94, 3) := by decide +kernel
theorem dX12_putSent_42 : decode cX12_putSent 42 = .ok (.iload_n 3, 1) := by decide +kernel
theorem dX12_putSent_43 : decode cX12_putSent 43 = .ok (.iload 4, 2) := by decide +kernel
theorem dX12_putSent_45 : decode cX12_putSent 45 = .ok (.iadd, 1) := by decide +kernel
theorem dX12_putSent_46 : decode cX12_putSent 46 = .ok (.iaload, 1) := by decide +kernel
theorem dX12_putSent_47 : decode cX12_putSent 47 = .ok (.aload_n 0, 1) := by decide +kernel
theorem dX12_putSent_48 : decode cX12_putSent 48 = .ok (.getfield 88, 3) := by decide +kernel
theorem dX12_putSent_51 : decode cX12_putSent 51 = .ok (.iload_n 1, 1) := by decide +kernel
theorem dX12_putSent_52 : decode cX12_putSent 52 = .ok (.iaload, 1) := by decide +kernel
theorem dX12_putSent_53 : decode cX12_putSent 53 = .ok (.if_icmp .eq 7, 3) := by decide +kernel
theorem dX12_putSent_56 : decode cX12_putSent 56 = .ok (.iconst 1, 1) := by decide +kernel
theorem dX12_putSent_57 : decode cX12_putSent 57 = .ok (.goto 4, 3) := by decide +kernel
theorem dX12_putSent_60 : decode cX12_putSent 60 = .ok (.iconst 0, 1) := by decide +kernel
theorem dX12_putSent_61 : decode cX12_putSent 61 = .ok (.istore_n 2, 1) := by decide +kernel
theorem dX12_putSent_62 : decode cX12_putSent 62 = .ok (.iinc 4 1, 3) := by decide +kernel
theorem dX12_putSent_65 : decode cX12_putSent 65 = .ok (.goto (-42), 3) := by decide +kernel
theorem dX12_putSent_68 : decode cX12_putSent 68 = .ok (.iload_n 2, 1) := by decide +kernel
theorem dX12_putSent_69 : decode cX12_putSent 69 = .ok (.ifCond .ne 6, 3) := by decide +kernel
theorem dX12_putSent_72 : decode cX12_putSent 72 = .ok (.goto 32, 3) := by decide +kernel
theorem dX12_putSent_75 : decode cX12_putSent 75 = .ok (.aload_n 0, 1) := by decide +kernel
theorem dX12_putSent_76 : decode cX12_putSent 76 = .ok (.getfield 94, 3) := by decide +kernel
theorem dX12_putSent_79 : decode cX12_putSent 79 = .ok (.iload_n 3, 1) := by decide +kernel
theorem dX12_putSent_80 : decode cX12_putSent 80 = .ok (.aload_n 0, 1) := by decide +kernel
theorem dX12_putSent_81 : decode cX12_putSent 81 = .ok (.getfield 91, 3) := by decide +kernel
theorem dX12_putSent_84 : decode cX12_putSent 84 = .ok (.iload_n 1, 1) := by decide +kernel
theorem dX12_putSent_85 : decode cX12_putSent 85 = .ok (.iaload, 1) := by decide +kernel
theorem dX12_putSent_86 : decode cX12_putSent 86 = .ok (.iadd, 1) := by decide +kernel
theorem dX12_putSent_87 : decode cX12_putSent 87 = .ok (.aload_n 0, 1) := by decide +kernel
theorem dX12_putSent_88 : decode cX12_putSent 88 = .ok (.getfield 88, 3) := by decide +kernel
theorem dX12_putSent_91 : decode cX12_putSent 91 = .ok (.iload_n 1, 1) := by decide +kernel
theorem dX12_putSent_92 : decode cX12_putSent 92 = .ok (.iaload, 1) := by decide +kernel
theorem dX12_putSent_93 : decode cX12_putSent 93 = .ok (.iastore, 1) := by decide +kernel
theorem dX12_putSent_94 : decode cX12_putSent 94 = .ok (.aload_n 0, 1) := by decide +kernel
theorem dX12_putSent_95 : decode cX12_putSent 95 = .ok (.getfield 91, 3) := by decide +kernel
theorem dX12_putSent_98 : decode cX12_putSent 98 = .ok (.iload_n 1, 1) := by decide +kernel
theorem dX12_putSent_99 : decode cX12_putSent 99 = .ok (.dup2, 1) := by decide +kernel
theorem dX12_putSent_100 : decode cX12_putSent 100 = .ok (.iaload, 1) := by decide +kernel
theorem dX12_putSent_101 : decode cX12_putSent 101 = .ok (.iconst 1, 1) := by decide +kernel
theorem dX12_putSent_102 : decode cX12_putSent 102 = .ok (.iadd, 1) := by decide +kernel
theorem dX12_putSent_103 : decode cX12_putSent 103 = .ok (.iastore, 1) := by decide +kernel
theorem dX12_putSent_104 : decode cX12_putSent 104 = .ok (.iinc 1 1, 3) := by decide +kernel
theorem dX12_putSent_107 : decode cX12_putSent 107 = .ok (.goto (-105), 3) := by decide +kernel
theorem dX12_putSent_110 : decode cX12_putSent 110 = .ok (.return_, 1) := by decide +kernel
theorem dX12_tellOthers_0 : decode cX12_tellOthers 0 = .ok (.aload_n 0, 1) := by decide +kernel
theorem dX12_tellOthers_1 : decode cX12_tellOthers 1 = .ok (.iconst 0, 1) := by decide +kernel
theorem dX12_tellOthers_2 : decode cX12_tellOthers 2 = .ok (.putfield 417, 3) := by decide +kernel
theorem dX12_tellOthers_5 : decode cX12_tellOthers 5 = .ok (.aload_n 0, 1) := by decide +kernel
theorem dX12_tellOthers_6 : decode cX12_tellOthers 6 = .ok (.iconst (-1), 1) := by decide +kernel
theorem dX12_tellOthers_7 : decode cX12_tellOthers 7 = .ok (.putfield 420, 3) := by decide +kernel
theorem dX12_tellOthers_10 : decode cX12_tellOthers 10 = .ok (.iconst 0, 1) := by decide +kernel
theorem dX12_tellOthers_11 : decode cX12_tellOthers 11 = .ok (.istore_n 1, 1) := by decide +kernel
theorem dX12_tellOthers_12 : decode cX12_tellOthers 12 = .ok (.iload_n 1, 1) := by decide +kernel
theorem dX12_tellOthers_13 : decode cX12_tellOthers 13 = .ok (.bipush 12, 2) := by decide +kernel
theorem dX12_tellOthers_15 : decode cX12_tellOthers 15 = .ok (.if_icmp .ge 16, 3) := by decide +kernel
theorem dX12_tellOthers_18 : decode cX12_tellOthers 18 = .ok (.aload_n 0, 1) := by decide +kernel
theorem dX12_tellOthers_19 : decode cX12_tellOthers 19 = .ok (.getfield 91, 3) := by decide +kernel
theorem dX12_tellOthers_22 : decode cX12_tellOthers 22 = .ok (.iload_n 1, 1) := by decide +kernel
theorem dX12_tellOthers_23 : decode cX12_tellOthers 23 = .ok (.iconst 0, 1) := by decide +kernel
theorem dX12_tellOthers_24 : decode cX12_tellOthers 24 = .ok (.iastore, 1) := by decide +kernel
theorem dX12_tellOthers_25 : decode cX12_tellOthers 25 = .ok (.iinc 1 1, 3) := by decide +kernel
theorem dX12_tellOthers_28 : decode cX12_tellOthers 28 = .ok (.goto (-16), 3) := by decide +kernel
theorem dX12_tellOthers_31 : decode cX12_tellOthers 31 = .ok (.aload_n 0, 1) := by decide +kernel
theorem dX12_tellOthers_32 : decode cX12_tellOthers 32 = .ok (.invokevirtual 402, 3) := by decide +kernel
theorem dX12_tellOthers_35 : decode cX12_tellOthers 35 = .ok (.iconst 0, 1) := by decide +kernel
theorem dX12_tellOthers_36 : decode cX12_tellOthers 36 = .ok (.istore_n 1, 1) := by decide +kernel
theorem dX12_tellOthers_37 : decode cX12_tellOthers 37 = .ok (.iload_n 1, 1) := by decide +kernel
theorem dX12_tellOthers_38 : decode cX12_tellOthers 38 = .ok (.aload_n 0, 1) := by decide +kernel
theorem dX12_tellOthers_39 : decode cX12_tellOthers 39 = .ok (.getfield 21, 3) := by decide +kernel
theorem dX12_tellOthers_42 : decode cX12_tellOthers 42 = .ok (.iconst 1, 1) := by decide +kernel
theorem dX12_tellOthers_43 : decode cX12_tellOthers 43 = .ok (.iaload, 1) := by decide +kernel
theorem dX12_tellOthers_44 : decode cX12_tellOthers 44 = .ok (.if_icmp .ge 95, 3) := by decide +kernel
theorem dX12_tellOthers_47 : decode cX12_tellOthers 47 = .ok (.aload_n 0, 1) := by decide +kernel
theorem dX12_tellOthers_48 : decode cX12_tellOthers 48 = .ok (.getfield 43, 3) := by decide +kernel
theorem dX12_tellOthers_51 : decode cX12_tellOthers 51 = .ok (.sipush 3091, 3) := by decide +kernel
theorem dX12_tellOthers_54 : decode cX12_tellOthers 54 = .ok (.iload_n 1, 1) := by decide +kernel
theorem dX12_tellOthers_55 : decode cX12_tellOthers 55 = .ok (.iadd, 1) := by decide +kernel
theorem dX12_tellOthers_56 : decode cX12_tellOthers 56 = .ok (.iaload, 1) := by decide +kernel
theorem dX12_tellOthers_57 : decode cX12_tellOthers 57 = .ok (.istore_n 2, 1) := by decide +kernel
theorem dX12_tellOthers_58 : decode cX12_tellOthers 58 = .ok (.iconst 1, 1) := by decide +kernel
theorem dX12_tellOthers_59 : decode cX12_tellOthers 59 = .ok (.istore_n 3, 1) := by decide +kernel
theorem dX12_tellOthers_60 : decode cX12_tellOthers 60 = .ok (.iload_n 3, 1) := by decide +kernel
theorem dX12_tellOthers_61 : decode cX12_tellOthers 61 = .ok (.bipush 64, 2) := by decide +kernel
theorem dX12_tellOthers_63 : decode cX12_tellOthers 63 = .ok (.if_icmp .gt 70, 3) := by decide +kernel
theorem dX12_tellOthers_66 : decode cX12_tellOthers 66 = .ok (.iload_n 3, 1) := by decide +kernel
theorem dX12_tellOthers_67 : decode cX12_tellOthers 67 = .ok (.iload_n 2, 1) := by decide +kernel
theorem dX12_tellOthers_68 : decode cX12_tellOthers 68 = .ok (.if_icmp .ne 6, 3) := by decide +kernel
theorem dX12_tellOthers_71 : decode cX12_tellOthers 71 = .ok (.goto 56, 3) := by decide +kernel
theorem dX12_tellOthers_74 : decode cX12_tellOthers 74 = .ok (.aload_n 0, 1) := by decide +kernel
theorem dX12_tellOthers_75 : decode cX12_tellOthers 75 = .ok (.getfield 43, 3) := by decide +kernel
theorem dX12_tellOthers_78 : decode cX12_tellOthers 78 = .ok (.sipush 3091, 3) := by decide +kernel
theorem dX12_tellOthers_81 : decode cX12_tellOthers 81 = .ok (.iload_n 1, 1) := by decide +kernel
theorem dX12_tellOthers_82 : decode cX12_tellOthers 82 = .ok (.iadd, 1) := by decide +kernel
theorem dX12_tellOthers_83 : decode cX12_tellOthers 83 = .ok (.iload_n 3, 1) := by decide +kernel
theorem dX12_tellOthers_84 : decode cX12_tellOthers 84 = .ok (.iastore, 1) := by decide +kernel
theorem dX12_tellOthers_85 : decode cX12_tellOthers 85 = .ok (.aload_n 0, 1) := by decide +kernel
theorem dX12_tellOthers_86 : decode cX12_tellOthers 86 = .ok (.invokevirtual 423, 3) := by decide +kernel
theorem dX12_tellOthers_89 : decode cX12_tellOthers 89 = .ok (.ifCond .ne 6, 3) := by decide +kernel
theorem dX12_tellOthers_92 : decode cX12_tellOthers 92 = .ok (.goto 35, 3) := by decide +kernel
theorem dX12_tellOthers_95 : decode cX12_tellOthers 95 = .ok (.aload_n 0, 1) := by decide +kernel
theorem dX12_tellOthers_96 : decode cX12_tellOthers 96 = .ok (.dup, 1) := by decide +kernel
theorem dX12_tellOthers_97 : decode cX12_tellOthers 97 = .ok (.getfield 417, 3) := by decide +kernel
theorem dX12_tellOthers_100 : decode cX12_tellOthers 100 = .ok (.iconst 1, 1) := by decide +kernel
theorem dX12_tellOthers_101 : decode cX12_tellOthers 101 = .ok (.iadd, 1) := by decide +kernel
theorem dX12_tellOthers_102 : decode cX12_tellOthers 102 = .ok (.putfield 417, 3) := by decide +kernel
theorem dX12_tellOthers_105 : decode cX12_tellOthers 105 = .ok (.aload_n 0, 1) := by decide +kernel
theorem dX12_tellOthers_106 : decode cX12_tellOthers 106 = .ok (.getfield 420, 3) := by decide +kernel
theorem dX12_tellOthers_109 : decode cX12_tellOthers 109 = .ok (.iconst (-1), 1) := by decide +kernel
theorem dX12_tellOthers_110 : decode cX12_tellOthers 110 = .ok (.if_icmp .ne 13, 3) := by decide +kernel
theorem dX12_tellOthers_113 : decode cX12_tellOthers 113 = .ok (.aload_n 0, 1) := by decide +kernel
theorem dX12_tellOthers_114 : decode cX12_tellOthers 114 = .ok (.bipush 100, 2) := by decide +kernel
theorem dX12_tellOthers_116 : decode cX12_tellOthers 116 = .ok (.iload_n 1, 1) := by decide +kernel
theorem dX12_tellOthers_117 : decode cX12_tellOthers 117 = .ok (.imul, 1) := by decide +kernel
theorem dX12_tellOthers_118 : decode cX12_tellOthers 118 = .ok (.iload_n 3, 1) := by decide +kernel
theorem dX12_tellOthers_119 : decode cX12_tellOthers 119 = .ok (.iadd, 1) := by decide +kernel
theorem dX12_tellOthers_120 : decode cX12_tellOthers 120 = .ok (.putfield 420, 3) := by decide +kernel
theorem dX12_tellOthers_123 : decode cX12_tellOthers 123 = .ok (.aload_n 0, 1) := by decide +kernel
theorem dX12_tellOthers_124 : decode cX12_tellOthers 124 = .ok (.invokevirtual 427, 3) := by decide +kernel
theorem dX12_tellOthers_127 : decode cX12_tellOthers 127 = .ok (.iinc 3 1, 3) := by decide +kernel
theorem dX12_tellOthers_130 : decode cX12_tellOthers 130 = .ok (.goto (-70), 3) := by decide +kernel
theorem dX12_tellOthers_133 : decode cX12_tellOthers 133 = .ok (.iinc 1 1, 3) := by decide +kernel
theorem dX12_tellOthers_136 : decode cX12_tellOthers 136 = .ok (.goto (-99), 3) := by decide +kernel
theorem dX12_tellOthers_139 : decode cX12_tellOthers 139 = .ok (.return_, 1) := by decide +kernel
theorem dX12_other_0 : decode cX12_other 0 = .ok (.aload_n 0, 1) := by decide +kernel
theorem dX12_other_1 : decode cX12_other 1 = .ok (.iconst 0, 1) := by decide +kernel
theorem dX12_other_2 : decode cX12_other 2 = .ok (.putfield 118, 3) := by decide +kernel
theorem dX12_other_5 : decode cX12_other 5 = .ok (.iload_n 1, 1) := by decide +kernel
theorem dX12_other_6 : decode cX12_other 6 = .ok (.iconst 0, 1) := by decide +kernel
theorem dX12_other_7 : decode cX12_other 7 = .ok (.iconst 2, 1) := by decide +kernel
theorem dX12_other_8 : decode cX12_other 8 = .ok (.invokestatic 356, 3) := by decide +kernel
theorem dX12_other_11 : decode cX12_other 11 = .ok (.ifCond .ne 9, 3) := by decide +kernel
theorem dX12_other_14 : decode cX12_other 14 = .ok (.aload_n 0, 1) := by decide +kernel
theorem dX12_other_15 : decode cX12_other 15 = .ok (.iconst 1, 1) := by decide +kernel
theorem dX12_other_16 : decode cX12_other 16 = .ok (.invokevirtual 219, 3) := by decide +kernel
theorem dX12_other_19 : decode cX12_other 19 = .ok (.ireturn, 1) := by decide +kernel
theorem dX12_other_20 : decode cX12_other 20 = .ok (.iload_n 1, 1) := by decide +kernel
theorem dX12_other_21 : decode cX12_other 21 = .ok (.iconst 2, 1) := by decide +kernel
theorem dX12_other_22 : decode cX12_other 22 = .ok (.if_icmp .ne 20, 3) := by decide +kernel
theorem dX12_other_25 : decode cX12_other 25 = .ok (.aload_n 0, 1) := by decide +kernel
theorem dX12_other_26 : decode cX12_other 26 = .ok (.invokevirtual 402, 3) := by decide +kernel
theorem dX12_other_29 : decode cX12_other 29 = .ok (.aload_n 0, 1) := by decide +kernel
theorem dX12_other_30 : decode cX12_other 30 = .ok (.invokevirtual 423, 3) := by decide +kernel
theorem dX12_other_33 : decode cX12_other 33 = .ok (.ifCond .eq 7, 3) := by decide +kernel
theorem dX12_other_36 : decode cX12_other 36 = .ok (.iconst 1, 1) := by decide +kernel
theorem dX12_other_37 : decode cX12_other 37 = .ok (.goto 4, 3) := by decide +kernel
theorem dX12_other_40 : decode cX12_other 40 = .ok (.iconst 0, 1) := by decide +kernel
theorem dX12_other_41 : decode cX12_other 41 = .ok (.ireturn, 1) := by decide +kernel
theorem dX12_other_42 : decode cX12_other 42 = .ok (.aload_n 0, 1) := by decide +kernel
theorem dX12_other_43 : decode cX12_other 43 = .ok (.invokevirtual 430, 3) := by decide +kernel
theorem dX12_other_46 : decode cX12_other 46 = .ok (.iload_n 1, 1) := by decide +kernel
theorem dX12_other_47 : decode cX12_other 47 = .ok (.ifCond .ne 10, 3) := by decide +kernel
theorem dX12_other_50 : decode cX12_other 50 = .ok (.aload_n 0, 1) := by decide +kernel
theorem dX12_other_51 : decode cX12_other 51 = .ok (.getfield 417, 3) := by decide +kernel
theorem dX12_other_54 : decode cX12_other 54 = .ok (.goto 7, 3) := by decide +kernel
theorem dX12_other_57 : decode cX12_other 57 = .ok (.aload_n 0, 1) := by decide +kernel
theorem dX12_other_58 : decode cX12_other 58 = .ok (.getfield 420, 3) := by decide +kernel
theorem dX12_other_61 : decode cX12_other 61 = .ok (.ireturn, 1) := by decide +kernel
theorem dX12_look_0 : decode cX12_look 0 = .ok (.aload_n 0, 1) := by decide +kernel
theorem dX12_look_1 : decode cX12_look 1 = .ok (.iconst 0, 1) := by decide +kernel
theorem dX12_look_2 : decode cX12_look 2 = .ok (.putfield 118, 3) := by decide +kernel
theorem dX12_look_5 : decode cX12_look 5 = .ok (.iload_n 1, 1) := by decide +kernel
theorem dX12_look_6 : decode cX12_look 6 = .ok (.iconst 0, 1) := by decide +kernel
theorem dX12_look_7 : decode cX12_look 7 = .ok (.iconst 1, 1) := by decide +kernel
theorem dX12_look_8 : decode cX12_look 8 = .ok (.invokestatic 356, 3) := by decide +kernel
theorem dX12_look_11 : decode cX12_look 11 = .ok (.ifCond .ne 9, 3) := by decide +kernel
theorem dX12_look_14 : decode cX12_look 14 = .ok (.aload_n 0, 1) := by decide +kernel
theorem dX12_look_15 : decode cX12_look 15 = .ok (.iconst 1, 1) := by decide +kernel
theorem dX12_look_16 : decode cX12_look 16 = .ok (.invokevirtual 219, 3) := by decide +kernel
theorem dX12_look_19 : decode cX12_look 19 = .ok (.ireturn, 1) := by decide +kernel
theorem dX12_look_20 : decode cX12_look 20 = .ok (.aload_n 0, 1) := by decide +kernel
theorem dX12_look_21 : decode cX12_look 21 = .ok (.invokevirtual 430, 3) := by decide +kernel
theorem dX12_look_24 : decode cX12_look 24 = .ok (.iconst (-1), 1) := by decide +kernel
theorem dX12_look_25 : decode cX12_look 25 = .ok (.istore_n 2, 1) := by decide +kernel
theorem dX12_look_26 : decode cX12_look 26 = .ok (.iconst 0, 1) := by decide +kernel
theorem dX12_look_27 : decode cX12_look 27 = .ok (.istore_n 3, 1) := by decide +kernel
theorem dX12_look_28 : decode cX12_look 28 = .ok (.iconst 0, 1) := by decide +kernel
theorem dX12_look_29 : decode cX12_look 29 = .ok (.istore 4, 2) := by decide +kernel
theorem dX12_look_31 : decode cX12_look 31 = .ok (.iload 4, 2) := by decide +kernel
theorem dX12_look_33 : decode cX12_look 33 = .ok (.aload_n 0, 1) := by decide +kernel
theorem dX12_look_34 : decode cX12_look 34 = .ok (.getfield 21, 3) := by decide +kernel
theorem dX12_look_37 : decode cX12_look 37 = .ok (.iconst 0, 1) := by decide +kernel
theorem dX12_look_38 : decode cX12_look 38 = .ok (.iaload, 1) := by decide +kernel
theorem dX12_look_39 : decode cX12_look 39 = .ok (.if_icmp .ge 34, 3) := by decide +kernel
theorem dX12_look_42 : decode cX12_look 42 = .ok (.aload_n 0, 1) := by decide +kernel
theorem dX12_look_43 : decode cX12_look 43 = .ok (.getfield 91, 3) := by decide +kernel
theorem dX12_look_46 : decode cX12_look 46 = .ok (.iload 4, 2) := by decide +kernel
theorem dX12_look_48 : decode cX12_look 48 = .ok (.iaload, 1) := by decide +kernel
theorem dX12_look_49 : decode cX12_look 49 = .ok (.iload_n 3, 1) := by decide +kernel
theorem dX12_look_50 : decode cX12_look 50 = .ok (.if_icmp .gt 6, 3) := by decide +kernel
theorem dX12_look_53 : decode cX12_look 53 = .ok (.goto 14, 3) := by decide +kernel
theorem dX12_look_56 : decode cX12_look 56 = .ok (.iload 4, 2) := by decide +kernel
theorem dX12_look_58 : decode cX12_look 58 = .ok (.istore_n 2, 1) := by decide +kernel
theorem dX12_look_59 : decode cX12_look 59 = .ok (.aload_n 0, 1) := by decide +kernel
theorem dX12_look_60 : decode cX12_look 60 = .ok (.getfield 91, 3) := by decide +kernel
theorem dX12_look_63 : decode cX12_look 63 = .ok (.iload 4, 2) := by decide +kernel
theorem dX12_look_65 : decode cX12_look 65 = .ok (.iaload, 1) := by decide +kernel
theorem dX12_look_66 : decode cX12_look 66 = .ok (.istore_n 3, 1) := by decide +kernel
theorem dX12_look_67 : decode cX12_look 67 = .ok (.iinc 4 1, 3) := by decide +kernel
theorem dX12_look_70 : decode cX12_look 70 = .ok (.goto (-39), 3) := by decide +kernel
theorem dX12_look_73 : decode cX12_look 73 = .ok (.iload_n 1, 1) := by decide +kernel
theorem dX12_look_74 : decode cX12_look 74 = .ok (.ifCond .ne 7, 3) := by decide +kernel
theorem dX12_look_77 : decode cX12_look 77 = .ok (.iload_n 2, 1) := by decide +kernel
theorem dX12_look_78 : decode cX12_look 78 = .ok (.goto 4, 3) := by decide +kernel
theorem dX12_look_81 : decode cX12_look 81 = .ok (.iload_n 3, 1) := by decide +kernel
theorem dX12_look_82 : decode cX12_look 82 = .ok (.ireturn, 1) := by decide +kernel
theorem dX12_storms_0 : decode cX12_storms 0 = .ok (.aload_n 0, 1) := by decide +kernel
theorem dX12_storms_1 : decode cX12_storms 1 = .ok (.iconst 0, 1) := by decide +kernel
theorem dX12_storms_2 : decode cX12_storms 2 = .ok (.putfield 118, 3) := by decide +kernel
theorem dX12_storms_5 : decode cX12_storms 5 = .ok (.iload_n 1, 1) := by decide +kernel
theorem dX12_storms_6 : decode cX12_storms 6 = .ok (.iconst 0, 1) := by decide +kernel
theorem dX12_storms_7 : decode cX12_storms 7 = .ok (.aload_n 0, 1) := by decide +kernel
theorem dX12_storms_8 : decode cX12_storms 8 = .ok (.getfield 21, 3) := by decide +kernel
theorem dX12_storms_11 : decode cX12_storms 11 = .ok (.iconst 1, 1) := by decide +kernel
theorem dX12_storms_12 : decode cX12_storms 12 = .ok (.iaload, 1) := by decide +kernel
theorem dX12_storms_13 : decode cX12_storms 13 = .ok (.iconst 1, 1) := by decide +kernel
theorem dX12_storms_14 : decode cX12_storms 14 = .ok (.isub, 1) := by decide +kernel
theorem dX12_storms_15 : decode cX12_storms 15 = .ok (.invokestatic 356, 3) := by decide +kernel
theorem dX12_storms_18 : decode cX12_storms 18 = .ok (.ifCond .ne 9, 3) := by decide +kernel
theorem dX12_storms_21 : decode cX12_storms 21 = .ok (.aload_n 0, 1) := by decide +kernel
theorem dX12_storms_22 : decode cX12_storms 22 = .ok (.iconst 1, 1) := by decide +kernel
theorem dX12_storms_23 : decode cX12_storms 23 = .ok (.invokevirtual 219, 3) := by decide +kernel
theorem dX12_storms_26 : decode cX12_storms 26 = .ok (.ireturn, 1) := by decide +kernel
theorem dX12_storms_27 : decode cX12_storms 27 = .ok (.iload_n 2, 1) := by decide +kernel
theorem dX12_storms_28 : decode cX12_storms 28 = .ok (.iconst 1, 1) := by decide +kernel
theorem dX12_storms_29 : decode cX12_storms 29 = .ok (.iconst 5, 1) := by decide +kernel
theorem dX12_storms_30 : decode cX12_storms 30 = .ok (.invokestatic 356, 3) := by decide +kernel
theorem dX12_storms_33 : decode cX12_storms 33 = .ok (.ifCond .eq 13, 3) := by decide +kernel
theorem dX12_storms_36 : decode cX12_storms 36 = .ok (.iload_n 3, 1) := by decide +kernel
theorem dX12_storms_37 : decode cX12_storms 37 = .ok (.iconst 0, 1) := by decide +kernel
theorem dX12_storms_38 : decode cX12_storms 38 = .ok (.bipush 10, 2) := by decide +kernel
theorem dX12_storms_40 : decode cX12_storms 40 = .ok (.invokestatic 356, 3) := by decide +kernel
theorem dX12_storms_43 : decode cX12_storms 43 = .ok (.ifCond .ne 9, 3) := by decide +kernel
theorem dX12_storms_46 : decode cX12_storms 46 = .ok (.aload_n 0, 1) := by decide +kernel
theorem dX12_storms_47 : decode cX12_storms 47 = .ok (.iconst 2, 1) := by decide +kernel
theorem dX12_storms_48 : decode cX12_storms 48 = .ok (.invokevirtual 219, 3) := by decide +kernel
theorem dX12_storms_51 : decode cX12_storms 51 = .ok (.ireturn, 1) := by decide +kernel
theorem dX12_storms_52 : decode cX12_storms 52 = .ok (.iconst 0, 1) := by decide +kernel
theorem dX12_storms_53 : decode cX12_storms 53 = .ok (.istore 5, 2) := by decide +kernel
theorem dX12_storms_55 : decode cX12_storms 55 = .ok (.aload_n 0, 1) := by decide +kernel
theorem dX12_storms_56 : decode cX12_storms 56 = .ok (.invokevirtual 402, 3) := by decide +kernel
theorem dX12_storms_59 : decode cX12_storms 59 = .ok (.aload_n 0, 1) := by decide +kernel
theorem dX12_storms_60 : decode cX12_storms 60 = .ok (.iload_n 1, 1) := by decide +kernel
theorem dX12_storms_61 : decode cX12_storms 61 = .ok (.putfield 63, 3) := by decide +kernel
theorem dX12_storms_64 : decode cX12_storms 64 = .ok (.iconst 0, 1) := by decide +kernel
theorem dX12_storms_65 : decode cX12_storms 65 = .ok (.istore 6, 2) := by decide +kernel
theorem dX12_storms_67 : decode cX12_storms 67 = .ok (.iload 6, 2) := by decide +kernel
theorem dX12_storms_69 : decode cX12_storms 69 = .ok (.iconst 1, 1) := by decide +kernel
theorem dX12_storms_70 : decode cX12_storms 70 = .ok (.iload_n 2, 1) := by decide +kernel
theorem dX12_storms_71 : decode cX12_storms 71 = .ok (.ishl, 1) := by decide +kernel
theorem dX12_storms_72 : decode cX12_storms 72 = .ok (.if_icmp .ge 94, 3) := by decide +kernel
theorem dX12_storms_75 : decode cX12_storms 75 = .ok (.iconst 1, 1) := by decide +kernel
theorem dX12_storms_76 : decode cX12_storms 76 = .ok (.istore 7, 2) := by decide +kernel
theorem dX12_storms_78 : decode cX12_storms 78 = .ok (.iconst 0, 1) := by decide +kernel
theorem dX12_storms_79 : decode cX12_storms 79 = .ok (.istore 8, 2) := by decide +kernel
theorem dX12_storms_81 : decode cX12_storms 81 = .ok (.iload 8, 2) := by decide +kernel
theorem dX12_storms_83 : decode cX12_storms 83 = .ok (.iload_n 2, 1) := by decide +kernel
theorem dX12_storms_84 : decode cX12_storms 84 = .ok (.if_icmp .ge 33, 3) := by decide +kernel
theorem dX12_storms_87 : decode cX12_storms 87 = .ok (.iload 7, 2) := by decide +kernel
theorem dX12_storms_89 : decode cX12_storms 89 = .ok (.iload 6, 2) := by decide +kernel
theorem dX12_storms_91 : decode cX12_storms 91 = .ok (.iload 8, 2) := by decide +kernel
theorem dX12_storms_93 : decode cX12_storms 93 = .ok (.ishr, 1) := by decide +kernel
theorem dX12_storms_94 : decode cX12_storms 94 = .ok (.iconst 1, 1) := by decide +kernel
theorem dX12_storms_95 : decode cX12_storms 95 = .ok (.iand, 1) := by decide +kernel
theorem dX12_storms_96 : decode cX12_storms 96 = .ok (.iconst 1, 1) := by decide +kernel
theorem dX12_storms_97 : decode cX12_storms 97 = .ok (.if_icmp .ne 7, 3) := by decide +kernel
theorem dX12_storms_100 : decode cX12_storms 100 = .ok (.iload_n 3, 1) := by decide +kernel
theorem dX12_storms_101 : decode cX12_storms 101 = .ok (.goto 7, 3) := by decide +kernel
theorem dX12_storms_104 : decode cX12_storms 104 = .ok (.bipush 10, 2) := by decide +kernel
theorem dX12_storms_106 : decode cX12_storms 106 = .ok (.iload_n 3, 1) := by decide +kernel
theorem dX12_storms_107 : decode cX12_storms 107 = .ok (.isub, 1) := by decide +kernel
theorem dX12_storms_108 : decode cX12_storms 108 = .ok (.imul, 1) := by decide +kernel
theorem dX12_storms_109 : decode cX12_storms 109 = .ok (.istore 7, 2) := by decide +kernel
theorem dX12_storms_111 : decode cX12_storms 111 = .ok (.iinc 8 1, 3) := by decide +kernel
theorem dX12_storms_114 : decode cX12_storms 114 = .ok (.goto (-33), 3) := by decide +kernel
theorem dX12_storms_117 : decode cX12_storms 117 = .ok (.aload_n 0, 1) := by decide +kernel
theorem dX12_storms_118 : decode cX12_storms 118 = .ok (.iload 6, 2) := by decide +kernel
theorem dX12_storms_120 : decode cX12_storms 120 = .ok (.putfield 326, 3) := by decide +kernel
theorem dX12_storms_123 : decode cX12_storms 123 = .ok (.aload_n 0, 1) := by decide +kernel
theorem dX12_storms_124 : decode cX12_storms 124 = .ok (.iconst 0, 1) := by decide +kernel
theorem dX12_storms_125 : decode cX12_storms 125 = .ok (.putfield 323, 3) := by decide +kernel
theorem dX12_storms_128 : decode cX12_storms 128 = .ok (.aload_n 0, 1) := by decide +kernel
theorem dX12_storms_129 : decode cX12_storms 129 = .ok (.bipush 100, 2) := by decide +kernel
theorem dX12_storms_131 : decode cX12_storms 131 = .ok (.invokevirtual 375, 3) := by decide +kernel
theorem dX12_storms_134 : decode cX12_storms 134 = .ok (.iload 5, 2) := by decide +kernel
theorem dX12_storms_136 : decode cX12_storms 136 = .ok (.aload_n 0, 1) := by decide +kernel
theorem dX12_storms_137 : decode cX12_storms 137 = .ok (.invokevirtual 347, 3) := by decide +kernel
theorem dX12_storms_140 : decode cX12_storms 140 = .ok (.iload 4, 2) := by decide +kernel
theorem dX12_storms_142 : decode cX12_storms 142 = .ok (.if_icmp .gt 8, 3) := by decide +kernel
theorem dX12_storms_145 : decode cX12_storms 145 = .ok (.iload 7, 2) := by decide +kernel
theorem dX12_storms_147 : decode cX12_storms 147 = .ok (.goto 4, 3) := by decide +kernel
theorem dX12_storms_150 : decode cX12_storms 150 = .ok (.iconst 0, 1) := by decide +kernel
theorem dX12_storms_151 : decode cX12_storms 151 = .ok (.iadd, 1) := by decide +kernel
theorem dX12_storms_152 : decode cX12_storms 152 = .ok (.istore 5, 2) := by decide +kernel
theorem dX12_storms_154 : decode cX12_storms 154 = .ok (.aload_n 0, 1) := by decide +kernel
theorem dX12_storms_155 : decode cX12_storms 155 = .ok (.iconst 0, 1) := by decide +kernel
theorem dX12_storms_156 : decode cX12_storms 156 = .ok (.invokevirtual 405, 3) := by decide +kernel
theorem dX12_storms_159 : decode cX12_storms 159 = .ok (.pop, 1) := by decide +kernel
theorem dX12_storms_160 : decode cX12_storms 160 = .ok (.iinc 6 1, 3) := by decide +kernel
theorem dX12_storms_163 : decode cX12_storms 163 = .ok (.goto (-96), 3) := by decide +kernel
theorem dX12_storms_166 : decode cX12_storms 166 = .ok (.aload_n 0, 1) := by decide +kernel
theorem dX12_storms_167 : decode cX12_storms 167 = .ok (.iconst (-1), 1) := by decide +kernel
theorem dX12_storms_168 : decode cX12_storms 168 = .ok (.putfield 63, 3) := by decide +kernel
theorem dX12_storms_171 : decode cX12_storms 171 = .ok (.iload 5, 2) := by decide +kernel
theorem dX12_storms_173 : decode cX12_storms 173 = .ok (.ireturn, 1) := by decide +kernel
theorem dX12_draw_0 : decode cX12_draw 0 = .ok (.aload_n 0, 1) := by decide +kernel
theorem dX12_draw_1 : decode cX12_draw 1 = .ok (.aload_n 0, 1) := by decide +kernel
theorem dX12_draw_2 : decode cX12_draw 2 = .ok (.getfield 433, 3) := by decide +kernel
theorem dX12_draw_5 : decode cX12_draw 5 = .ok (.ldc_w 436, 3) := by decide +kernel
theorem dX12_draw_8 : decode cX12_draw 8 = .ok (.imul, 1) := by decide +kernel
theorem dX12_draw_9 : decode cX12_draw 9 = .ok (.sipush 12345, 3) := by decide +kernel
theorem dX12_draw_12 : decode cX12_draw 12 = .ok (.iadd, 1) := by decide +kernel
theorem dX12_draw_13 : decode cX12_draw 13 = .ok (.putfield 433, 3) := by decide +kernel
theorem dX12_draw_16 : decode cX12_draw 16 = .ok (.aload_n 0, 1) := by decide +kernel
theorem dX12_draw_17 : decode cX12_draw 17 = .ok (.getfield 433, 3) := by decide +kernel
theorem dX12_draw_20 : decode cX12_draw 20 = .ok (.bipush 16, 2) := by decide +kernel
theorem dX12_draw_22 : decode cX12_draw 22 = .ok (.ishr, 1) := by decide +kernel
theorem dX12_draw_23 : decode cX12_draw 23 = .ok (.sipush 32767, 3) := by decide +kernel
theorem dX12_draw_26 : decode cX12_draw 26 = .ok (.iand, 1) := by decide +kernel
theorem dX12_draw_27 : decode cX12_draw 27 = .ok (.iload_n 1, 1) := by decide +kernel
theorem dX12_draw_28 : decode cX12_draw 28 = .ok (.irem, 1) := by decide +kernel
theorem dX12_draw_29 : decode cX12_draw 29 = .ok (.ireturn, 1) := by decide +kernel
theorem dX12_happen_0 : decode cX12_happen 0 = .ok (.aload_n 0, 1) := by decide +kernel
theorem dX12_happen_1 : decode cX12_happen 1 = .ok (.bipush 6, 2) := by decide +kernel
theorem dX12_happen_3 : decode cX12_happen 3 = .ok (.invokevirtual 437, 3) := by decide +kernel
theorem dX12_happen_6 : decode cX12_happen 6 = .ok (.istore_n 1, 1) := by decide +kernel
theorem dX12_happen_7 : decode cX12_happen 7 = .ok (.iload_n 1, 1) := by decide +kernel
theorem dX12_happen_8 : decode cX12_happen 8 = .ok (.iconst 3, 1) := by decide +kernel
theorem dX12_happen_9 : decode cX12_happen 9 = .ok (.if_icmp .ge 88, 3) := by decide +kernel
theorem dX12_happen_12 : decode cX12_happen 12 = .ok (.aload_n 0, 1) := by decide +kernel
theorem dX12_happen_13 : decode cX12_happen 13 = .ok (.getfield 21, 3) := by decide +kernel
theorem dX12_happen_16 : decode cX12_happen 16 = .ok (.iconst 0, 1) := by decide +kernel
theorem dX12_happen_17 : decode cX12_happen 17 = .ok (.iaload, 1) := by decide +kernel
theorem dX12_happen_18 : decode cX12_happen 18 = .ok (.ifCond .le 79, 3) := by decide +kernel
theorem dX12_happen_21 : decode cX12_happen 21 = .ok (.aload_n 0, 1) := by decide +kernel
theorem dX12_happen_22 : decode cX12_happen 22 = .ok (.aload_n 0, 1) := by decide +kernel
theorem dX12_happen_23 : decode cX12_happen 23 = .ok (.getfield 21, 3) := by decide +kernel
theorem dX12_happen_26 : decode cX12_happen 26 = .ok (.iconst 0, 1) := by decide +kernel
theorem dX12_happen_27 : decode cX12_happen 27 = .ok (.iaload, 1) := by decide +kernel
theorem dX12_happen_28 : decode cX12_happen 28 = .ok (.invokevirtual 437, 3) := by decide +kernel
theorem dX12_happen_31 : decode cX12_happen 31 = .ok (.istore_n 2, 1) := by decide +kernel
theorem dX12_happen_32 : decode cX12_happen 32 = .ok (.iload_n 1, 1) := by decide +kernel
theorem dX12_happen_33 : decode cX12_happen 33 = .ok (.ifCond .ne 30, 3) := by decide +kernel
theorem dX12_happen_36 : decode cX12_happen 36 = .ok (.aload_n 0, 1) := by decide +kernel
theorem dX12_happen_37 : decode cX12_happen 37 = .ok (.bipush 64, 2) := by decide +kernel
theorem dX12_happen_39 : decode cX12_happen 39 = .ok (.invokevirtual 437, 3) := by decide +kernel
theorem dX12_happen_42 : decode cX12_happen 42 = .ok (.iconst 1, 1) := by decide +kernel
theorem dX12_happen_43 : decode cX12_happen 43 = .ok (.iadd, 1) := by decide +kernel
theorem dX12_happen_44 : decode cX12_happen 44 = .ok (.istore_n 3, 1) := by decide +kernel
theorem dX12_happen_45 : decode cX12_happen 45 = .ok (.aload_n 0, 1) := by decide +kernel
theorem dX12_happen_46 : decode cX12_happen 46 = .ok (.iload_n 2, 1) := by decide +kernel
theorem dX12_happen_47 : decode cX12_happen 47 = .ok (.invokevirtual 305, 3) := by decide +kernel
theorem dX12_happen_50 : decode cX12_happen 50 = .ok (.ifCond .eq 10, 3) := by decide +kernel
theorem dX12_happen_53 : decode cX12_happen 53 = .ok (.aload_n 0, 1) := by decide +kernel
theorem dX12_happen_54 : decode cX12_happen 54 = .ok (.iload_n 2, 1) := by decide +kernel
theorem dX12_happen_55 : decode cX12_happen 55 = .ok (.iload_n 3, 1) := by decide +kernel
theorem dX12_happen_56 : decode cX12_happen 56 = .ok (.invokevirtual 329, 3) := by decide +kernel
theorem dX12_happen_59 : decode cX12_happen 59 = .ok (.pop, 1) := by decide +kernel
theorem dX12_happen_60 : decode cX12_happen 60 = .ok (.goto 34, 3) := by decide +kernel
theorem dX12_happen_63 : decode cX12_happen 63 = .ok (.iload_n 1, 1) := by decide +kernel
theorem dX12_happen_64 : decode cX12_happen 64 = .ok (.iconst 1, 1) := by decide +kernel
theorem dX12_happen_65 : decode cX12_happen 65 = .ok (.if_icmp .ne 24, 3) := by decide +kernel
theorem dX12_happen_68 : decode cX12_happen 68 = .ok (.aload_n 0, 1) := by decide +kernel
theorem dX12_happen_69 : decode cX12_happen 69 = .ok (.bipush 100, 2) := by decide +kernel
theorem dX12_happen_71 : decode cX12_happen 71 = .ok (.invokevirtual 437, 3) := by decide +kernel
theorem dX12_happen_74 : decode cX12_happen 74 = .ok (.iconst 1, 1) := by decide +kernel
theorem dX12_happen_75 : decode cX12_happen 75 = .ok (.iadd, 1) := by decide +kernel
theorem dX12_happen_76 : decode cX12_happen 76 = .ok (.istore_n 3, 1) := by decide +kernel
theorem dX12_happen_77 : decode cX12_happen 77 = .ok (.aload_n 0, 1) := by decide +kernel
theorem dX12_happen_78 : decode cX12_happen 78 = .ok (.iload_n 2, 1) := by decide +kernel
theorem dX12_happen_79 : decode cX12_happen 79 = .ok (.iconst 1, 1) := by decide +kernel
theorem dX12_happen_80 : decode cX12_happen 80 = .ok (.iload_n 3, 1) := by decide +kernel
theorem dX12_happen_81 : decode cX12_happen 81 = .ok (.iconst 0, 1) := by decide +kernel
theorem dX12_happen_82 : decode cX12_happen 82 = .ok (.iload_n 3, 1) := by decide +kernel
theorem dX12_happen_83 : decode cX12_happen 83 = .ok (.invokevirtual 382, 3) := by decide +kernel
theorem dX12_happen_86 : decode cX12_happen 86 = .ok (.goto 8, 3) := by decide +kernel
theorem dX12_happen_89 : decode cX12_happen 89 = .ok (.aload_n 0, 1) := by decide +kernel
theorem dX12_happen_90 : decode cX12_happen 90 = .ok (.iload_n 2, 1) := by decide +kernel
theorem dX12_happen_91 : decode cX12_happen 91 = .ok (.invokevirtual 386, 3) := by decide +kernel
theorem dX12_happen_94 : decode cX12_happen 94 = .ok (.goto 40, 3) := by decide +kernel
theorem dX12_happen_97 : decode cX12_happen 97 = .ok (.iload_n 1, 1) := by decide +kernel
theorem dX12_happen_98 : decode cX12_happen 98 = .ok (.iconst 3, 1) := by decide +kernel
theorem dX12_happen_99 : decode cX12_happen 99 = .ok (.if_icmp .ne 35, 3) := by decide +kernel
theorem dX12_happen_102 : decode cX12_happen 102 = .ok (.aload_n 0, 1) := by decide +kernel
theorem dX12_happen_103 : decode cX12_happen 103 = .ok (.getfield 21, 3) := by decide +kernel
theorem dX12_happen_106 : decode cX12_happen 106 = .ok (.iconst 1, 1) := by decide +kernel
theorem dX12_happen_107 : decode cX12_happen 107 = .ok (.iaload, 1) := by decide +kernel
theorem dX12_happen_108 : decode cX12_happen 108 = .ok (.ifCond .le 26, 3) := by decide +kernel
theorem dX12_happen_111 : decode cX12_happen 111 = .ok (.aload_n 0, 1) := by decide +kernel
theorem dX12_happen_112 : decode cX12_happen 112 = .ok (.getfield 43, 3) := by decide +kernel
theorem dX12_happen_115 : decode cX12_happen 115 = .ok (.sipush 3090, 3) := by decide +kernel
theorem dX12_happen_118 : decode cX12_happen 118 = .ok (.dup2, 1) := by decide +kernel
theorem dX12_happen_119 : decode cX12_happen 119 = .ok (.iaload, 1) := by decide +kernel
theorem dX12_happen_120 : decode cX12_happen 120 = .ok (.iconst 1, 1) := by decide +kernel
theorem dX12_happen_121 : decode cX12_happen 121 = .ok (.aload_n 0, 1) := by decide +kernel
theorem dX12_happen_122 : decode cX12_happen 122 = .ok (.aload_n 0, 1) := by decide +kernel
theorem dX12_happen_123 : decode cX12_happen 123 = .ok (.getfield 21, 3) := by decide +kernel
theorem dX12_happen_126 : decode cX12_happen 126 = .ok (.iconst 1, 1) := by decide +kernel
theorem dX12_happen_127 : decode cX12_happen 127 = .ok (.iaload, 1) := by decide +kernel
theorem dX12_happen_128 : decode cX12_happen 128 = .ok (.invokevirtual 437, 3) := by decide +kernel
theorem dX12_happen_131 : decode cX12_happen 131 = .ok (.ishl, 1) := by decide +kernel
theorem dX12_happen_132 : decode cX12_happen 132 = .ok (.ixor, 1) := by decide +kernel
theorem dX12_happen_133 : decode cX12_happen 133 = .ok (.iastore, 1) := by decide +kernel
theorem dX12_happen_134 : decode cX12_happen 134 = .ok (.aload_n 0, 1) := by decide +kernel
theorem dX12_happen_135 : decode cX12_happen 135 = .ok (.bipush 10, 2) := by decide +kernel
theorem dX12_happen_137 : decode cX12_happen 137 = .ok (.invokevirtual 375, 3) := by decide +kernel
theorem dX12_happen_140 : decode cX12_happen 140 = .ok (.return_, 1) := by decide +kernel
theorem dX12_years_0 : decode cX12_years 0 = .ok (.aload_n 0, 1) := by decide +kernel
theorem dX12_years_1 : decode cX12_years 1 = .ok (.iconst 0, 1) := by decide +kernel
theorem dX12_years_2 : decode cX12_years 2 = .ok (.putfield 118, 3) := by decide +kernel
theorem dX12_years_5 : decode cX12_years 5 = .ok (.iload_n 3, 1) := by decide +kernel
theorem dX12_years_6 : decode cX12_years 6 = .ok (.iconst 0, 1) := by decide +kernel
theorem dX12_years_7 : decode cX12_years 7 = .ok (.iconst 2, 1) := by decide +kernel
theorem dX12_years_8 : decode cX12_years 8 = .ok (.invokestatic 356, 3) := by decide +kernel
theorem dX12_years_11 : decode cX12_years 11 = .ok (.ifCond .ne 9, 3) := by decide +kernel
theorem dX12_years_14 : decode cX12_years 14 = .ok (.aload_n 0, 1) := by decide +kernel
theorem dX12_years_15 : decode cX12_years 15 = .ok (.iconst 1, 1) := by decide +kernel
theorem dX12_years_16 : decode cX12_years 16 = .ok (.invokevirtual 219, 3) := by decide +kernel
theorem dX12_years_19 : decode cX12_years 19 = .ok (.ireturn, 1) := by decide +kernel
theorem dX12_years_20 : decode cX12_years 20 = .ok (.iload_n 2, 1) := by decide +kernel
theorem dX12_years_21 : decode cX12_years 21 = .ok (.iconst 0, 1) := by decide +kernel
theorem dX12_years_22 : decode cX12_years 22 = .ok (.bipush 60, 2) := by decide +kernel
theorem dX12_years_24 : decode cX12_years 24 = .ok (.invokestatic 356, 3) := by decide +kernel
theorem dX12_years_27 : decode cX12_years 27 = .ok (.ifCond .ne 9, 3) := by decide +kernel
theorem dX12_years_30 : decode cX12_years 30 = .ok (.aload_n 0, 1) := by decide +kernel
theorem dX12_years_31 : decode cX12_years 31 = .ok (.iconst 2, 1) := by decide +kernel
theorem dX12_years_32 : decode cX12_years 32 = .ok (.invokevirtual 219, 3) := by decide +kernel
theorem dX12_years_35 : decode cX12_years 35 = .ok (.ireturn, 1) := by decide +kernel
theorem dX12_years_36 : decode cX12_years 36 = .ok (.aload_n 0, 1) := by decide +kernel
theorem dX12_years_37 : decode cX12_years 37 = .ok (.invokevirtual 402, 3) := by decide +kernel
theorem dX12_years_40 : decode cX12_years 40 = .ok (.aload_n 0, 1) := by decide +kernel
theorem dX12_years_41 : decode cX12_years 41 = .ok (.iload_n 1, 1) := by decide +kernel
theorem dX12_years_42 : decode cX12_years 42 = .ok (.putfield 433, 3) := by decide +kernel
theorem dX12_years_45 : decode cX12_years 45 = .ok (.aload_n 0, 1) := by decide +kernel
theorem dX12_years_46 : decode cX12_years 46 = .ok (.invokevirtual 353, 3) := by decide +kernel
theorem dX12_years_49 : decode cX12_years 49 = .ok (.istore 4, 2) := by decide +kernel
theorem dX12_years_51 : decode cX12_years 51 = .ok (.aload_n 0, 1) := by decide +kernel
theorem dX12_years_52 : decode cX12_years 52 = .ok (.invokevirtual 350, 3) := by decide +kernel
theorem dX12_years_55 : decode cX12_years 55 = .ok (.istore 5, 2) := by decide +kernel
theorem dX12_years_57 : decode cX12_years 57 = .ok (.iconst 0, 1) := by decide +kernel
theorem dX12_years_58 : decode cX12_years 58 = .ok (.istore 6, 2) := by decide +kernel
theorem dX12_years_60 : decode cX12_years 60 = .ok (.iconst 0, 1) := by decide +kernel
theorem dX12_years_61 : decode cX12_years 61 = .ok (.istore 7, 2) := by decide +kernel
theorem dX12_years_63 : decode cX12_years 63 = .ok (.iload 7, 2) := by decide +kernel
theorem dX12_years_65 : decode cX12_years 65 = .ok (.iload_n 2, 1) := by decide +kernel
theorem dX12_years_66 : decode cX12_years 66 = .ok (.if_icmp .ge 24, 3) := by decide +kernel
theorem dX12_years_69 : decode cX12_years 69 = .ok (.aload_n 0, 1) := by decide +kernel
theorem dX12_years_70 : decode cX12_years 70 = .ok (.invokevirtual 440, 3) := by decide +kernel
theorem dX12_years_73 : decode cX12_years 73 = .ok (.iload 6, 2) := by decide +kernel
theorem dX12_years_75 : decode cX12_years 75 = .ok (.aload_n 0, 1) := by decide +kernel
theorem dX12_years_76 : decode cX12_years 76 = .ok (.invokevirtual 347, 3) := by decide +kernel
theorem dX12_years_79 : decode cX12_years 79 = .ok (.invokestatic 255, 3) := by decide +kernel
theorem dX12_years_82 : decode cX12_years 82 = .ok (.istore 6, 2) := by decide +kernel
theorem dX12_years_84 : decode cX12_years 84 = .ok (.iinc 7 1, 3) := by decide +kernel
theorem dX12_years_87 : decode cX12_years 87 = .ok (.goto (-24), 3) := by decide +kernel
theorem dX12_years_90 : decode cX12_years 90 = .ok (.aload_n 0, 1) := by decide +kernel
theorem dX12_years_91 : decode cX12_years 91 = .ok (.iload_n 3, 1) := by decide +kernel
theorem dX12_years_92 : decode cX12_years 92 = .ok (.ifCond .ne 13, 3) := by decide +kernel
theorem dX12_years_95 : decode cX12_years 95 = .ok (.aload_n 0, 1) := by decide +kernel
theorem dX12_years_96 : decode cX12_years 96 = .ok (.invokevirtual 353, 3) := by decide +kernel
theorem dX12_years_99 : decode cX12_years 99 = .ok (.iload 4, 2) := by decide +kernel
theorem dX12_years_101 : decode cX12_years 101 = .ok (.isub, 1) := by decide +kernel
theorem dX12_years_102 : decode cX12_years 102 = .ok (.goto 20, 3) := by decide +kernel
theorem dX12_years_105 : decode cX12_years 105 = .ok (.iload_n 3, 1) := by decide +kernel
theorem dX12_years_106 : decode cX12_years 106 = .ok (.iconst 1, 1) := by decide +kernel
theorem dX12_years_107 : decode cX12_years 107 = .ok (.if_icmp .ne 13, 3) := by decide +kernel
theorem dX12_years_110 : decode cX12_years 110 = .ok (.aload_n 0, 1) := by decide +kernel
theorem dX12_years_111 : decode cX12_years 111 = .ok (.invokevirtual 350, 3) := by decide +kernel
theorem dX12_years_114 : decode cX12_years 114 = .ok (.iload 5, 2) := by decide +kernel
theorem dX12_years_116 : decode cX12_years 116 = .ok (.isub, 1) := by decide +kernel
theorem dX12_years_117 : decode cX12_years 117 = .ok (.goto 5, 3) := by decide +kernel
theorem dX12_years_120 : decode cX12_years 120 = .ok (.iload 6, 2) := by decide +kernel
theorem dX12_years_122 : decode cX12_years 122 = .ok (.invokevirtual 405, 3) := by decide +kernel
theorem dX12_years_125 : decode cX12_years 125 = .ok (.ireturn, 1) := by decide +kernel
theorem dX12_say_0 : decode cX12_say 0 = .ok (.iconst 0, 1) := by decide +kernel
theorem dX12_say_1 : decode cX12_say 1 = .ok (.istore_n 2, 1) := by decide +kernel
theorem dX12_say_2 : decode cX12_say 2 = .ok (.iload_n 2, 1) := by decide +kernel
theorem dX12_say_3 : decode cX12_say 3 = .ok (.aload_n 1, 1) := by decide +kernel
theorem dX12_say_4 : decode cX12_say 4 = .ok (.invokevirtual 166, 3) := by decide +kernel
theorem dX12_say_7 : decode cX12_say 7 = .ok (.if_icmp .ge 33, 3) := by decide +kernel
theorem dX12_say_10 : decode cX12_say 10 = .ok (.aload_n 0, 1) := by decide +kernel
theorem dX12_say_11 : decode cX12_say 11 = .ok (.getfield 97, 3) := by decide +kernel
theorem dX12_say_14 : decode cX12_say 14 = .ok (.aload_n 0, 1) := by decide +kernel
theorem dX12_say_15 : decode cX12_say 15 = .ok (.getfield 443, 3) := by decide +kernel
theorem dX12_say_18 : decode cX12_say 18 = .ok (.aload_n 1, 1) := by decide +kernel
theorem dX12_say_19 : decode cX12_say 19 = .ok (.iload_n 2, 1) := by decide +kernel
theorem dX12_say_20 : decode cX12_say 20 = .ok (.invokevirtual 170, 3) := by decide +kernel
theorem dX12_say_23 : decode cX12_say 23 = .ok (.iastore, 1) := by decide +kernel
theorem dX12_say_24 : decode cX12_say 24 = .ok (.aload_n 0, 1) := by decide +kernel
theorem dX12_say_25 : decode cX12_say 25 = .ok (.dup, 1) := by decide +kernel
theorem dX12_say_26 : decode cX12_say 26 = .ok (.getfield 443, 3) := by decide +kernel
theorem dX12_say_29 : decode cX12_say 29 = .ok (.iconst 1, 1) := by decide +kernel
theorem dX12_say_30 : decode cX12_say 30 = .ok (.iadd, 1) := by decide +kernel
theorem dX12_say_31 : decode cX12_say 31 = .ok (.putfield 443, 3) := by decide +kernel
theorem dX12_say_34 : decode cX12_say 34 = .ok (.iinc 2 1, 3) := by decide +kernel
theorem dX12_say_37 : decode cX12_say 37 = .ok (.goto (-35), 3) := by decide +kernel
theorem dX12_say_40 : decode cX12_say 40 = .ok (.return_, 1) := by decide +kernel
theorem dX12_sayNumber_0 : decode cX12_sayNumber 0 = .ok (.aload_n 0, 1) := by decide +kernel
theorem dX12_sayNumber_1 : decode cX12_sayNumber 1 = .ok (.getfield 97, 3) := by decide +kernel
theorem dX12_sayNumber_4 : decode cX12_sayNumber 4 = .ok (.aload_n 0, 1) := by decide +kernel
theorem dX12_sayNumber_5 : decode cX12_sayNumber 5 = .ok (.getfield 443, 3) := by decide +kernel
theorem dX12_sayNumber_8 : decode cX12_sayNumber 8 = .ok (.bipush 32, 2) := by decide +kernel
theorem dX12_sayNumber_10 : decode cX12_sayNumber 10 = .ok (.iastore, 1) := by decide +kernel
theorem dX12_sayNumber_11 : decode cX12_sayNumber 11 = .ok (.aload_n 0, 1) := by decide +kernel
theorem dX12_sayNumber_12 : decode cX12_sayNumber 12 = .ok (.dup, 1) := by decide +kernel
theorem dX12_sayNumber_13 : decode cX12_sayNumber 13 = .ok (.getfield 443, 3) := by decide +kernel
theorem dX12_sayNumber_16 : decode cX12_sayNumber 16 = .ok (.iconst 1, 1) := by decide +kernel
theorem dX12_sayNumber_17 : decode cX12_sayNumber 17 = .ok (.iadd, 1) := by decide +kernel
theorem dX12_sayNumber_18 : decode cX12_sayNumber 18 = .ok (.putfield 443, 3) := by decide +kernel
theorem dX12_sayNumber_21 : decode cX12_sayNumber 21 = .ok (.iload_n 1, 1) := by decide +kernel
theorem dX12_sayNumber_22 : decode cX12_sayNumber 22 = .ok (.bipush 99, 2) := by decide +kernel
theorem dX12_sayNumber_24 : decode cX12_sayNumber 24 = .ok (.if_icmp .le 8, 3) := by decide +kernel
theorem dX12_sayNumber_27 : decode cX12_sayNumber 27 = .ok (.bipush 100, 2) := by decide +kernel
theorem dX12_sayNumber_29 : decode cX12_sayNumber 29 = .ok (.goto 15, 3) := by decide +kernel
theorem dX12_sayNumber_32 : decode cX12_sayNumber 32 = .ok (.iload_n 1, 1) := by decide +kernel
theorem dX12_sayNumber_33 : decode cX12_sayNumber 33 = .ok (.bipush 9, 2) := by decide +kernel
theorem dX12_sayNumber_35 : decode cX12_sayNumber 35 = .ok (.if_icmp .le 8, 3) := by decide +kernel
theorem dX12_sayNumber_38 : decode cX12_sayNumber 38 = .ok (.bipush 10, 2) := by decide +kernel
theorem dX12_sayNumber_40 : decode cX12_sayNumber 40 = .ok (.goto 4, 3) := by decide +kernel
theorem dX12_sayNumber_43 : decode cX12_sayNumber 43 = .ok (.iconst 1, 1) := by decide +kernel
theorem dX12_sayNumber_44 : decode cX12_sayNumber 44 = .ok (.istore_n 2, 1) := by decide +kernel
theorem dX12_sayNumber_45 : decode cX12_sayNumber 45 = .ok (.iload_n 2, 1) := by decide +kernel
theorem dX12_sayNumber_46 : decode cX12_sayNumber 46 = .ok (.ifCond .le 39, 3) := by decide +kernel
theorem dX12_sayNumber_49 : decode cX12_sayNumber 49 = .ok (.aload_n 0, 1) := by decide +kernel
theorem dX12_sayNumber_50 : decode cX12_sayNumber 50 = .ok (.getfield 97, 3) := by decide +kernel
theorem dX12_sayNumber_53 : decode cX12_sayNumber 53 = .ok (.aload_n 0, 1) := by decide +kernel
theorem dX12_sayNumber_54 : decode cX12_sayNumber 54 = .ok (.getfield 443, 3) := by decide +kernel
theorem dX12_sayNumber_57 : decode cX12_sayNumber 57 = .ok (.bipush 48, 2) := by decide +kernel
theorem dX12_sayNumber_59 : decode cX12_sayNumber 59 = .ok (.iload_n 1, 1) := by decide +kernel
theorem dX12_sayNumber_60 : decode cX12_sayNumber 60 = .ok (.iload_n 2, 1) := by decide +kernel
theorem dX12_sayNumber_61 : decode cX12_sayNumber 61 = .ok (.idiv, 1) := by decide +kernel
theorem dX12_sayNumber_62 : decode cX12_sayNumber 62 = .ok (.bipush 10, 2) := by decide +kernel
theorem dX12_sayNumber_64 : decode cX12_sayNumber 64 = .ok (.irem, 1) := by decide +kernel
theorem dX12_sayNumber_65 : decode cX12_sayNumber 65 = .ok (.iadd, 1) := by decide +kernel
theorem dX12_sayNumber_66 : decode cX12_sayNumber 66 = .ok (.iastore, 1) := by decide +kernel
theorem dX12_sayNumber_67 : decode cX12_sayNumber 67 = .ok (.aload_n 0, 1) := by decide +kernel
theorem dX12_sayNumber_68 : decode cX12_sayNumber 68 = .ok (.dup, 1) := by decide +kernel
theorem dX12_sayNumber_69 : decode cX12_sayNumber 69 = .ok (.getfield 443, 3) := by decide +kernel
theorem dX12_sayNumber_72 : decode cX12_sayNumber 72 = .ok (.iconst 1, 1) := by decide +kernel
theorem dX12_sayNumber_73 : decode cX12_sayNumber 73 = .ok (.iadd, 1) := by decide +kernel
theorem dX12_sayNumber_74 : decode cX12_sayNumber 74 = .ok (.putfield 443, 3) := by decide +kernel
theorem dX12_sayNumber_77 : decode cX12_sayNumber 77 = .ok (.iload_n 2, 1) := by decide +kernel
theorem dX12_sayNumber_78 : decode cX12_sayNumber 78 = .ok (.bipush 10, 2) := by decide +kernel
theorem dX12_sayNumber_80 : decode cX12_sayNumber 80 = .ok (.idiv, 1) := by decide +kernel
theorem dX12_sayNumber_81 : decode cX12_sayNumber 81 = .ok (.istore_n 2, 1) := by decide +kernel
theorem dX12_sayNumber_82 : decode cX12_sayNumber 82 = .ok (.goto (-37), 3) := by decide +kernel
theorem dX12_sayNumber_85 : decode cX12_sayNumber 85 = .ok (.return_, 1) := by decide +kernel
theorem dX12_told_0 : decode cX12_told 0 = .ok (.aload_n 0, 1) := by decide +kernel
theorem dX12_told_1 : decode cX12_told 1 = .ok (.iconst 0, 1) := by decide +kernel
theorem dX12_told_2 : decode cX12_told 2 = .ok (.putfield 118, 3) := by decide +kernel
theorem dX12_told_5 : decode cX12_told 5 = .ok (.aload_n 0, 1) := by decide +kernel
theorem dX12_told_6 : decode cX12_told 6 = .ok (.iload_n 1, 1) := by decide +kernel
theorem dX12_told_7 : decode cX12_told 7 = .ok (.invokevirtual 360, 3) := by decide +kernel
theorem dX12_told_10 : decode cX12_told 10 = .ok (.ifCond .ne 9, 3) := by decide +kernel
theorem dX12_told_13 : decode cX12_told 13 = .ok (.aload_n 0, 1) := by decide +kernel
theorem dX12_told_14 : decode cX12_told 14 = .ok (.iconst 1, 1) := by decide +kernel
theorem dX12_told_15 : decode cX12_told 15 = .ok (.invokevirtual 219, 3) := by decide +kernel
theorem dX12_told_18 : decode cX12_told 18 = .ok (.ireturn, 1) := by decide +kernel
theorem dX12_told_19 : decode cX12_told 19 = .ok (.aload_n 0, 1) := by decide +kernel
theorem dX12_told_20 : decode cX12_told 20 = .ok (.iconst 0, 1) := by decide +kernel
theorem dX12_told_21 : decode cX12_told 21 = .ok (.putfield 443, 3) := by decide +kernel
theorem dX12_told_24 : decode cX12_told 24 = .ok (.aload_n 0, 1) := by decide +kernel
theorem dX12_told_25 : decode cX12_told 25 = .ok (.ldc 209, 2) := by decide +kernel
theorem dX12_told_27 : decode cX12_told 27 = .ok (.invokevirtual 446, 3) := by decide +kernel
theorem dX12_told_30 : decode cX12_told 30 = .ok (.aload_n 0, 1) := by decide +kernel
theorem dX12_told_31 : decode cX12_told 31 = .ok (.getfield 25, 3) := by decide +kernel
theorem dX12_told_34 : decode cX12_told 34 = .ok (.iload_n 1, 1) := by decide +kernel
theorem dX12_told_35 : decode cX12_told 35 = .ok (.iaload, 1) := by decide +kernel
theorem dX12_told_36 : decode cX12_told 36 = .ok (.iconst (-1), 1) := by decide +kernel
theorem dX12_told_37 : decode cX12_told 37 = .ok (.if_icmp .eq 20, 3) := by decide +kernel
theorem dX12_told_40 : decode cX12_told 40 = .ok (.aload_n 0, 1) := by decide +kernel
theorem dX12_told_41 : decode cX12_told 41 = .ok (.ldc_w 450, 3) := by decide +kernel
theorem dX12_told_44 : decode cX12_told 44 = .ok (.invokevirtual 446, 3) := by decide +kernel
theorem dX12_told_47 : decode cX12_told 47 = .ok (.aload_n 0, 1) := by decide +kernel
theorem dX12_told_48 : decode cX12_told 48 = .ok (.aload_n 0, 1) := by decide +kernel
theorem dX12_told_49 : decode cX12_told 49 = .ok (.getfield 25, 3) := by decide +kernel
theorem dX12_told_52 : decode cX12_told 52 = .ok (.iload_n 1, 1) := by decide +kernel
theorem dX12_told_53 : decode cX12_told 53 = .ok (.iaload, 1) := by decide +kernel
theorem dX12_told_54 : decode cX12_told 54 = .ok (.invokevirtual 452, 3) := by decide +kernel
theorem dX12_told_57 : decode cX12_told 57 = .ok (.iconst 0, 1) := by decide +kernel
theorem dX12_told_58 : decode cX12_told 58 = .ok (.istore_n 3, 1) := by decide +kernel
theorem dX12_told_59 : decode cX12_told 59 = .ok (.iload_n 3, 1) := by decide +kernel
theorem dX12_told_60 : decode cX12_told 60 = .ok (.iconst 3, 1) := by decide +kernel
theorem dX12_told_61 : decode cX12_told 61 = .ok (.if_icmp .ge 70, 3) := by decide +kernel
theorem dX12_told_64 : decode cX12_told 64 = .ok (.aload_n 0, 1) := by decide +kernel
theorem dX12_told_65 : decode cX12_told 65 = .ok (.iload_n 1, 1) := by decide +kernel
theorem dX12_told_66 : decode cX12_told 66 = .ok (.iload_n 3, 1) := by decide +kernel
theorem dX12_told_67 : decode cX12_told 67 = .ok (.invokevirtual 283, 3) := by decide +kernel
theorem dX12_told_70 : decode cX12_told 70 = .ok (.ifCond .ne 6, 3) := by decide +kernel
theorem dX12_told_73 : decode cX12_told 73 = .ok (.goto 52, 3) := by decide +kernel
theorem dX12_told_76 : decode cX12_told 76 = .ok (.aload_n 0, 1) := by decide +kernel
theorem dX12_told_77 : decode cX12_told 77 = .ok (.ldc_w 455, 3) := by decide +kernel
theorem dX12_told_80 : decode cX12_told 80 = .ok (.invokevirtual 446, 3) := by decide +kernel
theorem dX12_told_83 : decode cX12_told 83 = .ok (.aload_n 0, 1) := by decide +kernel
theorem dX12_told_84 : decode cX12_told 84 = .ok (.aload_n 0, 1) := by decide +kernel
theorem dX12_told_85 : decode cX12_told 85 = .ok (.getfield 15, 3) := by decide +kernel
theorem dX12_told_88 : decode cX12_told 88 = .ok (.iload_n 3, 1) := by decide +kernel
theorem dX12_told_89 : decode cX12_told 89 = .ok (.aaload, 1) := by decide +kernel
theorem dX12_told_90 : decode cX12_told 90 = .ok (.invokevirtual 446, 3) := by decide +kernel
theorem dX12_told_93 : decode cX12_told 93 = .ok (.iconst 1, 1) := by decide +kernel
theorem dX12_told_94 : decode cX12_told 94 = .ok (.istore 4, 2) := by decide +kernel
theorem dX12_told_96 : decode cX12_told 96 = .ok (.iload 4, 2) := by decide +kernel
theorem dX12_told_98 : decode cX12_told 98 = .ok (.iconst 4, 1) := by decide +kernel
theorem dX12_told_99 : decode cX12_told 99 = .ok (.if_icmp .ge 26, 3) := by decide +kernel
theorem dX12_told_102 : decode cX12_told 102 = .ok (.aload_n 0, 1) := by decide +kernel
theorem dX12_told_103 : decode cX12_told 103 = .ok (.aload_n 0, 1) := by decide +kernel
theorem dX12_told_104 : decode cX12_told 104 = .ok (.getfield 43, 3) := by decide +kernel
theorem dX12_told_107 : decode cX12_told 107 = .ok (.iload_n 1, 1) := by decide +kernel
theorem dX12_told_108 : decode cX12_told 108 = .ok (.iload_n 3, 1) := by decide +kernel
theorem dX12_told_109 : decode cX12_told 109 = .ok (.invokestatic 245, 3) := by decide +kernel
theorem dX12_told_112 : decode cX12_told 112 = .ok (.iload 4, 2) := by decide +kernel
theorem dX12_told_114 : decode cX12_told 114 = .ok (.iadd, 1) := by decide +kernel
theorem dX12_told_115 : decode cX12_told 115 = .ok (.iaload, 1) := by decide +kernel
theorem dX12_told_116 : decode cX12_told 116 = .ok (.invokevirtual 452, 3) := by decide +kernel
theorem dX12_told_119 : decode cX12_told 119 = .ok (.iinc 4 1, 3) := by decide +kernel
theorem dX12_told_122 : decode cX12_told 122 = .ok (.goto (-26), 3) := by decide +kernel
theorem dX12_told_125 : decode cX12_told 125 = .ok (.iinc 3 1, 3) := by decide +kernel
theorem dX12_told_128 : decode cX12_told 128 = .ok (.goto (-69), 3) := by decide +kernel
theorem dX12_told_131 : decode cX12_told 131 = .ok (.aload_n 0, 1) := by decide +kernel
theorem dX12_told_132 : decode cX12_told 132 = .ok (.ldc_w 457, 3) := by decide +kernel
theorem dX12_told_135 : decode cX12_told 135 = .ok (.invokevirtual 446, 3) := by decide +kernel
theorem dX12_told_138 : decode cX12_told 138 = .ok (.iload_n 2, 1) := by decide +kernel
theorem dX12_told_139 : decode cX12_told 139 = .ok (.iconst (-1), 1) := by decide +kernel
theorem dX12_told_140 : decode cX12_told 140 = .ok (.if_icmp .ne 10, 3) := by decide +kernel
theorem dX12_told_143 : decode cX12_told 143 = .ok (.aload_n 0, 1) := by decide +kernel
theorem dX12_told_144 : decode cX12_told 144 = .ok (.getfield 443, 3) := by decide +kernel
theorem dX12_told_147 : decode cX12_told 147 = .ok (.goto 31, 3) := by decide +kernel
theorem dX12_told_150 : decode cX12_told 150 = .ok (.iload_n 2, 1) := by decide +kernel
theorem dX12_told_151 : decode cX12_told 151 = .ok (.iconst 0, 1) := by decide +kernel
theorem dX12_told_152 : decode cX12_told 152 = .ok (.aload_n 0, 1) := by decide +kernel
theorem dX12_told_153 : decode cX12_told 153 = .ok (.getfield 443, 3) := by decide +kernel
theorem dX12_told_156 : decode cX12_told 156 = .ok (.iconst 1, 1) := by decide +kernel
theorem dX12_told_157 : decode cX12_told 157 = .ok (.isub, 1) := by decide +kernel
theorem dX12_told_158 : decode cX12_told 158 = .ok (.invokestatic 356, 3) := by decide +kernel
theorem dX12_told_161 : decode cX12_told 161 = .ok (.ifCond .eq 12, 3) := by decide +kernel
theorem dX12_told_164 : decode cX12_told 164 = .ok (.aload_n 0, 1) := by decide +kernel
theorem dX12_told_165 : decode cX12_told 165 = .ok (.getfield 97, 3) := by decide +kernel
theorem dX12_told_168 : decode cX12_told 168 = .ok (.iload_n 2, 1) := by decide +kernel
theorem dX12_told_169 : decode cX12_told 169 = .ok (.iaload, 1) := by decide +kernel
theorem dX12_told_170 : decode cX12_told 170 = .ok (.goto 8, 3) := by decide +kernel
theorem dX12_told_173 : decode cX12_told 173 = .ok (.aload_n 0, 1) := by decide +kernel
theorem dX12_told_174 : decode cX12_told 174 = .ok (.iconst 1, 1) := by decide +kernel
theorem dX12_told_175 : decode cX12_told 175 = .ok (.invokevirtual 219, 3) := by decide +kernel
theorem dX12_told_178 : decode cX12_told 178 = .ok (.ireturn, 1) := by decide +kernel
theorem dX12_image_0 : decode cX12_image 0 = .ok (.aload_n 0, 1) := by decide +kernel
theorem dX12_image_1 : decode cX12_image 1 = .ok (.iconst 0, 1) := by decide +kernel
theorem dX12_image_2 : decode cX12_image 2 = .ok (.putfield 118, 3) := by decide +kernel
theorem dX12_image_5 : decode cX12_image 5 = .ok (.aload_n 0, 1) := by decide +kernel
theorem dX12_image_6 : decode cX12_image 6 = .ok (.iconst 1, 1) := by decide +kernel
theorem dX12_image_7 : decode cX12_image 7 = .ok (.putfield 238, 3) := by decide +kernel
theorem dX12_image_10 : decode cX12_image 10 = .ok (.aload_n 0, 1) := by decide +kernel
theorem dX12_image_11 : decode cX12_image 11 = .ok (.aload_n 0, 1) := by decide +kernel
theorem dX12_image_12 : decode cX12_image 12 = .ok (.getfield 232, 3) := by decide +kernel
theorem dX12_image_15 : decode cX12_image 15 = .ok (.putfield 459, 3) := by decide +kernel
theorem dX12_image_18 : decode cX12_image 18 = .ok (.aload_n 0, 1) := by decide +kernel
theorem dX12_image_19 : decode cX12_image 19 = .ok (.aload_n 0, 1) := by decide +kernel
theorem dX12_image_20 : decode cX12_image 20 = .ok (.getfield 235, 3) := by decide +kernel
theorem dX12_image_23 : decode cX12_image 23 = .ok (.putfield 462, 3) := by decide +kernel
theorem dX12_image_26 : decode cX12_image 26 = .ok (.aload_n 0, 1) := by decide +kernel
theorem dX12_image_27 : decode cX12_image 27 = .ok (.getfield 100, 3) := by decide +kernel
theorem dX12_image_30 : decode cX12_image 30 = .ok (.aload_n 0, 1) := by decide +kernel
theorem dX12_image_31 : decode cX12_image 31 = .ok (.getfield 43, 3) := by decide +kernel
theorem dX12_image_34 : decode cX12_image 34 = .ok (.invokestatic 398, 3) := by decide +kernel
theorem dX12_image_37 : decode cX12_image 37 = .ok (.aload_n 0, 1) := by decide +kernel
theorem dX12_image_38 : decode cX12_image 38 = .ok (.getfield 103, 3) := by decide +kernel
theorem dX12_image_41 : decode cX12_image 41 = .ok (.aload_n 0, 1) := by decide +kernel
theorem dX12_image_42 : decode cX12_image 42 = .ok (.getfield 73, 3) := by decide +kernel
theorem dX12_image_45 : decode cX12_image 45 = .ok (.invokestatic 398, 3) := by decide +kernel
theorem dX12_image_48 : decode cX12_image 48 = .ok (.aload_n 0, 1) := by decide +kernel
theorem dX12_image_49 : decode cX12_image 49 = .ok (.getfield 106, 3) := by decide +kernel
theorem dX12_image_52 : decode cX12_image 52 = .ok (.aload_n 0, 1) := by decide +kernel
theorem dX12_image_53 : decode cX12_image 53 = .ok (.getfield 79, 3) := by decide +kernel
theorem dX12_image_56 : decode cX12_image 56 = .ok (.invokestatic 398, 3) := by decide +kernel
theorem dX12_image_59 : decode cX12_image 59 = .ok (.aload_n 0, 1) := by decide +kernel
theorem dX12_image_60 : decode cX12_image 60 = .ok (.getfield 109, 3) := by decide +kernel
theorem dX12_image_63 : decode cX12_image 63 = .ok (.aload_n 0, 1) := by decide +kernel
theorem dX12_image_64 : decode cX12_image 64 = .ok (.getfield 82, 3) := by decide +kernel
theorem dX12_image_67 : decode cX12_image 67 = .ok (.invokestatic 398, 3) := by decide +kernel
theorem dX12_image_70 : decode cX12_image 70 = .ok (.aload_n 0, 1) := by decide +kernel
theorem dX12_image_71 : decode cX12_image 71 = .ok (.getfield 112, 3) := by decide +kernel
theorem dX12_image_74 : decode cX12_image 74 = .ok (.aload_n 0, 1) := by decide +kernel
theorem dX12_image_75 : decode cX12_image 75 = .ok (.getfield 85, 3) := by decide +kernel
theorem dX12_image_78 : decode cX12_image 78 = .ok (.invokestatic 398, 3) := by decide +kernel
theorem dX12_image_81 : decode cX12_image 81 = .ok (.aload_n 0, 1) := by decide +kernel
theorem dX12_image_82 : decode cX12_image 82 = .ok (.getfield 115, 3) := by decide +kernel
theorem dX12_image_85 : decode cX12_image 85 = .ok (.aload_n 0, 1) := by decide +kernel
theorem dX12_image_86 : decode cX12_image 86 = .ok (.getfield 46, 3) := by decide +kernel
theorem dX12_image_89 : decode cX12_image 89 = .ok (.invokestatic 398, 3) := by decide +kernel
theorem dX12_image_92 : decode cX12_image 92 = .ok (.return_, 1) := by decide +kernel
theorem dX12_restore_0 : decode cX12_restore 0 = .ok (.aload_n 0, 1) := by decide +kernel
theorem dX12_restore_1 : decode cX12_restore 1 = .ok (.iconst 0, 1) := by decide +kernel
theorem dX12_restore_2 : decode cX12_restore 2 = .ok (.putfield 118, 3) := by decide +kernel
theorem dX12_restore_5 : decode cX12_restore 5 = .ok (.aload_n 0, 1) := by decide +kernel
theorem dX12_restore_6 : decode cX12_restore 6 = .ok (.getfield 238, 3) := by decide +kernel
theorem dX12_restore_9 : decode cX12_restore 9 = .ok (.ifCond .ne 5, 3) := by decide +kernel
theorem dX12_restore_12 : decode cX12_restore 12 = .ok (.iconst 0, 1) := by decide +kernel
theorem dX12_restore_13 : decode cX12_restore 13 = .ok (.ireturn, 1) := by decide +kernel
theorem dX12_restore_14 : decode cX12_restore 14 = .ok (.aload_n 0, 1) := by decide +kernel
theorem dX12_restore_15 : decode cX12_restore 15 = .ok (.aload_n 0, 1) := by decide +kernel
theorem dX12_restore_16 : decode cX12_restore 16 = .ok (.getfield 459, 3) := by decide +kernel
theorem dX12_restore_19 : decode cX12_restore 19 = .ok (.putfield 232, 3) := by decide +kernel
theorem dX12_restore_22 : decode cX12_restore 22 = .ok (.aload_n 0, 1) := by decide +kernel
theorem dX12_restore_23 : decode cX12_restore 23 = .ok (.aload_n 0, 1) := by decide +kernel
theorem dX12_restore_24 : decode cX12_restore 24 = .ok (.getfield 462, 3) := by decide +kernel
theorem dX12_restore_27 : decode cX12_restore 27 = .ok (.putfield 235, 3) := by decide +kernel
theorem dX12_restore_30 : decode cX12_restore 30 = .ok (.aload_n 0, 1) := by decide +kernel
theorem dX12_restore_31 : decode cX12_restore 31 = .ok (.getfield 43, 3) := by decide +kernel
theorem dX12_restore_34 : decode cX12_restore 34 = .ok (.aload_n 0, 1) := by decide +kernel
theorem dX12_restore_35 : decode cX12_restore 35 = .ok (.getfield 100, 3) := by decide +kernel
theorem dX12_restore_38 : decode cX12_restore 38 = .ok (.invokestatic 398, 3) := by decide +kernel
theorem dX12_restore_41 : decode cX12_restore 41 = .ok (.aload_n 0, 1) := by decide +kernel
theorem dX12_restore_42 : decode cX12_restore 42 = .ok (.getfield 73, 3) := by decide +kernel
theorem dX12_restore_45 : decode cX12_restore 45 = .ok (.aload_n 0, 1) := by decide +kernel
theorem dX12_restore_46 : decode cX12_restore 46 = .ok (.getfield 103, 3) := by decide +kernel
theorem dX12_restore_49 : decode cX12_restore 49 = .ok (.invokestatic 398, 3) := by decide +kernel
theorem dX12_restore_52 : decode cX12_restore 52 = .ok (.aload_n 0, 1) := by decide +kernel
theorem dX12_restore_53 : decode cX12_restore 53 = .ok (.getfield 79, 3) := by decide +kernel
theorem dX12_restore_56 : decode cX12_restore 56 = .ok (.aload_n 0, 1) := by decide +kernel
theorem dX12_restore_57 : decode cX12_restore 57 = .ok (.getfield 106, 3) := by decide +kernel
theorem dX12_restore_60 : decode cX12_restore 60 = .ok (.invokestatic 398, 3) := by decide +kernel
theorem dX12_restore_63 : decode cX12_restore 63 = .ok (.aload_n 0, 1) := by decide +kernel
theorem dX12_restore_64 : decode cX12_restore 64 = .ok (.getfield 82, 3) := by decide +kernel
theorem dX12_restore_67 : decode cX12_restore 67 = .ok (.aload_n 0, 1) := by decide +kernel
theorem dX12_restore_68 : decode cX12_restore 68 = .ok (.getfield 109, 3) := by decide +kernel
theorem dX12_restore_71 : decode cX12_restore 71 = .ok (.invokestatic 398, 3) := by decide +kernel
theorem dX12_restore_74 : decode cX12_restore 74 = .ok (.aload_n 0, 1) := by decide +kernel
theorem dX12_restore_75 : decode cX12_restore 75 = .ok (.getfield 85, 3) := by decide +kernel
theorem dX12_restore_78 : decode cX12_restore 78 = .ok (.aload_n 0, 1) := by decide +kernel
theorem dX12_restore_79 : decode cX12_restore 79 = .ok (.getfield 112, 3) := by decide +kernel
theorem dX12_restore_82 : decode cX12_restore 82 = .ok (.invokestatic 398, 3) := by decide +kernel
theorem dX12_restore_85 : decode cX12_restore 85 = .ok (.aload_n 0, 1) := by decide +kernel
theorem dX12_restore_86 : decode cX12_restore 86 = .ok (.getfield 46, 3) := by decide +kernel
theorem dX12_restore_89 : decode cX12_restore 89 = .ok (.aload_n 0, 1) := by decide +kernel
theorem dX12_restore_90 : decode cX12_restore 90 = .ok (.getfield 115, 3) := by decide +kernel
theorem dX12_restore_93 : decode cX12_restore 93 = .ok (.invokestatic 398, 3) := by decide +kernel
theorem dX12_restore_96 : decode cX12_restore 96 = .ok (.iconst 1, 1) := by decide +kernel
theorem dX12_restore_97 : decode cX12_restore 97 = .ok (.ireturn, 1) := by decide +kernel
theorem dJ9_max_7cf53_0 : decode cJ9_max_7cf53 0 = .ok (.iload_n 0, 1) := by decide +kernel
theorem dJ9_max_7cf53_1 : decode cJ9_max_7cf53 1 = .ok (.iload_n 1, 1) := by decide +kernel
theorem dJ9_max_7cf53_2 : decode cJ9_max_7cf53 2 = .ok (.if_icmp .lt 7, 3) := by decide +kernel
theorem dJ9_max_7cf53_5 : decode cJ9_max_7cf53 5 = .ok (.iload_n 0, 1) := by decide +kernel
theorem dJ9_max_7cf53_6 : decode cJ9_max_7cf53 6 = .ok (.goto 4, 3) := by decide +kernel
theorem dJ9_max_7cf53_9 : decode cJ9_max_7cf53 9 = .ok (.iload_n 1, 1) := by decide +kernel
theorem dJ9_max_7cf53_10 : decode cJ9_max_7cf53 10 = .ok (.ireturn, 1) := by decide +kernel
theorem dJ9_min_7cf53_0 : decode cJ9_min_7cf53 0 = .ok (.iload_n 0, 1) := by decide +kernel
theorem dJ9_min_7cf53_1 : decode cJ9_min_7cf53 1 = .ok (.iload_n 1, 1) := by decide +kernel
theorem dJ9_min_7cf53_2 : decode cJ9_min_7cf53 2 = .ok (.if_icmp .gt 7, 3) := by decide +kernel
theorem dJ9_min_7cf53_5 : decode cJ9_min_7cf53 5 = .ok (.iload_n 0, 1) := by decide +kernel
theorem dJ9_min_7cf53_6 : decode cJ9_min_7cf53 6 = .ok (.goto 4, 3) := by decide +kernel
theorem dJ9_min_7cf53_9 : decode cJ9_min_7cf53 9 = .ok (.iload_n 1, 1) := by decide +kernel
theorem dJ9_min_7cf53_10 : decode cJ9_min_7cf53 10 = .ok (.ireturn, 1) := by decide +kernel
theorem dJ0_length_8abf5_0 : decode cJ0_length_8abf5 0 = .ok (.aload_n 0, 1) := by decide +kernel
theorem dJ0_length_8abf5_1 : decode cJ0_length_8abf5 1 = .ok (.getfield 9, 3) := by decide +kernel
theorem dJ0_length_8abf5_4 : decode cJ0_length_8abf5 4 = .ok (.arraylength, 1) := by decide +kernel
theorem dJ0_length_8abf5_5 : decode cJ0_length_8abf5 5 = .ok (.aload_n 0, 1) := by decide +kernel
theorem dJ0_length_8abf5_6 : decode cJ0_length_8abf5 6 = .ok (.invokevirtual 335, 3) := by decide +kernel
theorem dJ0_length_8abf5_9 : decode cJ0_length_8abf5 9 = .ok (.ishr, 1) := by decide +kernel
theorem dJ0_length_8abf5_10 : decode cJ0_length_8abf5 10 = .ok (.ireturn, 1) := by decide +kernel
theorem dJ0_charAt_5068e_0 : decode cJ0_charAt_5068e 0 = .ok (.aload_n 0, 1) := by decide +kernel
theorem dJ0_charAt_5068e_1 : decode cJ0_charAt_5068e 1 = .ok (.invokevirtual 492, 3) := by decide +kernel
theorem dJ0_charAt_5068e_4 : decode cJ0_charAt_5068e 4 = .ok (.ifCond .eq 12, 3) := by decide +kernel
theorem dJ0_charAt_5068e_7 : decode cJ0_charAt_5068e 7 = .ok (.aload_n 0, 1) := by decide +kernel
theorem dJ0_charAt_5068e_8 : decode cJ0_charAt_5068e 8 = .ok (.getfield 9, 3) := by decide +kernel
theorem dJ0_charAt_5068e_11 : decode cJ0_charAt_5068e 11 = .ok (.iload_n 1, 1) := by decide +kernel
theorem dJ0_charAt_5068e_12 : decode cJ0_charAt_5068e 12 = .ok (.invokestatic 495, 3) := by decide +kernel
theorem dJ0_charAt_5068e_15 : decode cJ0_charAt_5068e 15 = .ok (.ireturn, 1) := by decide +kernel
theorem dJ0_charAt_5068e_16 : decode cJ0_charAt_5068e 16 = .ok (.aload_n 0, 1) := by decide +kernel
theorem dJ0_charAt_5068e_17 : decode cJ0_charAt_5068e 17 = .ok (.getfield 9, 3) := by decide +kernel
theorem dJ0_charAt_5068e_20 : decode cJ0_charAt_5068e 20 = .ok (.iload_n 1, 1) := by decide +kernel
theorem dJ0_charAt_5068e_21 : decode cJ0_charAt_5068e 21 = .ok (.invokestatic 498, 3) := by decide +kernel
theorem dJ0_charAt_5068e_24 : decode cJ0_charAt_5068e 24 = .ok (.ireturn, 1) := by decide +kernel
theorem dJ0_coder_7d493_0 : decode cJ0_coder_7d493 0 = .ok (.getstatic 38, 3) := by decide +kernel
theorem dJ0_coder_7d493_3 : decode cJ0_coder_7d493 3 = .ok (.ifCond .eq 10, 3) := by decide +kernel
theorem dJ0_coder_7d493_6 : decode cJ0_coder_7d493 6 = .ok (.aload_n 0, 1) := by decide +kernel
theorem dJ0_coder_7d493_7 : decode cJ0_coder_7d493 7 = .ok (.getfield 15, 3) := by decide +kernel
theorem dJ0_coder_7d493_10 : decode cJ0_coder_7d493 10 = .ok (.goto 4, 3) := by decide +kernel
theorem dJ0_coder_7d493_13 : decode cJ0_coder_7d493 13 = .ok (.iconst 1, 1) := by decide +kernel
theorem dJ0_coder_7d493_14 : decode cJ0_coder_7d493 14 = .ok (.ireturn, 1) := by decide +kernel
theorem dJ0_isLatin1_aae02_0 : decode cJ0_isLatin1_aae02 0 = .ok (.getstatic 38, 3) := by decide +kernel
theorem dJ0_isLatin1_aae02_3 : decode cJ0_isLatin1_aae02 3 = .ok (.ifCond .eq 14, 3) := by decide +kernel
theorem dJ0_isLatin1_aae02_6 : decode cJ0_isLatin1_aae02 6 = .ok (.aload_n 0, 1) := by decide +kernel
theorem dJ0_isLatin1_aae02_7 : decode cJ0_isLatin1_aae02 7 = .ok (.getfield 15, 3) := by decide +kernel
theorem dJ0_isLatin1_aae02_10 : decode cJ0_isLatin1_aae02 10 = .ok (.ifCond .ne 7, 3) := by decide +kernel
theorem dJ0_isLatin1_aae02_13 : decode cJ0_isLatin1_aae02 13 = .ok (.iconst 1, 1) := by decide +kernel
theorem dJ0_isLatin1_aae02_14 : decode cJ0_isLatin1_aae02 14 = .ok (.goto 4, 3) := by decide +kernel
theorem dJ0_isLatin1_aae02_17 : decode cJ0_isLatin1_aae02 17 = .ok (.iconst 0, 1) := by decide +kernel
theorem dJ0_isLatin1_aae02_18 : decode cJ0_isLatin1_aae02 18 = .ok (.ireturn, 1) := by decide +kernel
theorem dJ0_checkIndex_df160_0 : decode cJ0_checkIndex_df160 0 = .ok (.iload_n 0, 1) := by decide +kernel
theorem dJ0_checkIndex_df160_1 : decode cJ0_checkIndex_df160 1 = .ok (.iload_n 1, 1) := by decide +kernel
theorem dJ0_checkIndex_df160_2 : decode cJ0_checkIndex_df160 2 = .ok (.getstatic 1053, 3) := by decide +kernel
theorem dJ0_checkIndex_df160_5 : decode cJ0_checkIndex_df160 5 = .ok (.invokestatic 1059, 3) := by decide +kernel
theorem dJ0_checkIndex_df160_8 : decode cJ0_checkIndex_df160 8 = .ok (.pop, 1) := by decide +kernel
theorem dJ0_checkIndex_df160_9 : decode cJ0_checkIndex_df160 9 = .ok (.return_, 1) := by decide +kernel
theorem dJ1_charAt_3b067_0 : decode cJ1_charAt_3b067 0 = .ok (.iload_n 1, 1) := by decide +kernel
theorem dJ1_charAt_3b067_1 : decode cJ1_charAt_3b067 1 = .ok (.aload_n 0, 1) := by decide +kernel
theorem dJ1_charAt_3b067_2 : decode cJ1_charAt_3b067 2 = .ok (.arraylength, 1) := by decide +kernel
theorem dJ1_charAt_3b067_3 : decode cJ1_charAt_3b067 3 = .ok (.invokestatic 9, 3) := by decide +kernel
theorem dJ1_charAt_3b067_6 : decode cJ1_charAt_3b067 6 = .ok (.aload_n 0, 1) := by decide +kernel
theorem dJ1_charAt_3b067_7 : decode cJ1_charAt_3b067 7 = .ok (.iload_n 1, 1) := by decide +kernel
theorem dJ1_charAt_3b067_8 : decode cJ1_charAt_3b067 8 = .ok (.baload, 1) := by decide +kernel
theorem dJ1_charAt_3b067_9 : decode cJ1_charAt_3b067 9 = .ok (.sipush 255, 3) := by decide +kernel
theorem dJ1_charAt_3b067_12 : decode cJ1_charAt_3b067 12 = .ok (.iand, 1) := by decide +kernel
theorem dJ1_charAt_3b067_13 : decode cJ1_charAt_3b067 13 = .ok (.i2c, 1) := by decide +kernel
theorem dJ1_charAt_3b067_14 : decode cJ1_charAt_3b067 14 = .ok (.ireturn, 1) := by decide +kernel
theorem dJ2_getChar_3b067_0 : decode cJ2_getChar_3b067 0 = .ok (.getstatic 44, 3) := by decide +kernel
theorem dJ2_getChar_3b067_3 : decode cJ2_getChar_3b067 3 = .ok (.ifCond .ne 25, 3) := by decide +kernel
theorem dJ2_getChar_3b067_6 : decode cJ2_getChar_3b067 6 = .ok (.iload_n 1, 1) := by decide +kernel
theorem dJ2_getChar_3b067_7 : decode cJ2_getChar_3b067 7 = .ok (.ifCond .lt 11, 3) := by decide +kernel
theorem dJ2_getChar_3b067_10 : decode cJ2_getChar_3b067 10 = .ok (.iload_n 1, 1) := by decide +kernel
theorem dJ2_getChar_3b067_11 : decode cJ2_getChar_3b067 11 = .ok (.aload_n 0, 1) := by decide +kernel
theorem dJ2_getChar_3b067_12 : decode cJ2_getChar_3b067 12 = .ok (.invokestatic 48, 3) := by decide +kernel
theorem dJ2_getChar_3b067_15 : decode cJ2_getChar_3b067 15 = .ok (.if_icmp .lt 13, 3) := by decide +kernel
theorem dJ2_getChar_3b067_18 : decode cJ2_getChar_3b067 18 = .ok (.new 52, 3) := by decide +kernel
theorem dJ2_getChar_3b067_21 : decode cJ2_getChar_3b067 21 = .ok (.dup, 1) := by decide +kernel
theorem dJ2_getChar_3b067_22 : decode cJ2_getChar_3b067 22 = .ok (.ldc 54, 2) := by decide +kernel
theorem dJ2_getChar_3b067_24 : decode cJ2_getChar_3b067 24 = .ok (.invokespecial 56, 3) := by decide +kernel
theorem dJ2_getChar_3b067_27 : decode cJ2_getChar_3b067 27 = .ok (.athrow, 1) := by decide +kernel
theorem dJ2_getChar_3b067_28 : decode cJ2_getChar_3b067 28 = .ok (.iload_n 1, 1) := by decide +kernel
theorem dJ2_getChar_3b067_29 : decode cJ2_getChar_3b067 29 = .ok (.iconst 1, 1) := by decide +kernel
theorem dJ2_getChar_3b067_30 : decode cJ2_getChar_3b067 30 = .ok (.ishl, 1) := by decide +kernel
theorem dJ2_getChar_3b067_31 : decode cJ2_getChar_3b067 31 = .ok (.istore_n 1, 1) := by decide +kernel
theorem dJ2_getChar_3b067_32 : decode cJ2_getChar_3b067 32 = .ok (.aload_n 0, 1) := by decide +kernel
theorem dJ2_getChar_3b067_33 : decode cJ2_getChar_3b067 33 = .ok (.iload_n 1, 1) := by decide +kernel
theorem dJ2_getChar_3b067_34 : decode cJ2_getChar_3b067 34 = .ok (.iinc 1 1, 3) := by decide +kernel
theorem dJ2_getChar_3b067_37 : decode cJ2_getChar_3b067 37 = .ok (.baload, 1) := by decide +kernel
theorem dJ2_getChar_3b067_38 : decode cJ2_getChar_3b067 38 = .ok (.sipush 255, 3) := by decide +kernel
theorem dJ2_getChar_3b067_41 : decode cJ2_getChar_3b067 41 = .ok (.iand, 1) := by decide +kernel
theorem dJ2_getChar_3b067_42 : decode cJ2_getChar_3b067 42 = .ok (.getstatic 59, 3) := by decide +kernel
theorem dJ2_getChar_3b067_45 : decode cJ2_getChar_3b067 45 = .ok (.ishl, 1) := by decide +kernel
theorem dJ2_getChar_3b067_46 : decode cJ2_getChar_3b067 46 = .ok (.aload_n 0, 1) := by decide +kernel
theorem dJ2_getChar_3b067_47 : decode cJ2_getChar_3b067 47 = .ok (.iload_n 1, 1) := by decide +kernel
theorem dJ2_getChar_3b067_48 : decode cJ2_getChar_3b067 48 = .ok (.baload, 1) := by decide +kernel
theorem dJ2_getChar_3b067_49 : decode cJ2_getChar_3b067 49 = .ok (.sipush 255, 3) := by decide +kernel
theorem dJ2_getChar_3b067_52 : decode cJ2_getChar_3b067 52 = .ok (.iand, 1) := by decide +kernel
theorem dJ2_getChar_3b067_53 : decode cJ2_getChar_3b067 53 = .ok (.getstatic 63, 3) := by decide +kernel
theorem dJ2_getChar_3b067_56 : decode cJ2_getChar_3b067 56 = .ok (.ishl, 1) := by decide +kernel
theorem dJ2_getChar_3b067_57 : decode cJ2_getChar_3b067 57 = .ok (.ior, 1) := by decide +kernel
theorem dJ2_getChar_3b067_58 : decode cJ2_getChar_3b067 58 = .ok (.i2c, 1) := by decide +kernel
theorem dJ2_getChar_3b067_59 : decode cJ2_getChar_3b067 59 = .ok (.ireturn, 1) := by decide +kernel
theorem dJ2_length_9d52b_0 : decode cJ2_length_9d52b 0 = .ok (.aload_n 0, 1) := by decide +kernel
theorem dJ2_length_9d52b_1 : decode cJ2_length_9d52b 1 = .ok (.arraylength, 1) := by decide +kernel
theorem dJ2_length_9d52b_2 : decode cJ2_length_9d52b 2 = .ok (.iconst 1, 1) := by decide +kernel
theorem dJ2_length_9d52b_3 : decode cJ2_length_9d52b 3 = .ok (.ishr, 1) := by decide +kernel
theorem dJ2_length_9d52b_4 : decode cJ2_length_9d52b 4 = .ok (.ireturn, 1) := by decide +kernel
theorem dJ2_charAt_3b067_0 : decode cJ2_charAt_3b067 0 = .ok (.iload_n 1, 1) := by decide +kernel
theorem dJ2_charAt_3b067_1 : decode cJ2_charAt_3b067 1 = .ok (.aload_n 0, 1) := by decide +kernel
theorem dJ2_charAt_3b067_2 : decode cJ2_charAt_3b067 2 = .ok (.invokestatic 67, 3) := by decide +kernel
theorem dJ2_charAt_3b067_5 : decode cJ2_charAt_3b067 5 = .ok (.aload_n 0, 1) := by decide +kernel
theorem dJ2_charAt_3b067_6 : decode cJ2_charAt_3b067 6 = .ok (.iload_n 1, 1) := by decide +kernel
theorem dJ2_charAt_3b067_7 : decode cJ2_charAt_3b067 7 = .ok (.invokestatic 71, 3) := by decide +kernel
theorem dJ2_charAt_3b067_10 : decode cJ2_charAt_3b067 10 = .ok (.ireturn, 1) := by decide +kernel
theorem dJ2_checkIndex_2214a_0 : decode cJ2_checkIndex_2214a 0 = .ok (.iload_n 0, 1) := by decide +kernel
theorem dJ2_checkIndex_2214a_1 : decode cJ2_checkIndex_2214a 1 = .ok (.aload_n 1, 1) := by decide +kernel
theorem dJ2_checkIndex_2214a_2 : decode cJ2_checkIndex_2214a 2 = .ok (.invokestatic 48, 3) := by decide +kernel
theorem dJ2_checkIndex_2214a_5 : decode cJ2_checkIndex_2214a 5 = .ok (.invokestatic 414, 3) := by decide +kernel
theorem dJ2_checkIndex_2214a_8 : decode cJ2_checkIndex_2214a 8 = .ok (.return_, 1) := by decide +kernel
theorem dJ7_fill_53178_0 : decode cJ7_fill_53178 0 = .ok (.iconst 0, 1) := by decide +kernel
theorem dJ7_fill_53178_1 : decode cJ7_fill_53178 1 = .ok (.istore_n 2, 1) := by decide +kernel
theorem dJ7_fill_53178_2 : decode cJ7_fill_53178 2 = .ok (.aload_n 0, 1) := by decide +kernel
theorem dJ7_fill_53178_3 : decode cJ7_fill_53178 3 = .ok (.arraylength, 1) := by decide +kernel
theorem dJ7_fill_53178_4 : decode cJ7_fill_53178 4 = .ok (.istore_n 3, 1) := by decide +kernel
theorem dJ7_fill_53178_5 : decode cJ7_fill_53178 5 = .ok (.iload_n 2, 1) := by decide +kernel
theorem dJ7_fill_53178_6 : decode cJ7_fill_53178 6 = .ok (.iload_n 3, 1) := by decide +kernel
theorem dJ7_fill_53178_7 : decode cJ7_fill_53178 7 = .ok (.if_icmp .ge 13, 3) := by decide +kernel
theorem dJ7_fill_53178_10 : decode cJ7_fill_53178 10 = .ok (.aload_n 0, 1) := by decide +kernel
theorem dJ7_fill_53178_11 : decode cJ7_fill_53178 11 = .ok (.iload_n 2, 1) := by decide +kernel
theorem dJ7_fill_53178_12 : decode cJ7_fill_53178 12 = .ok (.iload_n 1, 1) := by decide +kernel
theorem dJ7_fill_53178_13 : decode cJ7_fill_53178 13 = .ok (.iastore, 1) := by decide +kernel
theorem dJ7_fill_53178_14 : decode cJ7_fill_53178 14 = .ok (.iinc 2 1, 3) := by decide +kernel
theorem dJ7_fill_53178_17 : decode cJ7_fill_53178 17 = .ok (.goto (-12), 3) := by decide +kernel
theorem dJ7_fill_53178_20 : decode cJ7_fill_53178 20 = .ok (.return_, 1) := by decide +kernel
theorem dJ3_checkIndex_8e157_0 : decode cJ3_checkIndex_8e157 0 = .ok (.iload_n 0, 1) := by decide +kernel
theorem dJ3_checkIndex_8e157_1 : decode cJ3_checkIndex_8e157 1 = .ok (.ifCond .lt 8, 3) := by decide +kernel
theorem dJ3_checkIndex_8e157_4 : decode cJ3_checkIndex_8e157 4 = .ok (.iload_n 0, 1) := by decide +kernel
theorem dJ3_checkIndex_8e157_5 : decode cJ3_checkIndex_8e157 5 = .ok (.iload_n 1, 1) := by decide +kernel
theorem dJ3_checkIndex_8e157_6 : decode cJ3_checkIndex_8e157 6 = .ok (.if_icmp .lt 10, 3) := by decide +kernel
theorem dJ3_checkIndex_8e157_9 : decode cJ3_checkIndex_8e157 9 = .ok (.aload_n 2, 1) := by decide +kernel
theorem dJ3_checkIndex_8e157_10 : decode cJ3_checkIndex_8e157 10 = .ok (.iload_n 0, 1) := by decide +kernel
theorem dJ3_checkIndex_8e157_11 : decode cJ3_checkIndex_8e157 11 = .ok (.iload_n 1, 1) := by decide +kernel
theorem dJ3_checkIndex_8e157_12 : decode cJ3_checkIndex_8e157 12 = .ok (.invokestatic 95, 3) := by decide +kernel
theorem dJ3_checkIndex_8e157_15 : decode cJ3_checkIndex_8e157 15 = .ok (.athrow, 1) := by decide +kernel
theorem dJ3_checkIndex_8e157_16 : decode cJ3_checkIndex_8e157 16 = .ok (.iload_n 0, 1) := by decide +kernel
theorem dJ3_checkIndex_8e157_17 : decode cJ3_checkIndex_8e157 17 = .ok (.ireturn, 1) := by decide +kernel
theorem dL_link_0 : decode cL_link 0 = .ok (.aload_n 2, 1) := by decide +kernel
theorem dL_link_1 : decode cL_link 1 = .ok (.iconst 0, 1) := by decide +kernel
theorem dL_link_2 : decode cL_link 2 = .ok (.aload_n 0, 1) := by decide +kernel
theorem dL_link_3 : decode cL_link 3 = .ok (.iload_n 1, 1) := by decide +kernel
theorem dL_link_4 : decode cL_link 4 = .ok (.invokevirtual 7, 3) := by decide +kernel
theorem dL_link_7 : decode cL_link 7 = .ok (.i2l, 1) := by decide +kernel
theorem dL_link_8 : decode cL_link 8 = .ok (.lastore, 1) := by decide +kernel
theorem dL_link_9 : decode cL_link 9 = .ok (.goto 6, 3) := by decide +kernel
theorem dL_link_12 : decode cL_link 12 = .ok (.astore_n 3, 1) := by decide +kernel
theorem dL_link_13 : decode cL_link 13 = .ok (.iconst 1, 1) := by decide +kernel
theorem dL_link_14 : decode cL_link 14 = .ok (.ireturn, 1) := by decide +kernel
theorem dL_link_15 : decode cL_link 15 = .ok (.iconst 0, 1) := by decide +kernel
theorem dL_link_16 : decode cL_link 16 = .ok (.ireturn, 1) := by decide +kernel
theorem dL_count_0 : decode cL_count 0 = .ok (.aload_n 2, 1) := by decide +kernel
theorem dL_count_1 : decode cL_count 1 = .ok (.iconst 0, 1) := by decide +kernel
theorem dL_count_2 : decode cL_count 2 = .ok (.aload_n 0, 1) := by decide +kernel
theorem dL_count_3 : decode cL_count 3 = .ok (.iload_n 1, 1) := by decide +kernel
theorem dL_count_4 : decode cL_count 4 = .ok (.invokevirtual 15, 3) := by decide +kernel
theorem dL_count_7 : decode cL_count 7 = .ok (.i2l, 1) := by decide +kernel
theorem dL_count_8 : decode cL_count 8 = .ok (.lastore, 1) := by decide +kernel
theorem dL_count_9 : decode cL_count 9 = .ok (.goto 6, 3) := by decide +kernel
theorem dL_count_12 : decode cL_count 12 = .ok (.astore_n 3, 1) := by decide +kernel
theorem dL_count_13 : decode cL_count 13 = .ok (.iconst 1, 1) := by decide +kernel
theorem dL_count_14 : decode cL_count 14 = .ok (.ireturn, 1) := by decide +kernel
theorem dL_count_15 : decode cL_count 15 = .ok (.iconst 0, 1) := by decide +kernel
theorem dL_count_16 : decode cL_count 16 = .ok (.ireturn, 1) := by decide +kernel
theorem dL_of_0 : decode cL_of 0 = .ok (.aload_n 3, 1) := by decide +kernel
theorem dL_of_1 : decode cL_of 1 = .ok (.iconst 0, 1) := by decide +kernel
theorem dL_of_2 : decode cL_of 2 = .ok (.aload_n 0, 1) := by decide +kernel
theorem dL_of_3 : decode cL_of 3 = .ok (.iload_n 1, 1) := by decide +kernel
theorem dL_of_4 : decode cL_of 4 = .ok (.iload_n 2, 1) := by decide +kernel
theorem dL_of_5 : decode cL_of 5 = .ok (.invokevirtual 20, 3) := by decide +kernel
theorem dL_of_8 : decode cL_of 8 = .ok (.i2l, 1) := by decide +kernel
theorem dL_of_9 : decode cL_of 9 = .ok (.lastore, 1) := by decide +kernel
theorem dL_of_10 : decode cL_of 10 = .ok (.goto 7, 3) := by decide +kernel
theorem dL_of_13 : decode cL_of 13 = .ok (.astore 4, 2) := by decide +kernel
theorem dL_of_15 : decode cL_of 15 = .ok (.iconst 1, 1) := by decide +kernel
theorem dL_of_16 : decode cL_of 16 = .ok (.ireturn, 1) := by decide +kernel
theorem dL_of_17 : decode cL_of 17 = .ok (.iconst 0, 1) := by decide +kernel
theorem dL_of_18 : decode cL_of 18 = .ok (.ireturn, 1) := by decide +kernel
theorem dL_curve_0 : decode cL_curve 0 = .ok (.aload 4, 2) := by decide +kernel
theorem dL_curve_2 : decode cL_curve 2 = .ok (.iconst 0, 1) := by decide +kernel
theorem dL_curve_3 : decode cL_curve 3 = .ok (.aload_n 0, 1) := by decide +kernel
theorem dL_curve_4 : decode cL_curve 4 = .ok (.iload_n 1, 1) := by decide +kernel
theorem dL_curve_5 : decode cL_curve 5 = .ok (.iload_n 2, 1) := by decide +kernel
theorem dL_curve_6 : decode cL_curve 6 = .ok (.iload_n 3, 1) := by decide +kernel
theorem dL_curve_7 : decode cL_curve 7 = .ok (.invokevirtual 24, 3) := by decide +kernel
theorem dL_curve_10 : decode cL_curve 10 = .ok (.i2l, 1) := by decide +kernel
theorem dL_curve_11 : decode cL_curve 11 = .ok (.lastore, 1) := by decide +kernel
theorem dL_curve_12 : decode cL_curve 12 = .ok (.goto 7, 3) := by decide +kernel
theorem dL_curve_15 : decode cL_curve 15 = .ok (.astore 5, 2) := by decide +kernel
theorem dL_curve_17 : decode cL_curve 17 = .ok (.iconst 1, 1) := by decide +kernel
theorem dL_curve_18 : decode cL_curve 18 = .ok (.ireturn, 1) := by decide +kernel
theorem dL_curve_19 : decode cL_curve 19 = .ok (.iconst 0, 1) := by decide +kernel
theorem dL_curve_20 : decode cL_curve 20 = .ok (.ireturn, 1) := by decide +kernel
theorem dL_packet_0 : decode cL_packet 0 = .ok (.aload_n 3, 1) := by decide +kernel
theorem dL_packet_1 : decode cL_packet 1 = .ok (.iconst 0, 1) := by decide +kernel
theorem dL_packet_2 : decode cL_packet 2 = .ok (.aload_n 0, 1) := by decide +kernel
theorem dL_packet_3 : decode cL_packet 3 = .ok (.iload_n 1, 1) := by decide +kernel
theorem dL_packet_4 : decode cL_packet 4 = .ok (.iload_n 2, 1) := by decide +kernel
theorem dL_packet_5 : decode cL_packet 5 = .ok (.invokevirtual 28, 3) := by decide +kernel
theorem dL_packet_8 : decode cL_packet 8 = .ok (.i2l, 1) := by decide +kernel
theorem dL_packet_9 : decode cL_packet 9 = .ok (.lastore, 1) := by decide +kernel
theorem dL_packet_10 : decode cL_packet 10 = .ok (.goto 7, 3) := by decide +kernel
theorem dL_packet_13 : decode cL_packet 13 = .ok (.astore 4, 2) := by decide +kernel
theorem dL_packet_15 : decode cL_packet 15 = .ok (.iconst 1, 1) := by decide +kernel
theorem dL_packet_16 : decode cL_packet 16 = .ok (.ireturn, 1) := by decide +kernel
theorem dL_packet_17 : decode cL_packet 17 = .ok (.iconst 0, 1) := by decide +kernel
theorem dL_packet_18 : decode cL_packet 18 = .ok (.ireturn, 1) := by decide +kernel
theorem dL_due_0 : decode cL_due 0 = .ok (.aload_n 3, 1) := by decide +kernel
theorem dL_due_1 : decode cL_due 1 = .ok (.iconst 0, 1) := by decide +kernel
theorem dL_due_2 : decode cL_due 2 = .ok (.aload_n 0, 1) := by decide +kernel
theorem dL_due_3 : decode cL_due 3 = .ok (.iload_n 1, 1) := by decide +kernel
theorem dL_due_4 : decode cL_due 4 = .ok (.iload_n 2, 1) := by decide +kernel
theorem dL_due_5 : decode cL_due 5 = .ok (.invokevirtual 31, 3) := by decide +kernel
theorem dL_due_8 : decode cL_due 8 = .ok (.i2l, 1) := by decide +kernel
theorem dL_due_9 : decode cL_due 9 = .ok (.lastore, 1) := by decide +kernel
theorem dL_due_10 : decode cL_due 10 = .ok (.goto 7, 3) := by decide +kernel
theorem dL_due_13 : decode cL_due 13 = .ok (.astore 4, 2) := by decide +kernel
theorem dL_due_15 : decode cL_due 15 = .ok (.iconst 1, 1) := by decide +kernel
theorem dL_due_16 : decode cL_due 16 = .ok (.ireturn, 1) := by decide +kernel
theorem dL_due_17 : decode cL_due 17 = .ok (.iconst 0, 1) := by decide +kernel
theorem dL_due_18 : decode cL_due 18 = .ok (.ireturn, 1) := by decide +kernel
theorem dL_together_0 : decode cL_together 0 = .ok (.aload_n 2, 1) := by decide +kernel
theorem dL_together_1 : decode cL_together 1 = .ok (.iconst 0, 1) := by decide +kernel
theorem dL_together_2 : decode cL_together 2 = .ok (.aload_n 0, 1) := by decide +kernel
theorem dL_together_3 : decode cL_together 3 = .ok (.iload_n 1, 1) := by decide +kernel
theorem dL_together_4 : decode cL_together 4 = .ok (.invokevirtual 34, 3) := by decide +kernel
theorem dL_together_7 : decode cL_together 7 = .ok (.i2l, 1) := by decide +kernel
theorem dL_together_8 : decode cL_together 8 = .ok (.lastore, 1) := by decide +kernel
theorem dL_together_9 : decode cL_together 9 = .ok (.goto 6, 3) := by decide +kernel
theorem dL_together_12 : decode cL_together 12 = .ok (.astore_n 3, 1) := by decide +kernel
theorem dL_together_13 : decode cL_together 13 = .ok (.iconst 1, 1) := by decide +kernel
theorem dL_together_14 : decode cL_together 14 = .ok (.ireturn, 1) := by decide +kernel
theorem dL_together_15 : decode cL_together 15 = .ok (.iconst 0, 1) := by decide +kernel
theorem dL_together_16 : decode cL_together 16 = .ok (.ireturn, 1) := by decide +kernel
theorem dL_toGrant_0 : decode cL_toGrant 0 = .ok (.aload_n 3, 1) := by decide +kernel
theorem dL_toGrant_1 : decode cL_toGrant 1 = .ok (.iconst 0, 1) := by decide +kernel
theorem dL_toGrant_2 : decode cL_toGrant 2 = .ok (.aload_n 0, 1) := by decide +kernel
theorem dL_toGrant_3 : decode cL_toGrant 3 = .ok (.iload_n 1, 1) := by decide +kernel
theorem dL_toGrant_4 : decode cL_toGrant 4 = .ok (.iload_n 2, 1) := by decide +kernel
theorem dL_toGrant_5 : decode cL_toGrant 5 = .ok (.invokevirtual 37, 3) := by decide +kernel
theorem dL_toGrant_8 : decode cL_toGrant 8 = .ok (.i2l, 1) := by decide +kernel
theorem dL_toGrant_9 : decode cL_toGrant 9 = .ok (.lastore, 1) := by decide +kernel
theorem dL_toGrant_10 : decode cL_toGrant 10 = .ok (.goto 7, 3) := by decide +kernel
theorem dL_toGrant_13 : decode cL_toGrant 13 = .ok (.astore 4, 2) := by decide +kernel
theorem dL_toGrant_15 : decode cL_toGrant 15 = .ok (.iconst 1, 1) := by decide +kernel
theorem dL_toGrant_16 : decode cL_toGrant 16 = .ok (.ireturn, 1) := by decide +kernel
theorem dL_toGrant_17 : decode cL_toGrant 17 = .ok (.iconst 0, 1) := by decide +kernel
theorem dL_toGrant_18 : decode cL_toGrant 18 = .ok (.ireturn, 1) := by decide +kernel
theorem dL_bound_0 : decode cL_bound 0 = .ok (.aload_n 3, 1) := by decide +kernel
theorem dL_bound_1 : decode cL_bound 1 = .ok (.iconst 0, 1) := by decide +kernel
theorem dL_bound_2 : decode cL_bound 2 = .ok (.aload_n 0, 1) := by decide +kernel
theorem dL_bound_3 : decode cL_bound 3 = .ok (.iload_n 1, 1) := by decide +kernel
theorem dL_bound_4 : decode cL_bound 4 = .ok (.iload_n 2, 1) := by decide +kernel
theorem dL_bound_5 : decode cL_bound 5 = .ok (.invokevirtual 40, 3) := by decide +kernel
theorem dL_bound_8 : decode cL_bound 8 = .ok (.i2l, 1) := by decide +kernel
theorem dL_bound_9 : decode cL_bound 9 = .ok (.lastore, 1) := by decide +kernel
theorem dL_bound_10 : decode cL_bound 10 = .ok (.goto 11, 3) := by decide +kernel
theorem dL_bound_13 : decode cL_bound 13 = .ok (.astore 4, 2) := by decide +kernel
theorem dL_bound_15 : decode cL_bound 15 = .ok (.iconst 1, 1) := by decide +kernel
theorem dL_bound_16 : decode cL_bound 16 = .ok (.ireturn, 1) := by decide +kernel
theorem dL_bound_17 : decode cL_bound 17 = .ok (.astore 4, 2) := by decide +kernel
theorem dL_bound_19 : decode cL_bound 19 = .ok (.iconst 2, 1) := by decide +kernel
theorem dL_bound_20 : decode cL_bound 20 = .ok (.ireturn, 1) := by decide +kernel
theorem dL_bound_21 : decode cL_bound 21 = .ok (.iconst 0, 1) := by decide +kernel
theorem dL_bound_22 : decode cL_bound 22 = .ok (.ireturn, 1) := by decide +kernel
theorem dL_then_0 : decode cL_then 0 = .ok (.aload 4, 2) := by decide +kernel
theorem dL_then_2 : decode cL_then 2 = .ok (.iconst 0, 1) := by decide +kernel
theorem dL_then_3 : decode cL_then 3 = .ok (.aload_n 0, 1) := by decide +kernel
theorem dL_then_4 : decode cL_then 4 = .ok (.iload_n 1, 1) := by decide +kernel
theorem dL_then_5 : decode cL_then 5 = .ok (.iload_n 2, 1) := by decide +kernel
theorem dL_then_6 : decode cL_then 6 = .ok (.iload_n 3, 1) := by decide +kernel
theorem dL_then_7 : decode cL_then 7 = .ok (.invokevirtual 43, 3) := by decide +kernel
theorem dL_then_10 : decode cL_then 10 = .ok (.i2l, 1) := by decide +kernel
theorem dL_then_11 : decode cL_then 11 = .ok (.lastore, 1) := by decide +kernel
theorem dL_then_12 : decode cL_then 12 = .ok (.goto 11, 3) := by decide +kernel
theorem dL_then_15 : decode cL_then 15 = .ok (.astore 5, 2) := by decide +kernel
theorem dL_then_17 : decode cL_then 17 = .ok (.iconst 1, 1) := by decide +kernel
theorem dL_then_18 : decode cL_then 18 = .ok (.ireturn, 1) := by decide +kernel
theorem dL_then_19 : decode cL_then 19 = .ok (.astore 5, 2) := by decide +kernel
theorem dL_then_21 : decode cL_then 21 = .ok (.iconst 2, 1) := by decide +kernel
theorem dL_then_22 : decode cL_then 22 = .ok (.ireturn, 1) := by decide +kernel
theorem dL_then_23 : decode cL_then 23 = .ok (.iconst 0, 1) := by decide +kernel
theorem dL_then_24 : decode cL_then 24 = .ok (.ireturn, 1) := by decide +kernel
theorem dL_next_0 : decode cL_next 0 = .ok (.aload_n 3, 1) := by decide +kernel
theorem dL_next_1 : decode cL_next 1 = .ok (.iconst 0, 1) := by decide +kernel
theorem dL_next_2 : decode cL_next 2 = .ok (.aload_n 0, 1) := by decide +kernel
theorem dL_next_3 : decode cL_next 3 = .ok (.iload_n 1, 1) := by decide +kernel
theorem dL_next_4 : decode cL_next 4 = .ok (.iload_n 2, 1) := by decide +kernel
theorem dL_next_5 : decode cL_next 5 = .ok (.invokevirtual 46, 3) := by decide +kernel
theorem dL_next_8 : decode cL_next 8 = .ok (.i2l, 1) := by decide +kernel
theorem dL_next_9 : decode cL_next 9 = .ok (.lastore, 1) := by decide +kernel
theorem dL_next_10 : decode cL_next 10 = .ok (.goto 11, 3) := by decide +kernel
theorem dL_next_13 : decode cL_next 13 = .ok (.astore 4, 2) := by decide +kernel
theorem dL_next_15 : decode cL_next 15 = .ok (.iconst 1, 1) := by decide +kernel
theorem dL_next_16 : decode cL_next 16 = .ok (.ireturn, 1) := by decide +kernel
theorem dL_next_17 : decode cL_next 17 = .ok (.astore 4, 2) := by decide +kernel
theorem dL_next_19 : decode cL_next 19 = .ok (.iconst 2, 1) := by decide +kernel
theorem dL_next_20 : decode cL_next 20 = .ok (.ireturn, 1) := by decide +kernel
theorem dL_next_21 : decode cL_next 21 = .ok (.iconst 0, 1) := by decide +kernel
theorem dL_next_22 : decode cL_next 22 = .ok (.ireturn, 1) := by decide +kernel
theorem dL_waits_0 : decode cL_waits 0 = .ok (.aload_n 2, 1) := by decide +kernel
theorem dL_waits_1 : decode cL_waits 1 = .ok (.iconst 0, 1) := by decide +kernel
theorem dL_waits_2 : decode cL_waits 2 = .ok (.aload_n 0, 1) := by decide +kernel
theorem dL_waits_3 : decode cL_waits 3 = .ok (.iload_n 1, 1) := by decide +kernel
theorem dL_waits_4 : decode cL_waits 4 = .ok (.invokevirtual 49, 3) := by decide +kernel
theorem dL_waits_7 : decode cL_waits 7 = .ok (.i2l, 1) := by decide +kernel
theorem dL_waits_8 : decode cL_waits 8 = .ok (.lastore, 1) := by decide +kernel
theorem dL_waits_9 : decode cL_waits 9 = .ok (.goto 6, 3) := by decide +kernel
theorem dL_waits_12 : decode cL_waits 12 = .ok (.astore_n 3, 1) := by decide +kernel
theorem dL_waits_13 : decode cL_waits 13 = .ok (.iconst 1, 1) := by decide +kernel
theorem dL_waits_14 : decode cL_waits 14 = .ok (.ireturn, 1) := by decide +kernel
theorem dL_waits_15 : decode cL_waits 15 = .ok (.iconst 0, 1) := by decide +kernel
theorem dL_waits_16 : decode cL_waits 16 = .ok (.ireturn, 1) := by decide +kernel
theorem dL_longest_0 : decode cL_longest 0 = .ok (.aload_n 3, 1) := by decide +kernel
theorem dL_longest_1 : decode cL_longest 1 = .ok (.iconst 0, 1) := by decide +kernel
theorem dL_longest_2 : decode cL_longest 2 = .ok (.aload_n 0, 1) := by decide +kernel
theorem dL_longest_3 : decode cL_longest 3 = .ok (.iload_n 1, 1) := by decide +kernel
theorem dL_longest_4 : decode cL_longest 4 = .ok (.iload_n 2, 1) := by decide +kernel
theorem dL_longest_5 : decode cL_longest 5 = .ok (.invokevirtual 52, 3) := by decide +kernel
theorem dL_longest_8 : decode cL_longest 8 = .ok (.i2l, 1) := by decide +kernel
theorem dL_longest_9 : decode cL_longest 9 = .ok (.lastore, 1) := by decide +kernel
theorem dL_longest_10 : decode cL_longest 10 = .ok (.goto 11, 3) := by decide +kernel
theorem dL_longest_13 : decode cL_longest 13 = .ok (.astore 4, 2) := by decide +kernel
theorem dL_longest_15 : decode cL_longest 15 = .ok (.iconst 1, 1) := by decide +kernel
theorem dL_longest_16 : decode cL_longest 16 = .ok (.ireturn, 1) := by decide +kernel
theorem dL_longest_17 : decode cL_longest 17 = .ok (.astore 4, 2) := by decide +kernel
theorem dL_longest_19 : decode cL_longest 19 = .ok (.iconst 2, 1) := by decide +kernel
theorem dL_longest_20 : decode cL_longest 20 = .ok (.ireturn, 1) := by decide +kernel
theorem dL_longest_21 : decode cL_longest 21 = .ok (.iconst 0, 1) := by decide +kernel
theorem dL_longest_22 : decode cL_longest 22 = .ok (.ireturn, 1) := by decide +kernel
theorem dL_toShare_0 : decode cL_toShare 0 = .ok (.aload 4, 2) := by decide +kernel
theorem dL_toShare_2 : decode cL_toShare 2 = .ok (.iconst 0, 1) := by decide +kernel
theorem dL_toShare_3 : decode cL_toShare 3 = .ok (.aload_n 0, 1) := by decide +kernel
theorem dL_toShare_4 : decode cL_toShare 4 = .ok (.iload_n 1, 1) := by decide +kernel
theorem dL_toShare_5 : decode cL_toShare 5 = .ok (.iload_n 2, 1) := by decide +kernel
theorem dL_toShare_6 : decode cL_toShare 6 = .ok (.iload_n 3, 1) := by decide +kernel
theorem dL_toShare_7 : decode cL_toShare 7 = .ok (.invokevirtual 55, 3) := by decide +kernel
theorem dL_toShare_10 : decode cL_toShare 10 = .ok (.i2l, 1) := by decide +kernel
theorem dL_toShare_11 : decode cL_toShare 11 = .ok (.lastore, 1) := by decide +kernel
theorem dL_toShare_12 : decode cL_toShare 12 = .ok (.goto 11, 3) := by decide +kernel
theorem dL_toShare_15 : decode cL_toShare 15 = .ok (.astore 5, 2) := by decide +kernel
theorem dL_toShare_17 : decode cL_toShare 17 = .ok (.iconst 1, 1) := by decide +kernel
theorem dL_toShare_18 : decode cL_toShare 18 = .ok (.ireturn, 1) := by decide +kernel
theorem dL_toShare_19 : decode cL_toShare 19 = .ok (.astore 5, 2) := by decide +kernel
theorem dL_toShare_21 : decode cL_toShare 21 = .ok (.iconst 2, 1) := by decide +kernel
theorem dL_toShare_22 : decode cL_toShare 22 = .ok (.ireturn, 1) := by decide +kernel
theorem dL_toShare_23 : decode cL_toShare 23 = .ok (.iconst 0, 1) := by decide +kernel
theorem dL_toShare_24 : decode cL_toShare 24 = .ok (.ireturn, 1) := by decide +kernel
theorem dL_toCap_0 : decode cL_toCap 0 = .ok (.aload 4, 2) := by decide +kernel
theorem dL_toCap_2 : decode cL_toCap 2 = .ok (.iconst 0, 1) := by decide +kernel
theorem dL_toCap_3 : decode cL_toCap 3 = .ok (.aload_n 0, 1) := by decide +kernel
theorem dL_toCap_4 : decode cL_toCap 4 = .ok (.iload_n 1, 1) := by decide +kernel
theorem dL_toCap_5 : decode cL_toCap 5 = .ok (.iload_n 2, 1) := by decide +kernel
theorem dL_toCap_6 : decode cL_toCap 6 = .ok (.iload_n 3, 1) := by decide +kernel
theorem dL_toCap_7 : decode cL_toCap 7 = .ok (.invokevirtual 58, 3) := by decide +kernel
theorem dL_toCap_10 : decode cL_toCap 10 = .ok (.i2l, 1) := by decide +kernel
theorem dL_toCap_11 : decode cL_toCap 11 = .ok (.lastore, 1) := by decide +kernel
theorem dL_toCap_12 : decode cL_toCap 12 = .ok (.goto 11, 3) := by decide +kernel
theorem dL_toCap_15 : decode cL_toCap 15 = .ok (.astore 5, 2) := by decide +kernel
theorem dL_toCap_17 : decode cL_toCap 17 = .ok (.iconst 1, 1) := by decide +kernel
theorem dL_toCap_18 : decode cL_toCap 18 = .ok (.ireturn, 1) := by decide +kernel
theorem dL_toCap_19 : decode cL_toCap 19 = .ok (.astore 5, 2) := by decide +kernel
theorem dL_toCap_21 : decode cL_toCap 21 = .ok (.iconst 2, 1) := by decide +kernel
theorem dL_toCap_22 : decode cL_toCap 22 = .ok (.ireturn, 1) := by decide +kernel
theorem dL_toCap_23 : decode cL_toCap 23 = .ok (.iconst 0, 1) := by decide +kernel
theorem dL_toCap_24 : decode cL_toCap 24 = .ok (.ireturn, 1) := by decide +kernel
theorem dL_blocked_0 : decode cL_blocked 0 = .ok (.aload_n 3, 1) := by decide +kernel
theorem dL_blocked_1 : decode cL_blocked 1 = .ok (.iconst 0, 1) := by decide +kernel
theorem dL_blocked_2 : decode cL_blocked 2 = .ok (.aload_n 0, 1) := by decide +kernel
theorem dL_blocked_3 : decode cL_blocked 3 = .ok (.iload_n 1, 1) := by decide +kernel
theorem dL_blocked_4 : decode cL_blocked 4 = .ok (.iload_n 2, 1) := by decide +kernel
theorem dL_blocked_5 : decode cL_blocked 5 = .ok (.invokevirtual 61, 3) := by decide +kernel
theorem dL_blocked_8 : decode cL_blocked 8 = .ok (.i2l, 1) := by decide +kernel
theorem dL_blocked_9 : decode cL_blocked 9 = .ok (.lastore, 1) := by decide +kernel
theorem dL_blocked_10 : decode cL_blocked 10 = .ok (.goto 7, 3) := by decide +kernel
theorem dL_blocked_13 : decode cL_blocked 13 = .ok (.astore 4, 2) := by decide +kernel
theorem dL_blocked_15 : decode cL_blocked 15 = .ok (.iconst 1, 1) := by decide +kernel
theorem dL_blocked_16 : decode cL_blocked 16 = .ok (.ireturn, 1) := by decide +kernel
theorem dL_blocked_17 : decode cL_blocked 17 = .ok (.iconst 0, 1) := by decide +kernel
theorem dL_blocked_18 : decode cL_blocked 18 = .ok (.ireturn, 1) := by decide +kernel
theorem dL_spread_0 : decode cL_spread 0 = .ok (.aload_n 3, 1) := by decide +kernel
theorem dL_spread_1 : decode cL_spread 1 = .ok (.iconst 0, 1) := by decide +kernel
theorem dL_spread_2 : decode cL_spread 2 = .ok (.aload_n 0, 1) := by decide +kernel
theorem dL_spread_3 : decode cL_spread 3 = .ok (.iload_n 1, 1) := by decide +kernel
theorem dL_spread_4 : decode cL_spread 4 = .ok (.iload_n 2, 1) := by decide +kernel
theorem dL_spread_5 : decode cL_spread 5 = .ok (.invokevirtual 64, 3) := by decide +kernel
theorem dL_spread_8 : decode cL_spread 8 = .ok (.i2l, 1) := by decide +kernel
theorem dL_spread_9 : decode cL_spread 9 = .ok (.lastore, 1) := by decide +kernel
theorem dL_spread_10 : decode cL_spread 10 = .ok (.goto 11, 3) := by decide +kernel
theorem dL_spread_13 : decode cL_spread 13 = .ok (.astore 4, 2) := by decide +kernel
theorem dL_spread_15 : decode cL_spread 15 = .ok (.iconst 1, 1) := by decide +kernel
theorem dL_spread_16 : decode cL_spread 16 = .ok (.ireturn, 1) := by decide +kernel
theorem dL_spread_17 : decode cL_spread 17 = .ok (.astore 4, 2) := by decide +kernel
theorem dL_spread_19 : decode cL_spread 19 = .ok (.iconst 2, 1) := by decide +kernel
theorem dL_spread_20 : decode cL_spread 20 = .ok (.ireturn, 1) := by decide +kernel
theorem dL_spread_21 : decode cL_spread 21 = .ok (.iconst 0, 1) := by decide +kernel
theorem dL_spread_22 : decode cL_spread 22 = .ok (.ireturn, 1) := by decide +kernel
theorem dL_other_0 : decode cL_other 0 = .ok (.aload_n 2, 1) := by decide +kernel
theorem dL_other_1 : decode cL_other 1 = .ok (.iconst 0, 1) := by decide +kernel
theorem dL_other_2 : decode cL_other 2 = .ok (.aload_n 0, 1) := by decide +kernel
theorem dL_other_3 : decode cL_other 3 = .ok (.iload_n 1, 1) := by decide +kernel
theorem dL_other_4 : decode cL_other 4 = .ok (.invokevirtual 67, 3) := by decide +kernel
theorem dL_other_7 : decode cL_other 7 = .ok (.i2l, 1) := by decide +kernel
theorem dL_other_8 : decode cL_other 8 = .ok (.lastore, 1) := by decide +kernel
theorem dL_other_9 : decode cL_other 9 = .ok (.goto 6, 3) := by decide +kernel
theorem dL_other_12 : decode cL_other 12 = .ok (.astore_n 3, 1) := by decide +kernel
theorem dL_other_13 : decode cL_other 13 = .ok (.iconst 1, 1) := by decide +kernel
theorem dL_other_14 : decode cL_other 14 = .ok (.ireturn, 1) := by decide +kernel
theorem dL_other_15 : decode cL_other 15 = .ok (.iconst 0, 1) := by decide +kernel
theorem dL_other_16 : decode cL_other 16 = .ok (.ireturn, 1) := by decide +kernel
theorem dL_look_0 : decode cL_look 0 = .ok (.aload_n 2, 1) := by decide +kernel
theorem dL_look_1 : decode cL_look 1 = .ok (.iconst 0, 1) := by decide +kernel
theorem dL_look_2 : decode cL_look 2 = .ok (.aload_n 0, 1) := by decide +kernel
theorem dL_look_3 : decode cL_look 3 = .ok (.iload_n 1, 1) := by decide +kernel
theorem dL_look_4 : decode cL_look 4 = .ok (.invokevirtual 70, 3) := by decide +kernel
theorem dL_look_7 : decode cL_look 7 = .ok (.i2l, 1) := by decide +kernel
theorem dL_look_8 : decode cL_look 8 = .ok (.lastore, 1) := by decide +kernel
theorem dL_look_9 : decode cL_look 9 = .ok (.goto 6, 3) := by decide +kernel
theorem dL_look_12 : decode cL_look 12 = .ok (.astore_n 3, 1) := by decide +kernel
theorem dL_look_13 : decode cL_look 13 = .ok (.iconst 1, 1) := by decide +kernel
theorem dL_look_14 : decode cL_look 14 = .ok (.ireturn, 1) := by decide +kernel
theorem dL_look_15 : decode cL_look 15 = .ok (.iconst 0, 1) := by decide +kernel
theorem dL_look_16 : decode cL_look 16 = .ok (.ireturn, 1) := by decide +kernel
theorem dL_storms_0 : decode cL_storms 0 = .ok (.aload 5, 2) := by decide +kernel
theorem dL_storms_2 : decode cL_storms 2 = .ok (.iconst 0, 1) := by decide +kernel
theorem dL_storms_3 : decode cL_storms 3 = .ok (.aload_n 0, 1) := by decide +kernel
theorem dL_storms_4 : decode cL_storms 4 = .ok (.iload_n 1, 1) := by decide +kernel
theorem dL_storms_5 : decode cL_storms 5 = .ok (.iload_n 2, 1) := by decide +kernel
theorem dL_storms_6 : decode cL_storms 6 = .ok (.iload_n 3, 1) := by decide +kernel
theorem dL_storms_7 : decode cL_storms 7 = .ok (.iload 4, 2) := by decide +kernel
theorem dL_storms_9 : decode cL_storms 9 = .ok (.invokevirtual 73, 3) := by decide +kernel
theorem dL_storms_12 : decode cL_storms 12 = .ok (.i2l, 1) := by decide +kernel
theorem dL_storms_13 : decode cL_storms 13 = .ok (.lastore, 1) := by decide +kernel
theorem dL_storms_14 : decode cL_storms 14 = .ok (.goto 11, 3) := by decide +kernel
theorem dL_storms_17 : decode cL_storms 17 = .ok (.astore 6, 2) := by decide +kernel
theorem dL_storms_19 : decode cL_storms 19 = .ok (.iconst 1, 1) := by decide +kernel
theorem dL_storms_20 : decode cL_storms 20 = .ok (.ireturn, 1) := by decide +kernel
theorem dL_storms_21 : decode cL_storms 21 = .ok (.astore 6, 2) := by decide +kernel
theorem dL_storms_23 : decode cL_storms 23 = .ok (.iconst 2, 1) := by decide +kernel
theorem dL_storms_24 : decode cL_storms 24 = .ok (.ireturn, 1) := by decide +kernel
theorem dL_storms_25 : decode cL_storms 25 = .ok (.iconst 0, 1) := by decide +kernel
theorem dL_storms_26 : decode cL_storms 26 = .ok (.ireturn, 1) := by decide +kernel
theorem dL_years_0 : decode cL_years 0 = .ok (.aload 4, 2) := by decide +kernel
theorem dL_years_2 : decode cL_years 2 = .ok (.iconst 0, 1) := by decide +kernel
theorem dL_years_3 : decode cL_years 3 = .ok (.aload_n 0, 1) := by decide +kernel
theorem dL_years_4 : decode cL_years 4 = .ok (.iload_n 1, 1) := by decide +kernel
theorem dL_years_5 : decode cL_years 5 = .ok (.iload_n 2, 1) := by decide +kernel
theorem dL_years_6 : decode cL_years 6 = .ok (.iload_n 3, 1) := by decide +kernel
theorem dL_years_7 : decode cL_years 7 = .ok (.invokevirtual 77, 3) := by decide +kernel
theorem dL_years_10 : decode cL_years 10 = .ok (.i2l, 1) := by decide +kernel
theorem dL_years_11 : decode cL_years 11 = .ok (.lastore, 1) := by decide +kernel
theorem dL_years_12 : decode cL_years 12 = .ok (.goto 11, 3) := by decide +kernel
theorem dL_years_15 : decode cL_years 15 = .ok (.astore 5, 2) := by decide +kernel
theorem dL_years_17 : decode cL_years 17 = .ok (.iconst 1, 1) := by decide +kernel
theorem dL_years_18 : decode cL_years 18 = .ok (.ireturn, 1) := by decide +kernel
theorem dL_years_19 : decode cL_years 19 = .ok (.astore 5, 2) := by decide +kernel
theorem dL_years_21 : decode cL_years 21 = .ok (.iconst 2, 1) := by decide +kernel
theorem dL_years_22 : decode cL_years 22 = .ok (.ireturn, 1) := by decide +kernel
theorem dL_years_23 : decode cL_years 23 = .ok (.iconst 0, 1) := by decide +kernel
theorem dL_years_24 : decode cL_years 24 = .ok (.ireturn, 1) := by decide +kernel
theorem dL_told_0 : decode cL_told 0 = .ok (.aload_n 3, 1) := by decide +kernel
theorem dL_told_1 : decode cL_told 1 = .ok (.iconst 0, 1) := by decide +kernel
theorem dL_told_2 : decode cL_told 2 = .ok (.aload_n 0, 1) := by decide +kernel
theorem dL_told_3 : decode cL_told 3 = .ok (.iload_n 1, 1) := by decide +kernel
theorem dL_told_4 : decode cL_told 4 = .ok (.iload_n 2, 1) := by decide +kernel
theorem dL_told_5 : decode cL_told 5 = .ok (.invokevirtual 80, 3) := by decide +kernel
theorem dL_told_8 : decode cL_told 8 = .ok (.i2l, 1) := by decide +kernel
theorem dL_told_9 : decode cL_told 9 = .ok (.lastore, 1) := by decide +kernel
theorem dL_told_10 : decode cL_told 10 = .ok (.goto 7, 3) := by decide +kernel
theorem dL_told_13 : decode cL_told 13 = .ok (.astore 4, 2) := by decide +kernel
theorem dL_told_15 : decode cL_told 15 = .ok (.iconst 1, 1) := by decide +kernel
theorem dL_told_16 : decode cL_told 16 = .ok (.ireturn, 1) := by decide +kernel
theorem dL_told_17 : decode cL_told 17 = .ok (.iconst 0, 1) := by decide +kernel
theorem dL_told_18 : decode cL_told 18 = .ok (.ireturn, 1) := by decide +kernel
theorem dL_law_0 : decode cL_law 0 = .ok (.new 8, 3) := by decide +kernel
theorem dL_law_3 : decode cL_law 3 = .ok (.dup, 1) := by decide +kernel
theorem dL_law_4 : decode cL_law 4 = .ok (.invokespecial 83, 3) := by decide +kernel
theorem dL_law_7 : decode cL_law 7 = .ok (.astore_n 1, 1) := by decide +kernel
theorem dL_law_8 : decode cL_law 8 = .ok (.new 84, 3) := by decide +kernel
theorem dL_law_11 : decode cL_law 11 = .ok (.dup, 1) := by decide +kernel
theorem dL_law_12 : decode cL_law 12 = .ok (.invokespecial 86, 3) := by decide +kernel
theorem dL_law_15 : decode cL_law 15 = .ok (.astore_n 2, 1) := by decide +kernel
theorem dL_law_16 : decode cL_law 16 = .ok (.iconst 1, 1) := by decide +kernel
theorem dL_law_17 : decode cL_law 17 = .ok (.newarray .long, 2) := by decide +kernel
theorem dL_law_19 : decode cL_law 19 = .ok (.astore_n 3, 1) := by decide +kernel
theorem dL_law_20 : decode cL_law 20 = .ok (.iconst 0, 1) := by decide +kernel
theorem dL_law_21 : decode cL_law 21 = .ok (.istore 4, 2) := by decide +kernel
theorem dL_law_23 : decode cL_law 23 = .ok (.iload 4, 2) := by decide +kernel
theorem dL_law_25 : decode cL_law 25 = .ok (.aload_n 0, 1) := by decide +kernel
theorem dL_law_26 : decode cL_law 26 = .ok (.arraylength, 1) := by decide +kernel
theorem dL_law_27 : decode cL_law 27 = .ok (.bipush 6, 2) := by decide +kernel
theorem dL_law_29 : decode cL_law 29 = .ok (.isub, 1) := by decide +kernel
theorem dL_law_30 : decode cL_law 30 = .ok (.if_icmp .gt 2085, 3) := by decide +kernel
theorem dL_law_33 : decode cL_law 33 = .ok (.aload_n 0, 1) := by decide +kernel
theorem dL_law_34 : decode cL_law 34 = .ok (.iload 4, 2) := by decide +kernel
theorem dL_law_36 : decode cL_law 36 = .ok (.iaload, 1) := by decide +kernel
theorem dL_law_37 : decode cL_law 37 = .ok (.bipush 63, 2) := by decide +kernel
theorem dL_law_39 : decode cL_law 39 = .ok (.iand, 1) := by decide +kernel
theorem dL_law_40 : decode cL_law 40 = .ok (.tableswitch 2069 0 34 #[156, 229, 285, 298, 354, 422, 502, 570, 638, 675, 700, 773, 798, 835, 860, 873, 929, 997, 1065, 1145, 1213, 1269, 1337, 1417, 1497, 1565, 1633, 1682, 1738, 1794, 1805, 1897, 1977, 2045, 2056], 156) := by decide +kernel
theorem dL_law_196 : decode cL_law 196 = .ok (.aload_n 1, 1) := by decide +kernel
theorem dL_law_197 : decode cL_law 197 = .ok (.aload_n 0, 1) := by decide +kernel
theorem dL_law_198 : decode cL_law 198 = .ok (.iload 4, 2) := by decide +kernel
theorem dL_law_200 : decode cL_law 200 = .ok (.iconst 1, 1) := by decide +kernel
theorem dL_law_201 : decode cL_law 201 = .ok (.iadd, 1) := by decide +kernel
theorem dL_law_202 : decode cL_law 202 = .ok (.iaload, 1) := by decide +kernel
theorem dL_law_203 : decode cL_law 203 = .ok (.aload_n 0, 1) := by decide +kernel
theorem dL_law_204 : decode cL_law 204 = .ok (.iload 4, 2) := by decide +kernel
theorem dL_law_206 : decode cL_law 206 = .ok (.iconst 2, 1) := by decide +kernel
theorem dL_law_207 : decode cL_law 207 = .ok (.iadd, 1) := by decide +kernel
theorem dL_law_208 : decode cL_law 208 = .ok (.iaload, 1) := by decide +kernel
theorem dL_law_209 : decode cL_law 209 = .ok (.aload_n 0, 1) := by decide +kernel
theorem dL_law_210 : decode cL_law 210 = .ok (.iload 4, 2) := by decide +kernel
theorem dL_law_212 : decode cL_law 212 = .ok (.iconst 3, 1) := by decide +kernel
theorem dL_law_213 : decode cL_law 213 = .ok (.iadd, 1) := by decide +kernel
theorem dL_law_214 : decode cL_law 214 = .ok (.iaload, 1) := by decide +kernel
theorem dL_law_215 : decode cL_law 215 = .ok (.aload_n 0, 1) := by decide +kernel
theorem dL_law_216 : decode cL_law 216 = .ok (.iload 4, 2) := by decide +kernel
theorem dL_law_218 : decode cL_law 218 = .ok (.iconst 4, 1) := by decide +kernel
theorem dL_law_219 : decode cL_law 219 = .ok (.iadd, 1) := by decide +kernel
theorem dL_law_220 : decode cL_law 220 = .ok (.iaload, 1) := by decide +kernel
theorem dL_law_221 : decode cL_law 221 = .ok (.aload_n 0, 1) := by decide +kernel
theorem dL_law_222 : decode cL_law 222 = .ok (.iload 4, 2) := by decide +kernel
theorem dL_law_224 : decode cL_law 224 = .ok (.iconst 5, 1) := by decide +kernel
theorem dL_law_225 : decode cL_law 225 = .ok (.iadd, 1) := by decide +kernel
theorem dL_law_226 : decode cL_law 226 = .ok (.iaload, 1) := by decide +kernel
theorem dL_law_227 : decode cL_law 227 = .ok (.invokevirtual 87, 3) := by decide +kernel
theorem dL_law_230 : decode cL_law 230 = .ok (.aload_n 2, 1) := by decide +kernel
theorem dL_law_231 : decode cL_law 231 = .ok (.aload_n 0, 1) := by decide +kernel
theorem dL_law_232 : decode cL_law 232 = .ok (.iload 4, 2) := by decide +kernel
theorem dL_law_234 : decode cL_law 234 = .ok (.iconst 1, 1) := by decide +kernel
theorem dL_law_235 : decode cL_law 235 = .ok (.iadd, 1) := by decide +kernel
theorem dL_law_236 : decode cL_law 236 = .ok (.iaload, 1) := by decide +kernel
theorem dL_law_237 : decode cL_law 237 = .ok (.aload_n 0, 1) := by decide +kernel
theorem dL_law_238 : decode cL_law 238 = .ok (.iload 4, 2) := by decide +kernel
theorem dL_law_240 : decode cL_law 240 = .ok (.iconst 2, 1) := by decide +kernel
theorem dL_law_241 : decode cL_law 241 = .ok (.iadd, 1) := by decide +kernel
theorem dL_law_242 : decode cL_law 242 = .ok (.iaload, 1) := by decide +kernel
theorem dL_law_243 : decode cL_law 243 = .ok (.aload_n 0, 1) := by decide +kernel
theorem dL_law_244 : decode cL_law 244 = .ok (.iload 4, 2) := by decide +kernel
theorem dL_law_246 : decode cL_law 246 = .ok (.iconst 3, 1) := by decide +kernel
theorem dL_law_247 : decode cL_law 247 = .ok (.iadd, 1) := by decide +kernel
theorem dL_law_248 : decode cL_law 248 = .ok (.iaload, 1) := by decide +kernel
theorem dL_law_249 : decode cL_law 249 = .ok (.aload_n 0, 1) := by decide +kernel
theorem dL_law_250 : decode cL_law 250 = .ok (.iload 4, 2) := by decide +kernel
theorem dL_law_252 : decode cL_law 252 = .ok (.iconst 4, 1) := by decide +kernel
theorem dL_law_253 : decode cL_law 253 = .ok (.iadd, 1) := by decide +kernel
theorem dL_law_254 : decode cL_law 254 = .ok (.iaload, 1) := by decide +kernel
theorem dL_law_255 : decode cL_law 255 = .ok (.aload_n 0, 1) := by decide +kernel
theorem dL_law_256 : decode cL_law 256 = .ok (.iload 4, 2) := by decide +kernel
theorem dL_law_258 : decode cL_law 258 = .ok (.iconst 5, 1) := by decide +kernel
theorem dL_law_259 : decode cL_law 259 = .ok (.iadd, 1) := by decide +kernel
theorem dL_law_260 : decode cL_law 260 = .ok (.iaload, 1) := by decide +kernel
theorem dL_law_261 : decode cL_law 261 = .ok (.invokevirtual 91, 3) := by decide +kernel
theorem dL_law_264 : decode cL_law 264 = .ok (.if_icmp .eq 1845, 3) := by decide +kernel
theorem dL_law_267 : decode cL_law 267 = .ok (.iconst 0, 1) := by decide +kernel
theorem dL_law_268 : decode cL_law 268 = .ok (.ireturn, 1) := by decide +kernel
theorem dL_law_269 : decode cL_law 269 = .ok (.aload_n 1, 1) := by decide +kernel
theorem dL_law_270 : decode cL_law 270 = .ok (.aload_n 0, 1) := by decide +kernel
theorem dL_law_271 : decode cL_law 271 = .ok (.iload 4, 2) := by decide +kernel
theorem dL_law_273 : decode cL_law 273 = .ok (.iconst 1, 1) := by decide +kernel
theorem dL_law_274 : decode cL_law 274 = .ok (.iadd, 1) := by decide +kernel
theorem dL_law_275 : decode cL_law 275 = .ok (.iaload, 1) := by decide +kernel
theorem dL_law_276 : decode cL_law 276 = .ok (.aload_n 3, 1) := by decide +kernel
theorem dL_law_277 : decode cL_law 277 = .ok (.invokestatic 92, 3) := by decide +kernel
theorem dL_law_280 : decode cL_law 280 = .ok (.istore 5, 2) := by decide +kernel
theorem dL_law_282 : decode cL_law 282 = .ok (.aload_n 2, 1) := by decide +kernel
theorem dL_law_283 : decode cL_law 283 = .ok (.aload_n 0, 1) := by decide +kernel
theorem dL_law_284 : decode cL_law 284 = .ok (.iload 4, 2) := by decide +kernel
theorem dL_law_286 : decode cL_law 286 = .ok (.iconst 1, 1) := by decide +kernel
theorem dL_law_287 : decode cL_law 287 = .ok (.iadd, 1) := by decide +kernel
theorem dL_law_288 : decode cL_law 288 = .ok (.iaload, 1) := by decide +kernel
theorem dL_law_289 : decode cL_law 289 = .ok (.invokevirtual 97, 3) := by decide +kernel
theorem dL_law_292 : decode cL_law 292 = .ok (.istore 6, 2) := by decide +kernel
theorem dL_law_294 : decode cL_law 294 = .ok (.aload_n 2, 1) := by decide +kernel
theorem dL_law_295 : decode cL_law 295 = .ok (.invokevirtual 98, 3) := by decide +kernel
theorem dL_law_298 : decode cL_law 298 = .ok (.iload 5, 2) := by decide +kernel
theorem dL_law_300 : decode cL_law 300 = .ok (.if_icmp .eq 5, 3) := by decide +kernel
theorem dL_law_303 : decode cL_law 303 = .ok (.iconst 0, 1) := by decide +kernel
theorem dL_law_304 : decode cL_law 304 = .ok (.ireturn, 1) := by decide +kernel
theorem dL_law_305 : decode cL_law 305 = .ok (.iload 5, 2) := by decide +kernel
theorem dL_law_307 : decode cL_law 307 = .ok (.ifCond .ne 15, 3) := by decide +kernel
theorem dL_law_310 : decode cL_law 310 = .ok (.aload_n 3, 1) := by decide +kernel
theorem dL_law_311 : decode cL_law 311 = .ok (.iconst 0, 1) := by decide +kernel
theorem dL_law_312 : decode cL_law 312 = .ok (.laload, 1) := by decide +kernel
theorem dL_law_313 : decode cL_law 313 = .ok (.iload 6, 2) := by decide +kernel
theorem dL_law_315 : decode cL_law 315 = .ok (.i2l, 1) := by decide +kernel
theorem dL_law_316 : decode cL_law 316 = .ok (.lcmp, 1) := by decide +kernel
theorem dL_law_317 : decode cL_law 317 = .ok (.ifCond .eq 5, 3) := by decide +kernel
theorem dL_law_320 : decode cL_law 320 = .ok (.iconst 0, 1) := by decide +kernel
theorem dL_law_321 : decode cL_law 321 = .ok (.ireturn, 1) := by decide +kernel
theorem dL_law_322 : decode cL_law 322 = .ok (.goto 1787, 3) := by decide +kernel
theorem dL_law_325 : decode cL_law 325 = .ok (.aload_n 1, 1) := by decide +kernel
theorem dL_law_326 : decode cL_law 326 = .ok (.invokevirtual 102, 3) := by decide +kernel
theorem dL_law_329 : decode cL_law 329 = .ok (.aload_n 2, 1) := by decide +kernel
theorem dL_law_330 : decode cL_law 330 = .ok (.invokevirtual 105, 3) := by decide +kernel
theorem dL_law_333 : decode cL_law 333 = .ok (.if_icmp .eq 1776, 3) := by decide +kernel
theorem dL_law_336 : decode cL_law 336 = .ok (.iconst 0, 1) := by decide +kernel
theorem dL_law_337 : decode cL_law 337 = .ok (.ireturn, 1) := by decide +kernel
theorem dL_law_338 : decode cL_law 338 = .ok (.aload_n 1, 1) := by decide +kernel
theorem dL_law_339 : decode cL_law 339 = .ok (.aload_n 0, 1) := by decide +kernel
theorem dL_law_340 : decode cL_law 340 = .ok (.iload 4, 2) := by decide +kernel
theorem dL_law_342 : decode cL_law 342 = .ok (.iconst 1, 1) := by decide +kernel
theorem dL_law_343 : decode cL_law 343 = .ok (.iadd, 1) := by decide +kernel
theorem dL_law_344 : decode cL_law 344 = .ok (.iaload, 1) := by decide +kernel
theorem dL_law_345 : decode cL_law 345 = .ok (.aload_n 3, 1) := by decide +kernel
theorem dL_law_346 : decode cL_law 346 = .ok (.invokestatic 106, 3) := by decide +kernel
theorem dL_law_349 : decode cL_law 349 = .ok (.istore 5, 2) := by decide +kernel
theorem dL_law_351 : decode cL_law 351 = .ok (.aload_n 2, 1) := by decide +kernel
theorem dL_law_352 : decode cL_law 352 = .ok (.aload_n 0, 1) := by decide +kernel
theorem dL_law_353 : decode cL_law 353 = .ok (.iload 4, 2) := by decide +kernel
theorem dL_law_355 : decode cL_law 355 = .ok (.iconst 1, 1) := by decide +kernel
theorem dL_law_356 : decode cL_law 356 = .ok (.iadd, 1) := by decide +kernel
theorem dL_law_357 : decode cL_law 357 = .ok (.iaload, 1) := by decide +kernel
theorem dL_law_358 : decode cL_law 358 = .ok (.invokevirtual 108, 3) := by decide +kernel
theorem dL_law_361 : decode cL_law 361 = .ok (.istore 6, 2) := by decide +kernel
theorem dL_law_363 : decode cL_law 363 = .ok (.aload_n 2, 1) := by decide +kernel
theorem dL_law_364 : decode cL_law 364 = .ok (.invokevirtual 98, 3) := by decide +kernel
theorem dL_law_367 : decode cL_law 367 = .ok (.iload 5, 2) := by decide +kernel
theorem dL_law_369 : decode cL_law 369 = .ok (.if_icmp .eq 5, 3) := by decide +kernel
theorem dL_law_372 : decode cL_law 372 = .ok (.iconst 0, 1) := by decide +kernel
theorem dL_law_373 : decode cL_law 373 = .ok (.ireturn, 1) := by decide +kernel
theorem dL_law_374 : decode cL_law 374 = .ok (.iload 5, 2) := by decide +kernel
theorem dL_law_376 : decode cL_law 376 = .ok (.ifCond .ne 15, 3) := by decide +kernel
theorem dL_law_379 : decode cL_law 379 = .ok (.aload_n 3, 1) := by decide +kernel
theorem dL_law_380 : decode cL_law 380 = .ok (.iconst 0, 1) := by decide +kernel
theorem dL_law_381 : decode cL_law 381 = .ok (.laload, 1) := by decide +kernel
theorem dL_law_382 : decode cL_law 382 = .ok (.iload 6, 2) := by decide +kernel
theorem dL_law_384 : decode cL_law 384 = .ok (.i2l, 1) := by decide +kernel
theorem dL_law_385 : decode cL_law 385 = .ok (.lcmp, 1) := by decide +kernel
theorem dL_law_386 : decode cL_law 386 = .ok (.ifCond .eq 5, 3) := by decide +kernel
theorem dL_law_389 : decode cL_law 389 = .ok (.iconst 0, 1) := by decide +kernel
theorem dL_law_390 : decode cL_law 390 = .ok (.ireturn, 1) := by decide +kernel
theorem dL_law_391 : decode cL_law 391 = .ok (.goto 1718, 3) := by decide +kernel
theorem dL_law_394 : decode cL_law 394 = .ok (.aload_n 1, 1) := by decide +kernel
theorem dL_law_395 : decode cL_law 395 = .ok (.aload_n 0, 1) := by decide +kernel
theorem dL_law_396 : decode cL_law 396 = .ok (.iload 4, 2) := by decide +kernel
theorem dL_law_398 : decode cL_law 398 = .ok (.iconst 1, 1) := by decide +kernel
theorem dL_law_399 : decode cL_law 399 = .ok (.iadd, 1) := by decide +kernel
theorem dL_law_400 : decode cL_law 400 = .ok (.iaload, 1) := by decide +kernel
theorem dL_law_401 : decode cL_law 401 = .ok (.aload_n 0, 1) := by decide +kernel
theorem dL_law_402 : decode cL_law 402 = .ok (.iload 4, 2) := by decide +kernel
theorem dL_law_404 : decode cL_law 404 = .ok (.iconst 2, 1) := by decide +kernel
theorem dL_law_405 : decode cL_law 405 = .ok (.iadd, 1) := by decide +kernel
theorem dL_law_406 : decode cL_law 406 = .ok (.iaload, 1) := by decide +kernel
theorem dL_law_407 : decode cL_law 407 = .ok (.aload_n 3, 1) := by decide +kernel
theorem dL_law_408 : decode cL_law 408 = .ok (.invokestatic 109, 3) := by decide +kernel
theorem dL_law_411 : decode cL_law 411 = .ok (.istore 5, 2) := by decide +kernel
theorem dL_law_413 : decode cL_law 413 = .ok (.aload_n 2, 1) := by decide +kernel
theorem dL_law_414 : decode cL_law 414 = .ok (.aload_n 0, 1) := by decide +kernel
theorem dL_law_415 : decode cL_law 415 = .ok (.iload 4, 2) := by decide +kernel
theorem dL_law_417 : decode cL_law 417 = .ok (.iconst 1, 1) := by decide +kernel
theorem dL_law_418 : decode cL_law 418 = .ok (.iadd, 1) := by decide +kernel
theorem dL_law_419 : decode cL_law 419 = .ok (.iaload, 1) := by decide +kernel
theorem dL_law_420 : decode cL_law 420 = .ok (.aload_n 0, 1) := by decide +kernel
theorem dL_law_421 : decode cL_law 421 = .ok (.iload 4, 2) := by decide +kernel
theorem dL_law_423 : decode cL_law 423 = .ok (.iconst 2, 1) := by decide +kernel
theorem dL_law_424 : decode cL_law 424 = .ok (.iadd, 1) := by decide +kernel
theorem dL_law_425 : decode cL_law 425 = .ok (.iaload, 1) := by decide +kernel
theorem dL_law_426 : decode cL_law 426 = .ok (.invokevirtual 112, 3) := by decide +kernel
theorem dL_law_429 : decode cL_law 429 = .ok (.istore 6, 2) := by decide +kernel
theorem dL_law_431 : decode cL_law 431 = .ok (.aload_n 2, 1) := by decide +kernel
theorem dL_law_432 : decode cL_law 432 = .ok (.invokevirtual 98, 3) := by decide +kernel
theorem dL_law_435 : decode cL_law 435 = .ok (.iload 5, 2) := by decide +kernel
theorem dL_law_437 : decode cL_law 437 = .ok (.if_icmp .eq 5, 3) := by decide +kernel
theorem dL_law_440 : decode cL_law 440 = .ok (.iconst 0, 1) := by decide +kernel
theorem dL_law_441 : decode cL_law 441 = .ok (.ireturn, 1) := by decide +kernel
theorem dL_law_442 : decode cL_law 442 = .ok (.iload 5, 2) := by decide +kernel
theorem dL_law_444 : decode cL_law 444 = .ok (.ifCond .ne 15, 3) := by decide +kernel
theorem dL_law_447 : decode cL_law 447 = .ok (.aload_n 3, 1) := by decide +kernel
theorem dL_law_448 : decode cL_law 448 = .ok (.iconst 0, 1) := by decide +kernel
theorem dL_law_449 : decode cL_law 449 = .ok (.laload, 1) := by decide +kernel
theorem dL_law_450 : decode cL_law 450 = .ok (.iload 6, 2) := by decide +kernel
theorem dL_law_452 : decode cL_law 452 = .ok (.i2l, 1) := by decide +kernel
theorem dL_law_453 : decode cL_law 453 = .ok (.lcmp, 1) := by decide +kernel
theorem dL_law_454 : decode cL_law 454 = .ok (.ifCond .eq 5, 3) := by decide +kernel
theorem dL_law_457 : decode cL_law 457 = .ok (.iconst 0, 1) := by decide +kernel
theorem dL_law_458 : decode cL_law 458 = .ok (.ireturn, 1) := by decide +kernel
theorem dL_law_459 : decode cL_law 459 = .ok (.goto 1650, 3) := by decide +kernel
theorem dL_law_462 : decode cL_law 462 = .ok (.aload_n 1, 1) := by decide +kernel
theorem dL_law_463 : decode cL_law 463 = .ok (.aload_n 0, 1) := by decide +kernel
theorem dL_law_464 : decode cL_law 464 = .ok (.iload 4, 2) := by decide +kernel
theorem dL_law_466 : decode cL_law 466 = .ok (.iconst 1, 1) := by decide +kernel
theorem dL_law_467 : decode cL_law 467 = .ok (.iadd, 1) := by decide +kernel
theorem dL_law_468 : decode cL_law 468 = .ok (.iaload, 1) := by decide +kernel
theorem dL_law_469 : decode cL_law 469 = .ok (.aload_n 0, 1) := by decide +kernel
theorem dL_law_470 : decode cL_law 470 = .ok (.iload 4, 2) := by decide +kernel
theorem dL_law_472 : decode cL_law 472 = .ok (.iconst 2, 1) := by decide +kernel
theorem dL_law_473 : decode cL_law 473 = .ok (.iadd, 1) := by decide +kernel
theorem dL_law_474 : decode cL_law 474 = .ok (.iaload, 1) := by decide +kernel
theorem dL_law_475 : decode cL_law 475 = .ok (.aload_n 0, 1) := by decide +kernel
theorem dL_law_476 : decode cL_law 476 = .ok (.iload 4, 2) := by decide +kernel
theorem dL_law_478 : decode cL_law 478 = .ok (.iconst 3, 1) := by decide +kernel
theorem dL_law_479 : decode cL_law 479 = .ok (.iadd, 1) := by decide +kernel
theorem dL_law_480 : decode cL_law 480 = .ok (.iaload, 1) := by decide +kernel
theorem dL_law_481 : decode cL_law 481 = .ok (.aload_n 3, 1) := by decide +kernel
theorem dL_law_482 : decode cL_law 482 = .ok (.invokestatic 113, 3) := by decide +kernel
theorem dL_law_485 : decode cL_law 485 = .ok (.istore 5, 2) := by decide +kernel
theorem dL_law_487 : decode cL_law 487 = .ok (.aload_n 2, 1) := by decide +kernel
theorem dL_law_488 : decode cL_law 488 = .ok (.aload_n 0, 1) := by decide +kernel
theorem dL_law_489 : decode cL_law 489 = .ok (.iload 4, 2) := by decide +kernel
theorem dL_law_491 : decode cL_law 491 = .ok (.iconst 1, 1) := by decide +kernel
theorem dL_law_492 : decode cL_law 492 = .ok (.iadd, 1) := by decide +kernel
theorem dL_law_493 : decode cL_law 493 = .ok (.iaload, 1) := by decide +kernel
theorem dL_law_494 : decode cL_law 494 = .ok (.aload_n 0, 1) := by decide +kernel
theorem dL_law_495 : decode cL_law 495 = .ok (.iload 4, 2) := by decide +kernel
theorem dL_law_497 : decode cL_law 497 = .ok (.iconst 2, 1) := by decide +kernel
theorem dL_law_498 : decode cL_law 498 = .ok (.iadd, 1) := by decide +kernel
theorem dL_law_499 : decode cL_law 499 = .ok (.iaload, 1) := by decide +kernel
theorem dL_law_500 : decode cL_law 500 = .ok (.aload_n 0, 1) := by decide +kernel
theorem dL_law_501 : decode cL_law 501 = .ok (.iload 4, 2) := by decide +kernel
theorem dL_law_503 : decode cL_law 503 = .ok (.iconst 3, 1) := by decide +kernel
theorem dL_law_504 : decode cL_law 504 = .ok (.iadd, 1) := by decide +kernel
theorem dL_law_505 : decode cL_law 505 = .ok (.iaload, 1) := by decide +kernel
theorem dL_law_506 : decode cL_law 506 = .ok (.invokevirtual 116, 3) := by decide +kernel
theorem dL_law_509 : decode cL_law 509 = .ok (.istore 6, 2) := by decide +kernel
theorem dL_law_511 : decode cL_law 511 = .ok (.aload_n 2, 1) := by decide +kernel
theorem dL_law_512 : decode cL_law 512 = .ok (.invokevirtual 98, 3) := by decide +kernel
theorem dL_law_515 : decode cL_law 515 = .ok (.iload 5, 2) := by decide +kernel
theorem dL_law_517 : decode cL_law 517 = .ok (.if_icmp .eq 5, 3) := by decide +kernel
theorem dL_law_520 : decode cL_law 520 = .ok (.iconst 0, 1) := by decide +kernel
theorem dL_law_521 : decode cL_law 521 = .ok (.ireturn, 1) := by decide +kernel
theorem dL_law_522 : decode cL_law 522 = .ok (.iload 5, 2) := by decide +kernel
theorem dL_law_524 : decode cL_law 524 = .ok (.ifCond .ne 15, 3) := by decide +kernel
theorem dL_law_527 : decode cL_law 527 = .ok (.aload_n 3, 1) := by decide +kernel
theorem dL_law_528 : decode cL_law 528 = .ok (.iconst 0, 1) := by decide +kernel
theorem dL_law_529 : decode cL_law 529 = .ok (.laload, 1) := by decide +kernel
theorem dL_law_530 : decode cL_law 530 = .ok (.iload 6, 2) := by decide +kernel
theorem dL_law_532 : decode cL_law 532 = .ok (.i2l, 1) := by decide +kernel
theorem dL_law_533 : decode cL_law 533 = .ok (.lcmp, 1) := by decide +kernel
theorem dL_law_534 : decode cL_law 534 = .ok (.ifCond .eq 5, 3) := by decide +kernel
theorem dL_law_537 : decode cL_law 537 = .ok (.iconst 0, 1) := by decide +kernel
theorem dL_law_538 : decode cL_law 538 = .ok (.ireturn, 1) := by decide +kernel
theorem dL_law_539 : decode cL_law 539 = .ok (.goto 1570, 3) := by decide +kernel
theorem dL_law_542 : decode cL_law 542 = .ok (.aload_n 1, 1) := by decide +kernel
theorem dL_law_543 : decode cL_law 543 = .ok (.aload_n 0, 1) := by decide +kernel
theorem dL_law_544 : decode cL_law 544 = .ok (.iload 4, 2) := by decide +kernel
theorem dL_law_546 : decode cL_law 546 = .ok (.iconst 1, 1) := by decide +kernel
theorem dL_law_547 : decode cL_law 547 = .ok (.iadd, 1) := by decide +kernel
theorem dL_law_548 : decode cL_law 548 = .ok (.iaload, 1) := by decide +kernel
theorem dL_law_549 : decode cL_law 549 = .ok (.aload_n 0, 1) := by decide +kernel
theorem dL_law_550 : decode cL_law 550 = .ok (.iload 4, 2) := by decide +kernel
theorem dL_law_552 : decode cL_law 552 = .ok (.iconst 2, 1) := by decide +kernel
theorem dL_law_553 : decode cL_law 553 = .ok (.iadd, 1) := by decide +kernel
theorem dL_law_554 : decode cL_law 554 = .ok (.iaload, 1) := by decide +kernel
theorem dL_law_555 : decode cL_law 555 = .ok (.aload_n 3, 1) := by decide +kernel
theorem dL_law_556 : decode cL_law 556 = .ok (.invokestatic 117, 3) := by decide +kernel
theorem dL_law_559 : decode cL_law 559 = .ok (.istore 5, 2) := by decide +kernel
theorem dL_law_561 : decode cL_law 561 = .ok (.aload_n 2, 1) := by decide +kernel
theorem dL_law_562 : decode cL_law 562 = .ok (.aload_n 0, 1) := by decide +kernel
theorem dL_law_563 : decode cL_law 563 = .ok (.iload 4, 2) := by decide +kernel
theorem dL_law_565 : decode cL_law 565 = .ok (.iconst 1, 1) := by decide +kernel
theorem dL_law_566 : decode cL_law 566 = .ok (.iadd, 1) := by decide +kernel
theorem dL_law_567 : decode cL_law 567 = .ok (.iaload, 1) := by decide +kernel
theorem dL_law_568 : decode cL_law 568 = .ok (.aload_n 0, 1) := by decide +kernel
theorem dL_law_569 : decode cL_law 569 = .ok (.iload 4, 2) := by decide +kernel
theorem dL_law_571 : decode cL_law 571 = .ok (.iconst 2, 1) := by decide +kernel
theorem dL_law_572 : decode cL_law 572 = .ok (.iadd, 1) := by decide +kernel
theorem dL_law_573 : decode cL_law 573 = .ok (.iaload, 1) := by decide +kernel
theorem dL_law_574 : decode cL_law 574 = .ok (.invokevirtual 119, 3) := by decide +kernel
theorem dL_law_577 : decode cL_law 577 = .ok (.istore 6, 2) := by decide +kernel
theorem dL_law_579 : decode cL_law 579 = .ok (.aload_n 2, 1) := by decide +kernel
theorem dL_law_580 : decode cL_law 580 = .ok (.invokevirtual 98, 3) := by decide +kernel
theorem dL_law_583 : decode cL_law 583 = .ok (.iload 5, 2) := by decide +kernel
theorem dL_law_585 : decode cL_law 585 = .ok (.if_icmp .eq 5, 3) := by decide +kernel
theorem dL_law_588 : decode cL_law 588 = .ok (.iconst 0, 1) := by decide +kernel
theorem dL_law_589 : decode cL_law 589 = .ok (.ireturn, 1) := by decide +kernel
theorem dL_law_590 : decode cL_law 590 = .ok (.iload 5, 2) := by decide +kernel
theorem dL_law_592 : decode cL_law 592 = .ok (.ifCond .ne 15, 3) := by decide +kernel
theorem dL_law_595 : decode cL_law 595 = .ok (.aload_n 3, 1) := by decide +kernel
theorem dL_law_596 : decode cL_law 596 = .ok (.iconst 0, 1) := by decide +kernel
theorem dL_law_597 : decode cL_law 597 = .ok (.laload, 1) := by decide +kernel
theorem dL_law_598 : decode cL_law 598 = .ok (.iload 6, 2) := by decide +kernel
theorem dL_law_600 : decode cL_law 600 = .ok (.i2l, 1) := by decide +kernel
theorem dL_law_601 : decode cL_law 601 = .ok (.lcmp, 1) := by decide +kernel
theorem dL_law_602 : decode cL_law 602 = .ok (.ifCond .eq 5, 3) := by decide +kernel
theorem dL_law_605 : decode cL_law 605 = .ok (.iconst 0, 1) := by decide +kernel
theorem dL_law_606 : decode cL_law 606 = .ok (.ireturn, 1) := by decide +kernel
theorem dL_law_607 : decode cL_law 607 = .ok (.goto 1502, 3) := by decide +kernel
theorem dL_law_610 : decode cL_law 610 = .ok (.aload_n 1, 1) := by decide +kernel
theorem dL_law_611 : decode cL_law 611 = .ok (.aload_n 0, 1) := by decide +kernel
theorem dL_law_612 : decode cL_law 612 = .ok (.iload 4, 2) := by decide +kernel
theorem dL_law_614 : decode cL_law 614 = .ok (.iconst 1, 1) := by decide +kernel
theorem dL_law_615 : decode cL_law 615 = .ok (.iadd, 1) := by decide +kernel
theorem dL_law_616 : decode cL_law 616 = .ok (.iaload, 1) := by decide +kernel
theorem dL_law_617 : decode cL_law 617 = .ok (.aload_n 0, 1) := by decide +kernel
theorem dL_law_618 : decode cL_law 618 = .ok (.iload 4, 2) := by decide +kernel
theorem dL_law_620 : decode cL_law 620 = .ok (.iconst 2, 1) := by decide +kernel
theorem dL_law_621 : decode cL_law 621 = .ok (.iadd, 1) := by decide +kernel
theorem dL_law_622 : decode cL_law 622 = .ok (.iaload, 1) := by decide +kernel
theorem dL_law_623 : decode cL_law 623 = .ok (.aload_n 3, 1) := by decide +kernel
theorem dL_law_624 : decode cL_law 624 = .ok (.invokestatic 120, 3) := by decide +kernel
theorem dL_law_627 : decode cL_law 627 = .ok (.istore 5, 2) := by decide +kernel
theorem dL_law_629 : decode cL_law 629 = .ok (.aload_n 2, 1) := by decide +kernel
theorem dL_law_630 : decode cL_law 630 = .ok (.aload_n 0, 1) := by decide +kernel
theorem dL_law_631 : decode cL_law 631 = .ok (.iload 4, 2) := by decide +kernel
theorem dL_law_633 : decode cL_law 633 = .ok (.iconst 1, 1) := by decide +kernel
theorem dL_law_634 : decode cL_law 634 = .ok (.iadd, 1) := by decide +kernel
theorem dL_law_635 : decode cL_law 635 = .ok (.iaload, 1) := by decide +kernel
theorem dL_law_636 : decode cL_law 636 = .ok (.aload_n 0, 1) := by decide +kernel
theorem dL_law_637 : decode cL_law 637 = .ok (.iload 4, 2) := by decide +kernel
theorem dL_law_639 : decode cL_law 639 = .ok (.iconst 2, 1) := by decide +kernel
theorem dL_law_640 : decode cL_law 640 = .ok (.iadd, 1) := by decide +kernel
theorem dL_law_641 : decode cL_law 641 = .ok (.iaload, 1) := by decide +kernel
theorem dL_law_642 : decode cL_law 642 = .ok (.invokevirtual 122, 3) := by decide +kernel
theorem dL_law_645 : decode cL_law 645 = .ok (.istore 6, 2) := by decide +kernel
theorem dL_law_647 : decode cL_law 647 = .ok (.aload_n 2, 1) := by decide +kernel
theorem dL_law_648 : decode cL_law 648 = .ok (.invokevirtual 98, 3) := by decide +kernel
theorem dL_law_651 : decode cL_law 651 = .ok (.iload 5, 2) := by decide +kernel
theorem dL_law_653 : decode cL_law 653 = .ok (.if_icmp .eq 5, 3) := by decide +kernel
theorem dL_law_656 : decode cL_law 656 = .ok (.iconst 0, 1) := by decide +kernel
theorem dL_law_657 : decode cL_law 657 = .ok (.ireturn, 1) := by decide +kernel
theorem dL_law_658 : decode cL_law 658 = .ok (.iload 5, 2) := by decide +kernel
theorem dL_law_660 : decode cL_law 660 = .ok (.ifCond .ne 15, 3) := by decide +kernel
theorem dL_law_663 : decode cL_law 663 = .ok (.aload_n 3, 1) := by decide +kernel
theorem dL_law_664 : decode cL_law 664 = .ok (.iconst 0, 1) := by decide +kernel
theorem dL_law_665 : decode cL_law 665 = .ok (.laload, 1) := by decide +kernel
theorem dL_law_666 : decode cL_law 666 = .ok (.iload 6, 2) := by decide +kernel
theorem dL_law_668 : decode cL_law 668 = .ok (.i2l, 1) := by decide +kernel
theorem dL_law_669 : decode cL_law 669 = .ok (.lcmp, 1) := by decide +kernel
theorem dL_law_670 : decode cL_law 670 = .ok (.ifCond .eq 5, 3) := by decide +kernel
theorem dL_law_673 : decode cL_law 673 = .ok (.iconst 0, 1) := by decide +kernel
theorem dL_law_674 : decode cL_law 674 = .ok (.ireturn, 1) := by decide +kernel
theorem dL_law_675 : decode cL_law 675 = .ok (.goto 1434, 3) := by decide +kernel
theorem dL_law_678 : decode cL_law 678 = .ok (.aload_n 1, 1) := by decide +kernel
theorem dL_law_679 : decode cL_law 679 = .ok (.aload_n 0, 1) := by decide +kernel
theorem dL_law_680 : decode cL_law 680 = .ok (.iload 4, 2) := by decide +kernel
theorem dL_law_682 : decode cL_law 682 = .ok (.iconst 1, 1) := by decide +kernel
theorem dL_law_683 : decode cL_law 683 = .ok (.iadd, 1) := by decide +kernel
theorem dL_law_684 : decode cL_law 684 = .ok (.iaload, 1) := by decide +kernel
theorem dL_law_685 : decode cL_law 685 = .ok (.aload_n 0, 1) := by decide +kernel
theorem dL_law_686 : decode cL_law 686 = .ok (.iload 4, 2) := by decide +kernel
theorem dL_law_688 : decode cL_law 688 = .ok (.iconst 2, 1) := by decide +kernel
theorem dL_law_689 : decode cL_law 689 = .ok (.iadd, 1) := by decide +kernel
theorem dL_law_690 : decode cL_law 690 = .ok (.iaload, 1) := by decide +kernel
theorem dL_law_691 : decode cL_law 691 = .ok (.invokevirtual 123, 3) := by decide +kernel
theorem dL_law_694 : decode cL_law 694 = .ok (.aload_n 2, 1) := by decide +kernel
theorem dL_law_695 : decode cL_law 695 = .ok (.aload_n 0, 1) := by decide +kernel
theorem dL_law_696 : decode cL_law 696 = .ok (.iload 4, 2) := by decide +kernel
theorem dL_law_698 : decode cL_law 698 = .ok (.iconst 1, 1) := by decide +kernel
theorem dL_law_699 : decode cL_law 699 = .ok (.iadd, 1) := by decide +kernel
theorem dL_law_700 : decode cL_law 700 = .ok (.iaload, 1) := by decide +kernel
theorem dL_law_701 : decode cL_law 701 = .ok (.aload_n 0, 1) := by decide +kernel
theorem dL_law_702 : decode cL_law 702 = .ok (.iload 4, 2) := by decide +kernel
theorem dL_law_704 : decode cL_law 704 = .ok (.iconst 2, 1) := by decide +kernel
theorem dL_law_705 : decode cL_law 705 = .ok (.iadd, 1) := by decide +kernel
theorem dL_law_706 : decode cL_law 706 = .ok (.iaload, 1) := by decide +kernel
theorem dL_law_707 : decode cL_law 707 = .ok (.invokevirtual 126, 3) := by decide +kernel
theorem dL_law_710 : decode cL_law 710 = .ok (.if_icmp .eq 1399, 3) := by decide +kernel
theorem dL_law_713 : decode cL_law 713 = .ok (.iconst 0, 1) := by decide +kernel
theorem dL_law_714 : decode cL_law 714 = .ok (.ireturn, 1) := by decide +kernel
theorem dL_law_715 : decode cL_law 715 = .ok (.aload_n 1, 1) := by decide +kernel
theorem dL_law_716 : decode cL_law 716 = .ok (.aload_n 0, 1) := by decide +kernel
theorem dL_law_717 : decode cL_law 717 = .ok (.iload 4, 2) := by decide +kernel
theorem dL_law_719 : decode cL_law 719 = .ok (.iconst 1, 1) := by decide +kernel
theorem dL_law_720 : decode cL_law 720 = .ok (.iadd, 1) := by decide +kernel
theorem dL_law_721 : decode cL_law 721 = .ok (.iaload, 1) := by decide +kernel
theorem dL_law_722 : decode cL_law 722 = .ok (.invokevirtual 127, 3) := by decide +kernel
theorem dL_law_725 : decode cL_law 725 = .ok (.aload_n 2, 1) := by decide +kernel
theorem dL_law_726 : decode cL_law 726 = .ok (.aload_n 0, 1) := by decide +kernel
theorem dL_law_727 : decode cL_law 727 = .ok (.iload 4, 2) := by decide +kernel
theorem dL_law_729 : decode cL_law 729 = .ok (.iconst 1, 1) := by decide +kernel
theorem dL_law_730 : decode cL_law 730 = .ok (.iadd, 1) := by decide +kernel
theorem dL_law_731 : decode cL_law 731 = .ok (.iaload, 1) := by decide +kernel
theorem dL_law_732 : decode cL_law 732 = .ok (.invokevirtual 130, 3) := by decide +kernel
theorem dL_law_735 : decode cL_law 735 = .ok (.if_icmp .eq 1374, 3) := by decide +kernel
theorem dL_law_738 : decode cL_law 738 = .ok (.iconst 0, 1) := by decide +kernel
theorem dL_law_739 : decode cL_law 739 = .ok (.ireturn, 1) := by decide +kernel
theorem dL_law_740 : decode cL_law 740 = .ok (.aload_n 1, 1) := by decide +kernel
theorem dL_law_741 : decode cL_law 741 = .ok (.aload_n 0, 1) := by decide +kernel
theorem dL_law_742 : decode cL_law 742 = .ok (.iload 4, 2) := by decide +kernel
theorem dL_law_744 : decode cL_law 744 = .ok (.iconst 1, 1) := by decide +kernel
theorem dL_law_745 : decode cL_law 745 = .ok (.iadd, 1) := by decide +kernel
theorem dL_law_746 : decode cL_law 746 = .ok (.iaload, 1) := by decide +kernel
theorem dL_law_747 : decode cL_law 747 = .ok (.aload_n 0, 1) := by decide +kernel
theorem dL_law_748 : decode cL_law 748 = .ok (.iload 4, 2) := by decide +kernel
theorem dL_law_750 : decode cL_law 750 = .ok (.iconst 2, 1) := by decide +kernel
theorem dL_law_751 : decode cL_law 751 = .ok (.iadd, 1) := by decide +kernel
theorem dL_law_752 : decode cL_law 752 = .ok (.iaload, 1) := by decide +kernel
theorem dL_law_753 : decode cL_law 753 = .ok (.aload_n 0, 1) := by decide +kernel
theorem dL_law_754 : decode cL_law 754 = .ok (.iload 4, 2) := by decide +kernel
theorem dL_law_756 : decode cL_law 756 = .ok (.iconst 3, 1) := by decide +kernel
theorem dL_law_757 : decode cL_law 757 = .ok (.iadd, 1) := by decide +kernel
theorem dL_law_758 : decode cL_law 758 = .ok (.iaload, 1) := by decide +kernel
theorem dL_law_759 : decode cL_law 759 = .ok (.aload_n 0, 1) := by decide +kernel
theorem dL_law_760 : decode cL_law 760 = .ok (.iload 4, 2) := by decide +kernel
theorem dL_law_762 : decode cL_law 762 = .ok (.iconst 4, 1) := by decide +kernel
theorem dL_law_763 : decode cL_law 763 = .ok (.iadd, 1) := by decide +kernel
theorem dL_law_764 : decode cL_law 764 = .ok (.iaload, 1) := by decide +kernel
theorem dL_law_765 : decode cL_law 765 = .ok (.aload_n 0, 1) := by decide +kernel
theorem dL_law_766 : decode cL_law 766 = .ok (.iload 4, 2) := by decide +kernel
theorem dL_law_768 : decode cL_law 768 = .ok (.iconst 5, 1) := by decide +kernel
theorem dL_law_769 : decode cL_law 769 = .ok (.iadd, 1) := by decide +kernel
theorem dL_law_770 : decode cL_law 770 = .ok (.iaload, 1) := by decide +kernel
theorem dL_law_771 : decode cL_law 771 = .ok (.invokevirtual 131, 3) := by decide +kernel
theorem dL_law_774 : decode cL_law 774 = .ok (.aload_n 2, 1) := by decide +kernel
theorem dL_law_775 : decode cL_law 775 = .ok (.aload_n 0, 1) := by decide +kernel
theorem dL_law_776 : decode cL_law 776 = .ok (.iload 4, 2) := by decide +kernel
theorem dL_law_778 : decode cL_law 778 = .ok (.iconst 1, 1) := by decide +kernel
theorem dL_law_779 : decode cL_law 779 = .ok (.iadd, 1) := by decide +kernel
theorem dL_law_780 : decode cL_law 780 = .ok (.iaload, 1) := by decide +kernel
theorem dL_law_781 : decode cL_law 781 = .ok (.aload_n 0, 1) := by decide +kernel
theorem dL_law_782 : decode cL_law 782 = .ok (.iload 4, 2) := by decide +kernel
theorem dL_law_784 : decode cL_law 784 = .ok (.iconst 2, 1) := by decide +kernel
theorem dL_law_785 : decode cL_law 785 = .ok (.iadd, 1) := by decide +kernel
theorem dL_law_786 : decode cL_law 786 = .ok (.iaload, 1) := by decide +kernel
theorem dL_law_787 : decode cL_law 787 = .ok (.aload_n 0, 1) := by decide +kernel
theorem dL_law_788 : decode cL_law 788 = .ok (.iload 4, 2) := by decide +kernel
theorem dL_law_790 : decode cL_law 790 = .ok (.iconst 3, 1) := by decide +kernel
theorem dL_law_791 : decode cL_law 791 = .ok (.iadd, 1) := by decide +kernel
theorem dL_law_792 : decode cL_law 792 = .ok (.iaload, 1) := by decide +kernel
theorem dL_law_793 : decode cL_law 793 = .ok (.aload_n 0, 1) := by decide +kernel
theorem dL_law_794 : decode cL_law 794 = .ok (.iload 4, 2) := by decide +kernel
theorem dL_law_796 : decode cL_law 796 = .ok (.iconst 4, 1) := by decide +kernel
theorem dL_law_797 : decode cL_law 797 = .ok (.iadd, 1) := by decide +kernel
theorem dL_law_798 : decode cL_law 798 = .ok (.iaload, 1) := by decide +kernel
theorem dL_law_799 : decode cL_law 799 = .ok (.aload_n 0, 1) := by decide +kernel
theorem dL_law_800 : decode cL_law 800 = .ok (.iload 4, 2) := by decide +kernel
theorem dL_law_802 : decode cL_law 802 = .ok (.iconst 5, 1) := by decide +kernel
theorem dL_law_803 : decode cL_law 803 = .ok (.iadd, 1) := by decide +kernel
theorem dL_law_804 : decode cL_law 804 = .ok (.iaload, 1) := by decide +kernel
theorem dL_law_805 : decode cL_law 805 = .ok (.invokevirtual 134, 3) := by decide +kernel
theorem dL_law_808 : decode cL_law 808 = .ok (.if_icmp .eq 1301, 3) := by decide +kernel
theorem dL_law_811 : decode cL_law 811 = .ok (.iconst 0, 1) := by decide +kernel
theorem dL_law_812 : decode cL_law 812 = .ok (.ireturn, 1) := by decide +kernel
theorem dL_law_813 : decode cL_law 813 = .ok (.aload_n 1, 1) := by decide +kernel
theorem dL_law_814 : decode cL_law 814 = .ok (.aload_n 0, 1) := by decide +kernel
theorem dL_law_815 : decode cL_law 815 = .ok (.iload 4, 2) := by decide +kernel
theorem dL_law_817 : decode cL_law 817 = .ok (.iconst 1, 1) := by decide +kernel
theorem dL_law_818 : decode cL_law 818 = .ok (.iadd, 1) := by decide +kernel
theorem dL_law_819 : decode cL_law 819 = .ok (.iaload, 1) := by decide +kernel
theorem dL_law_820 : decode cL_law 820 = .ok (.invokevirtual 135, 3) := by decide +kernel
theorem dL_law_823 : decode cL_law 823 = .ok (.aload_n 2, 1) := by decide +kernel
theorem dL_law_824 : decode cL_law 824 = .ok (.aload_n 0, 1) := by decide +kernel
theorem dL_law_825 : decode cL_law 825 = .ok (.iload 4, 2) := by decide +kernel
theorem dL_law_827 : decode cL_law 827 = .ok (.iconst 1, 1) := by decide +kernel
theorem dL_law_828 : decode cL_law 828 = .ok (.iadd, 1) := by decide +kernel
theorem dL_law_829 : decode cL_law 829 = .ok (.iaload, 1) := by decide +kernel
theorem dL_law_830 : decode cL_law 830 = .ok (.invokevirtual 138, 3) := by decide +kernel
theorem dL_law_833 : decode cL_law 833 = .ok (.if_icmp .eq 1276, 3) := by decide +kernel
theorem dL_law_836 : decode cL_law 836 = .ok (.iconst 0, 1) := by decide +kernel
theorem dL_law_837 : decode cL_law 837 = .ok (.ireturn, 1) := by decide +kernel
theorem dL_law_838 : decode cL_law 838 = .ok (.aload_n 1, 1) := by decide +kernel
theorem dL_law_839 : decode cL_law 839 = .ok (.aload_n 0, 1) := by decide +kernel
theorem dL_law_840 : decode cL_law 840 = .ok (.iload 4, 2) := by decide +kernel
theorem dL_law_842 : decode cL_law 842 = .ok (.iconst 1, 1) := by decide +kernel
theorem dL_law_843 : decode cL_law 843 = .ok (.iadd, 1) := by decide +kernel
theorem dL_law_844 : decode cL_law 844 = .ok (.iaload, 1) := by decide +kernel
theorem dL_law_845 : decode cL_law 845 = .ok (.aload_n 0, 1) := by decide +kernel
theorem dL_law_846 : decode cL_law 846 = .ok (.iload 4, 2) := by decide +kernel
theorem dL_law_848 : decode cL_law 848 = .ok (.iconst 2, 1) := by decide +kernel
theorem dL_law_849 : decode cL_law 849 = .ok (.iadd, 1) := by decide +kernel
theorem dL_law_850 : decode cL_law 850 = .ok (.iaload, 1) := by decide +kernel
theorem dL_law_851 : decode cL_law 851 = .ok (.invokevirtual 139, 3) := by decide +kernel
theorem dL_law_854 : decode cL_law 854 = .ok (.aload_n 2, 1) := by decide +kernel
theorem dL_law_855 : decode cL_law 855 = .ok (.aload_n 0, 1) := by decide +kernel
theorem dL_law_856 : decode cL_law 856 = .ok (.iload 4, 2) := by decide +kernel
theorem dL_law_858 : decode cL_law 858 = .ok (.iconst 1, 1) := by decide +kernel
theorem dL_law_859 : decode cL_law 859 = .ok (.iadd, 1) := by decide +kernel
theorem dL_law_860 : decode cL_law 860 = .ok (.iaload, 1) := by decide +kernel
theorem dL_law_861 : decode cL_law 861 = .ok (.aload_n 0, 1) := by decide +kernel
theorem dL_law_862 : decode cL_law 862 = .ok (.iload 4, 2) := by decide +kernel
theorem dL_law_864 : decode cL_law 864 = .ok (.iconst 2, 1) := by decide +kernel
theorem dL_law_865 : decode cL_law 865 = .ok (.iadd, 1) := by decide +kernel
theorem dL_law_866 : decode cL_law 866 = .ok (.iaload, 1) := by decide +kernel
theorem dL_law_867 : decode cL_law 867 = .ok (.invokevirtual 143, 3) := by decide +kernel
theorem dL_law_870 : decode cL_law 870 = .ok (.if_icmp .eq 1239, 3) := by decide +kernel
theorem dL_law_873 : decode cL_law 873 = .ok (.iconst 0, 1) := by decide +kernel
theorem dL_law_874 : decode cL_law 874 = .ok (.ireturn, 1) := by decide +kernel
theorem dL_law_875 : decode cL_law 875 = .ok (.aload_n 1, 1) := by decide +kernel
theorem dL_law_876 : decode cL_law 876 = .ok (.aload_n 0, 1) := by decide +kernel
theorem dL_law_877 : decode cL_law 877 = .ok (.iload 4, 2) := by decide +kernel
theorem dL_law_879 : decode cL_law 879 = .ok (.iconst 1, 1) := by decide +kernel
theorem dL_law_880 : decode cL_law 880 = .ok (.iadd, 1) := by decide +kernel
theorem dL_law_881 : decode cL_law 881 = .ok (.iaload, 1) := by decide +kernel
theorem dL_law_882 : decode cL_law 882 = .ok (.invokevirtual 144, 3) := by decide +kernel
theorem dL_law_885 : decode cL_law 885 = .ok (.aload_n 2, 1) := by decide +kernel
theorem dL_law_886 : decode cL_law 886 = .ok (.aload_n 0, 1) := by decide +kernel
theorem dL_law_887 : decode cL_law 887 = .ok (.iload 4, 2) := by decide +kernel
theorem dL_law_889 : decode cL_law 889 = .ok (.iconst 1, 1) := by decide +kernel
theorem dL_law_890 : decode cL_law 890 = .ok (.iadd, 1) := by decide +kernel
theorem dL_law_891 : decode cL_law 891 = .ok (.iaload, 1) := by decide +kernel
theorem dL_law_892 : decode cL_law 892 = .ok (.invokevirtual 147, 3) := by decide +kernel
theorem dL_law_895 : decode cL_law 895 = .ok (.if_icmp .eq 1214, 3) := by decide +kernel
theorem dL_law_898 : decode cL_law 898 = .ok (.iconst 0, 1) := by decide +kernel
theorem dL_law_899 : decode cL_law 899 = .ok (.ireturn, 1) := by decide +kernel
theorem dL_law_900 : decode cL_law 900 = .ok (.aload_n 1, 1) := by decide +kernel
theorem dL_law_901 : decode cL_law 901 = .ok (.invokevirtual 148, 3) := by decide +kernel
theorem dL_law_904 : decode cL_law 904 = .ok (.aload_n 2, 1) := by decide +kernel
theorem dL_law_905 : decode cL_law 905 = .ok (.invokevirtual 151, 3) := by decide +kernel
theorem dL_law_908 : decode cL_law 908 = .ok (.if_icmp .eq 1201, 3) := by decide +kernel
theorem dL_law_911 : decode cL_law 911 = .ok (.iconst 0, 1) := by decide +kernel
theorem dL_law_912 : decode cL_law 912 = .ok (.ireturn, 1) := by decide +kernel
theorem dL_law_913 : decode cL_law 913 = .ok (.aload_n 1, 1) := by decide +kernel
theorem dL_law_914 : decode cL_law 914 = .ok (.aload_n 0, 1) := by decide +kernel
theorem dL_law_915 : decode cL_law 915 = .ok (.iload 4, 2) := by decide +kernel
theorem dL_law_917 : decode cL_law 917 = .ok (.iconst 1, 1) := by decide +kernel
theorem dL_law_918 : decode cL_law 918 = .ok (.iadd, 1) := by decide +kernel
theorem dL_law_919 : decode cL_law 919 = .ok (.iaload, 1) := by decide +kernel
theorem dL_law_920 : decode cL_law 920 = .ok (.aload_n 3, 1) := by decide +kernel
theorem dL_law_921 : decode cL_law 921 = .ok (.invokestatic 152, 3) := by decide +kernel
theorem dL_law_924 : decode cL_law 924 = .ok (.istore 5, 2) := by decide +kernel
theorem dL_law_926 : decode cL_law 926 = .ok (.aload_n 2, 1) := by decide +kernel
theorem dL_law_927 : decode cL_law 927 = .ok (.aload_n 0, 1) := by decide +kernel
theorem dL_law_928 : decode cL_law 928 = .ok (.iload 4, 2) := by decide +kernel
theorem dL_law_930 : decode cL_law 930 = .ok (.iconst 1, 1) := by decide +kernel
theorem dL_law_931 : decode cL_law 931 = .ok (.iadd, 1) := by decide +kernel
theorem dL_law_932 : decode cL_law 932 = .ok (.iaload, 1) := by decide +kernel
theorem dL_law_933 : decode cL_law 933 = .ok (.invokevirtual 154, 3) := by decide +kernel
theorem dL_law_936 : decode cL_law 936 = .ok (.istore 6, 2) := by decide +kernel
theorem dL_law_938 : decode cL_law 938 = .ok (.aload_n 2, 1) := by decide +kernel
theorem dL_law_939 : decode cL_law 939 = .ok (.invokevirtual 98, 3) := by decide +kernel
theorem dL_law_942 : decode cL_law 942 = .ok (.iload 5, 2) := by decide +kernel
theorem dL_law_944 : decode cL_law 944 = .ok (.if_icmp .eq 5, 3) := by decide +kernel
theorem dL_law_947 : decode cL_law 947 = .ok (.iconst 0, 1) := by decide +kernel
theorem dL_law_948 : decode cL_law 948 = .ok (.ireturn, 1) := by decide +kernel
theorem dL_law_949 : decode cL_law 949 = .ok (.iload 5, 2) := by decide +kernel
theorem dL_law_951 : decode cL_law 951 = .ok (.ifCond .ne 15, 3) := by decide +kernel
theorem dL_law_954 : decode cL_law 954 = .ok (.aload_n 3, 1) := by decide +kernel
theorem dL_law_955 : decode cL_law 955 = .ok (.iconst 0, 1) := by decide +kernel
theorem dL_law_956 : decode cL_law 956 = .ok (.laload, 1) := by decide +kernel
theorem dL_law_957 : decode cL_law 957 = .ok (.iload 6, 2) := by decide +kernel
theorem dL_law_959 : decode cL_law 959 = .ok (.i2l, 1) := by decide +kernel
theorem dL_law_960 : decode cL_law 960 = .ok (.lcmp, 1) := by decide +kernel
theorem dL_law_961 : decode cL_law 961 = .ok (.ifCond .eq 5, 3) := by decide +kernel
theorem dL_law_964 : decode cL_law 964 = .ok (.iconst 0, 1) := by decide +kernel
theorem dL_law_965 : decode cL_law 965 = .ok (.ireturn, 1) := by decide +kernel
theorem dL_law_966 : decode cL_law 966 = .ok (.goto 1143, 3) := by decide +kernel
theorem dL_law_969 : decode cL_law 969 = .ok (.aload_n 1, 1) := by decide +kernel
theorem dL_law_970 : decode cL_law 970 = .ok (.aload_n 0, 1) := by decide +kernel
theorem dL_law_971 : decode cL_law 971 = .ok (.iload 4, 2) := by decide +kernel
theorem dL_law_973 : decode cL_law 973 = .ok (.iconst 1, 1) := by decide +kernel
theorem dL_law_974 : decode cL_law 974 = .ok (.iadd, 1) := by decide +kernel
theorem dL_law_975 : decode cL_law 975 = .ok (.iaload, 1) := by decide +kernel
theorem dL_law_976 : decode cL_law 976 = .ok (.aload_n 0, 1) := by decide +kernel
theorem dL_law_977 : decode cL_law 977 = .ok (.iload 4, 2) := by decide +kernel
theorem dL_law_979 : decode cL_law 979 = .ok (.iconst 2, 1) := by decide +kernel
theorem dL_law_980 : decode cL_law 980 = .ok (.iadd, 1) := by decide +kernel
theorem dL_law_981 : decode cL_law 981 = .ok (.iaload, 1) := by decide +kernel
theorem dL_law_982 : decode cL_law 982 = .ok (.aload_n 3, 1) := by decide +kernel
theorem dL_law_983 : decode cL_law 983 = .ok (.invokestatic 155, 3) := by decide +kernel
theorem dL_law_986 : decode cL_law 986 = .ok (.istore 5, 2) := by decide +kernel
theorem dL_law_988 : decode cL_law 988 = .ok (.aload_n 2, 1) := by decide +kernel
theorem dL_law_989 : decode cL_law 989 = .ok (.aload_n 0, 1) := by decide +kernel
theorem dL_law_990 : decode cL_law 990 = .ok (.iload 4, 2) := by decide +kernel
theorem dL_law_992 : decode cL_law 992 = .ok (.iconst 1, 1) := by decide +kernel
theorem dL_law_993 : decode cL_law 993 = .ok (.iadd, 1) := by decide +kernel
theorem dL_law_994 : decode cL_law 994 = .ok (.iaload, 1) := by decide +kernel
theorem dL_law_995 : decode cL_law 995 = .ok (.aload_n 0, 1) := by decide +kernel
theorem dL_law_996 : decode cL_law 996 = .ok (.iload 4, 2) := by decide +kernel
theorem dL_law_998 : decode cL_law 998 = .ok (.iconst 2, 1) := by decide +kernel
theorem dL_law_999 : decode cL_law 999 = .ok (.iadd, 1) := by decide +kernel
theorem dL_law_1000 : decode cL_law 1000 = .ok (.iaload, 1) := by decide +kernel
theorem dL_law_1001 : decode cL_law 1001 = .ok (.invokevirtual 157, 3) := by decide +kernel
theorem dL_law_1004 : decode cL_law 1004 = .ok (.istore 6, 2) := by decide +kernel
theorem dL_law_1006 : decode cL_law 1006 = .ok (.aload_n 2, 1) := by decide +kernel
theorem dL_law_1007 : decode cL_law 1007 = .ok (.invokevirtual 98, 3) := by decide +kernel
theorem dL_law_1010 : decode cL_law 1010 = .ok (.iload 5, 2) := by decide +kernel
theorem dL_law_1012 : decode cL_law 1012 = .ok (.if_icmp .eq 5, 3) := by decide +kernel
theorem dL_law_1015 : decode cL_law 1015 = .ok (.iconst 0, 1) := by decide +kernel
theorem dL_law_1016 : decode cL_law 1016 = .ok (.ireturn, 1) := by decide +kernel
theorem dL_law_1017 : decode cL_law 1017 = .ok (.iload 5, 2) := by decide +kernel
theorem dL_law_1019 : decode cL_law 1019 = .ok (.ifCond .ne 15, 3) := by decide +kernel
theorem dL_law_1022 : decode cL_law 1022 = .ok (.aload_n 3, 1) := by decide +kernel
theorem dL_law_1023 : decode cL_law 1023 = .ok (.iconst 0, 1) := by decide +kernel
theorem dL_law_1024 : decode cL_law 1024 = .ok (.laload, 1) := by decide +kernel
theorem dL_law_1025 : decode cL_law 1025 = .ok (.iload 6, 2) := by decide +kernel
theorem dL_law_1027 : decode cL_law 1027 = .ok (.i2l, 1) := by decide +kernel
theorem dL_law_1028 : decode cL_law 1028 = .ok (.lcmp, 1) := by decide +kernel
theorem dL_law_1029 : decode cL_law 1029 = .ok (.ifCond .eq 5, 3) := by decide +kernel
theorem dL_law_1032 : decode cL_law 1032 = .ok (.iconst 0, 1) := by decide +kernel
theorem dL_law_1033 : decode cL_law 1033 = .ok (.ireturn, 1) := by decide +kernel
theorem dL_law_1034 : decode cL_law 1034 = .ok (.goto 1075, 3) := by decide +kernel
theorem dL_law_1037 : decode cL_law 1037 = .ok (.aload_n 1, 1) := by decide +kernel
theorem dL_law_1038 : decode cL_law 1038 = .ok (.aload_n 0, 1) := by decide +kernel
theorem dL_law_1039 : decode cL_law 1039 = .ok (.iload 4, 2) := by decide +kernel
theorem dL_law_1041 : decode cL_law 1041 = .ok (.iconst 1, 1) := by decide +kernel
theorem dL_law_1042 : decode cL_law 1042 = .ok (.iadd, 1) := by decide +kernel
theorem dL_law_1043 : decode cL_law 1043 = .ok (.iaload, 1) := by decide +kernel
theorem dL_law_1044 : decode cL_law 1044 = .ok (.aload_n 0, 1) := by decide +kernel
theorem dL_law_1045 : decode cL_law 1045 = .ok (.iload 4, 2) := by decide +kernel
theorem dL_law_1047 : decode cL_law 1047 = .ok (.iconst 2, 1) := by decide +kernel
theorem dL_law_1048 : decode cL_law 1048 = .ok (.iadd, 1) := by decide +kernel
theorem dL_law_1049 : decode cL_law 1049 = .ok (.iaload, 1) := by decide +kernel
theorem dL_law_1050 : decode cL_law 1050 = .ok (.aload_n 3, 1) := by decide +kernel
theorem dL_law_1051 : decode cL_law 1051 = .ok (.invokestatic 158, 3) := by decide +kernel
theorem dL_law_1054 : decode cL_law 1054 = .ok (.istore 5, 2) := by decide +kernel
theorem dL_law_1056 : decode cL_law 1056 = .ok (.aload_n 2, 1) := by decide +kernel
theorem dL_law_1057 : decode cL_law 1057 = .ok (.aload_n 0, 1) := by decide +kernel
theorem dL_law_1058 : decode cL_law 1058 = .ok (.iload 4, 2) := by decide +kernel
theorem dL_law_1060 : decode cL_law 1060 = .ok (.iconst 1, 1) := by decide +kernel
theorem dL_law_1061 : decode cL_law 1061 = .ok (.iadd, 1) := by decide +kernel
theorem dL_law_1062 : decode cL_law 1062 = .ok (.iaload, 1) := by decide +kernel
theorem dL_law_1063 : decode cL_law 1063 = .ok (.aload_n 0, 1) := by decide +kernel
theorem dL_law_1064 : decode cL_law 1064 = .ok (.iload 4, 2) := by decide +kernel
theorem dL_law_1066 : decode cL_law 1066 = .ok (.iconst 2, 1) := by decide +kernel
theorem dL_law_1067 : decode cL_law 1067 = .ok (.iadd, 1) := by decide +kernel
theorem dL_law_1068 : decode cL_law 1068 = .ok (.iaload, 1) := by decide +kernel
theorem dL_law_1069 : decode cL_law 1069 = .ok (.invokevirtual 160, 3) := by decide +kernel
theorem dL_law_1072 : decode cL_law 1072 = .ok (.istore 6, 2) := by decide +kernel
theorem dL_law_1074 : decode cL_law 1074 = .ok (.aload_n 2, 1) := by decide +kernel
theorem dL_law_1075 : decode cL_law 1075 = .ok (.invokevirtual 98, 3) := by decide +kernel
theorem dL_law_1078 : decode cL_law 1078 = .ok (.iload 5, 2) := by decide +kernel
theorem dL_law_1080 : decode cL_law 1080 = .ok (.if_icmp .eq 5, 3) := by decide +kernel
theorem dL_law_1083 : decode cL_law 1083 = .ok (.iconst 0, 1) := by decide +kernel
theorem dL_law_1084 : decode cL_law 1084 = .ok (.ireturn, 1) := by decide +kernel
theorem dL_law_1085 : decode cL_law 1085 = .ok (.iload 5, 2) := by decide +kernel
theorem dL_law_1087 : decode cL_law 1087 = .ok (.ifCond .ne 15, 3) := by decide +kernel
theorem dL_law_1090 : decode cL_law 1090 = .ok (.aload_n 3, 1) := by decide +kernel
theorem dL_law_1091 : decode cL_law 1091 = .ok (.iconst 0, 1) := by decide +kernel
theorem dL_law_1092 : decode cL_law 1092 = .ok (.laload, 1) := by decide +kernel
theorem dL_law_1093 : decode cL_law 1093 = .ok (.iload 6, 2) := by decide +kernel
theorem dL_law_1095 : decode cL_law 1095 = .ok (.i2l, 1) := by decide +kernel
theorem dL_law_1096 : decode cL_law 1096 = .ok (.lcmp, 1) := by decide +kernel
theorem dL_law_1097 : decode cL_law 1097 = .ok (.ifCond .eq 5, 3) := by decide +kernel
theorem dL_law_1100 : decode cL_law 1100 = .ok (.iconst 0, 1) := by decide +kernel
theorem dL_law_1101 : decode cL_law 1101 = .ok (.ireturn, 1) := by decide +kernel
theorem dL_law_1102 : decode cL_law 1102 = .ok (.goto 1007, 3) := by decide +kernel
theorem dL_law_1105 : decode cL_law 1105 = .ok (.aload_n 1, 1) := by decide +kernel
theorem dL_law_1106 : decode cL_law 1106 = .ok (.aload_n 0, 1) := by decide +kernel
theorem dL_law_1107 : decode cL_law 1107 = .ok (.iload 4, 2) := by decide +kernel
theorem dL_law_1109 : decode cL_law 1109 = .ok (.iconst 1, 1) := by decide +kernel
theorem dL_law_1110 : decode cL_law 1110 = .ok (.iadd, 1) := by decide +kernel
theorem dL_law_1111 : decode cL_law 1111 = .ok (.iaload, 1) := by decide +kernel
theorem dL_law_1112 : decode cL_law 1112 = .ok (.aload_n 0, 1) := by decide +kernel
theorem dL_law_1113 : decode cL_law 1113 = .ok (.iload 4, 2) := by decide +kernel
theorem dL_law_1115 : decode cL_law 1115 = .ok (.iconst 2, 1) := by decide +kernel
theorem dL_law_1116 : decode cL_law 1116 = .ok (.iadd, 1) := by decide +kernel
theorem dL_law_1117 : decode cL_law 1117 = .ok (.iaload, 1) := by decide +kernel
theorem dL_law_1118 : decode cL_law 1118 = .ok (.aload_n 0, 1) := by decide +kernel
theorem dL_law_1119 : decode cL_law 1119 = .ok (.iload 4, 2) := by decide +kernel
theorem dL_law_1121 : decode cL_law 1121 = .ok (.iconst 3, 1) := by decide +kernel
theorem dL_law_1122 : decode cL_law 1122 = .ok (.iadd, 1) := by decide +kernel
theorem dL_law_1123 : decode cL_law 1123 = .ok (.iaload, 1) := by decide +kernel
theorem dL_law_1124 : decode cL_law 1124 = .ok (.aload_n 3, 1) := by decide +kernel
theorem dL_law_1125 : decode cL_law 1125 = .ok (.invokestatic 161, 3) := by decide +kernel
theorem dL_law_1128 : decode cL_law 1128 = .ok (.istore 5, 2) := by decide +kernel
theorem dL_law_1130 : decode cL_law 1130 = .ok (.aload_n 2, 1) := by decide +kernel
theorem dL_law_1131 : decode cL_law 1131 = .ok (.aload_n 0, 1) := by decide +kernel
theorem dL_law_1132 : decode cL_law 1132 = .ok (.iload 4, 2) := by decide +kernel
theorem dL_law_1134 : decode cL_law 1134 = .ok (.iconst 1, 1) := by decide +kernel
theorem dL_law_1135 : decode cL_law 1135 = .ok (.iadd, 1) := by decide +kernel
theorem dL_law_1136 : decode cL_law 1136 = .ok (.iaload, 1) := by decide +kernel
theorem dL_law_1137 : decode cL_law 1137 = .ok (.aload_n 0, 1) := by decide +kernel
theorem dL_law_1138 : decode cL_law 1138 = .ok (.iload 4, 2) := by decide +kernel
theorem dL_law_1140 : decode cL_law 1140 = .ok (.iconst 2, 1) := by decide +kernel
theorem dL_law_1141 : decode cL_law 1141 = .ok (.iadd, 1) := by decide +kernel
theorem dL_law_1142 : decode cL_law 1142 = .ok (.iaload, 1) := by decide +kernel
theorem dL_law_1143 : decode cL_law 1143 = .ok (.aload_n 0, 1) := by decide +kernel
theorem dL_law_1144 : decode cL_law 1144 = .ok (.iload 4, 2) := by decide +kernel
theorem dL_law_1146 : decode cL_law 1146 = .ok (.iconst 3, 1) := by decide +kernel
theorem dL_law_1147 : decode cL_law 1147 = .ok (.iadd, 1) := by decide +kernel
theorem dL_law_1148 : decode cL_law 1148 = .ok (.iaload, 1) := by decide +kernel
theorem dL_law_1149 : decode cL_law 1149 = .ok (.invokevirtual 163, 3) := by decide +kernel
theorem dL_law_1152 : decode cL_law 1152 = .ok (.istore 6, 2) := by decide +kernel
theorem dL_law_1154 : decode cL_law 1154 = .ok (.aload_n 2, 1) := by decide +kernel
theorem dL_law_1155 : decode cL_law 1155 = .ok (.invokevirtual 98, 3) := by decide +kernel
theorem dL_law_1158 : decode cL_law 1158 = .ok (.iload 5, 2) := by decide +kernel
theorem dL_law_1160 : decode cL_law 1160 = .ok (.if_icmp .eq 5, 3) := by decide +kernel
theorem dL_law_1163 : decode cL_law 1163 = .ok (.iconst 0, 1) := by decide +kernel
theorem dL_law_1164 : decode cL_law 1164 = .ok (.ireturn, 1) := by decide +kernel
theorem dL_law_1165 : decode cL_law 1165 = .ok (.iload 5, 2) := by decide +kernel
theorem dL_law_1167 : decode cL_law 1167 = .ok (.ifCond .ne 15, 3) := by decide +kernel
theorem dL_law_1170 : decode cL_law 1170 = .ok (.aload_n 3, 1) := by decide +kernel
theorem dL_law_1171 : decode cL_law 1171 = .ok (.iconst 0, 1) := by decide +kernel
theorem dL_law_1172 : decode cL_law 1172 = .ok (.laload, 1) := by decide +kernel
theorem dL_law_1173 : decode cL_law 1173 = .ok (.iload 6, 2) := by decide +kernel
theorem dL_law_1175 : decode cL_law 1175 = .ok (.i2l, 1) := by decide +kernel
theorem dL_law_1176 : decode cL_law 1176 = .ok (.lcmp, 1) := by decide +kernel
theorem dL_law_1177 : decode cL_law 1177 = .ok (.ifCond .eq 5, 3) := by decide +kernel
theorem dL_law_1180 : decode cL_law 1180 = .ok (.iconst 0, 1) := by decide +kernel
theorem dL_law_1181 : decode cL_law 1181 = .ok (.ireturn, 1) := by decide +kernel
theorem dL_law_1182 : decode cL_law 1182 = .ok (.goto 927, 3) := by decide +kernel
theorem dL_law_1185 : decode cL_law 1185 = .ok (.aload_n 1, 1) := by decide +kernel
theorem dL_law_1186 : decode cL_law 1186 = .ok (.aload_n 0, 1) := by decide +kernel
theorem dL_law_1187 : decode cL_law 1187 = .ok (.iload 4, 2) := by decide +kernel
theorem dL_law_1189 : decode cL_law 1189 = .ok (.iconst 1, 1) := by decide +kernel
theorem dL_law_1190 : decode cL_law 1190 = .ok (.iadd, 1) := by decide +kernel
theorem dL_law_1191 : decode cL_law 1191 = .ok (.iaload, 1) := by decide +kernel
theorem dL_law_1192 : decode cL_law 1192 = .ok (.aload_n 0, 1) := by decide +kernel
theorem dL_law_1193 : decode cL_law 1193 = .ok (.iload 4, 2) := by decide +kernel
theorem dL_law_1195 : decode cL_law 1195 = .ok (.iconst 2, 1) := by decide +kernel
theorem dL_law_1196 : decode cL_law 1196 = .ok (.iadd, 1) := by decide +kernel
theorem dL_law_1197 : decode cL_law 1197 = .ok (.iaload, 1) := by decide +kernel
theorem dL_law_1198 : decode cL_law 1198 = .ok (.aload_n 3, 1) := by decide +kernel
theorem dL_law_1199 : decode cL_law 1199 = .ok (.invokestatic 164, 3) := by decide +kernel
theorem dL_law_1202 : decode cL_law 1202 = .ok (.istore 5, 2) := by decide +kernel
theorem dL_law_1204 : decode cL_law 1204 = .ok (.aload_n 2, 1) := by decide +kernel
theorem dL_law_1205 : decode cL_law 1205 = .ok (.aload_n 0, 1) := by decide +kernel
theorem dL_law_1206 : decode cL_law 1206 = .ok (.iload 4, 2) := by decide +kernel
theorem dL_law_1208 : decode cL_law 1208 = .ok (.iconst 1, 1) := by decide +kernel
theorem dL_law_1209 : decode cL_law 1209 = .ok (.iadd, 1) := by decide +kernel
theorem dL_law_1210 : decode cL_law 1210 = .ok (.iaload, 1) := by decide +kernel
theorem dL_law_1211 : decode cL_law 1211 = .ok (.aload_n 0, 1) := by decide +kernel
theorem dL_law_1212 : decode cL_law 1212 = .ok (.iload 4, 2) := by decide +kernel
theorem dL_law_1214 : decode cL_law 1214 = .ok (.iconst 2, 1) := by decide +kernel
theorem dL_law_1215 : decode cL_law 1215 = .ok (.iadd, 1) := by decide +kernel
theorem dL_law_1216 : decode cL_law 1216 = .ok (.iaload, 1) := by decide +kernel
theorem dL_law_1217 : decode cL_law 1217 = .ok (.invokevirtual 166, 3) := by decide +kernel
theorem dL_law_1220 : decode cL_law 1220 = .ok (.istore 6, 2) := by decide +kernel
theorem dL_law_1222 : decode cL_law 1222 = .ok (.aload_n 2, 1) := by decide +kernel
theorem dL_law_1223 : decode cL_law 1223 = .ok (.invokevirtual 98, 3) := by decide +kernel
theorem dL_law_1226 : decode cL_law 1226 = .ok (.iload 5, 2) := by decide +kernel
theorem dL_law_1228 : decode cL_law 1228 = .ok (.if_icmp .eq 5, 3) := by decide +kernel
theorem dL_law_1231 : decode cL_law 1231 = .ok (.iconst 0, 1) := by decide +kernel
theorem dL_law_1232 : decode cL_law 1232 = .ok (.ireturn, 1) := by decide +kernel
theorem dL_law_1233 : decode cL_law 1233 = .ok (.iload 5, 2) := by decide +kernel
theorem dL_law_1235 : decode cL_law 1235 = .ok (.ifCond .ne 15, 3) := by decide +kernel
theorem dL_law_1238 : decode cL_law 1238 = .ok (.aload_n 3, 1) := by decide +kernel
theorem dL_law_1239 : decode cL_law 1239 = .ok (.iconst 0, 1) := by decide +kernel
theorem dL_law_1240 : decode cL_law 1240 = .ok (.laload, 1) := by decide +kernel
theorem dL_law_1241 : decode cL_law 1241 = .ok (.iload 6, 2) := by decide +kernel
theorem dL_law_1243 : decode cL_law 1243 = .ok (.i2l, 1) := by decide +kernel
theorem dL_law_1244 : decode cL_law 1244 = .ok (.lcmp, 1) := by decide +kernel
theorem dL_law_1245 : decode cL_law 1245 = .ok (.ifCond .eq 5, 3) := by decide +kernel
theorem dL_law_1248 : decode cL_law 1248 = .ok (.iconst 0, 1) := by decide +kernel
theorem dL_law_1249 : decode cL_law 1249 = .ok (.ireturn, 1) := by decide +kernel
theorem dL_law_1250 : decode cL_law 1250 = .ok (.goto 859, 3) := by decide +kernel
theorem dL_law_1253 : decode cL_law 1253 = .ok (.aload_n 1, 1) := by decide +kernel
theorem dL_law_1254 : decode cL_law 1254 = .ok (.aload_n 0, 1) := by decide +kernel
theorem dL_law_1255 : decode cL_law 1255 = .ok (.iload 4, 2) := by decide +kernel
theorem dL_law_1257 : decode cL_law 1257 = .ok (.iconst 1, 1) := by decide +kernel
theorem dL_law_1258 : decode cL_law 1258 = .ok (.iadd, 1) := by decide +kernel
theorem dL_law_1259 : decode cL_law 1259 = .ok (.iaload, 1) := by decide +kernel
theorem dL_law_1260 : decode cL_law 1260 = .ok (.aload_n 3, 1) := by decide +kernel
theorem dL_law_1261 : decode cL_law 1261 = .ok (.invokestatic 167, 3) := by decide +kernel
theorem dL_law_1264 : decode cL_law 1264 = .ok (.istore 5, 2) := by decide +kernel
theorem dL_law_1266 : decode cL_law 1266 = .ok (.aload_n 2, 1) := by decide +kernel
theorem dL_law_1267 : decode cL_law 1267 = .ok (.aload_n 0, 1) := by decide +kernel
theorem dL_law_1268 : decode cL_law 1268 = .ok (.iload 4, 2) := by decide +kernel
theorem dL_law_1270 : decode cL_law 1270 = .ok (.iconst 1, 1) := by decide +kernel
theorem dL_law_1271 : decode cL_law 1271 = .ok (.iadd, 1) := by decide +kernel
theorem dL_law_1272 : decode cL_law 1272 = .ok (.iaload, 1) := by decide +kernel
theorem dL_law_1273 : decode cL_law 1273 = .ok (.invokevirtual 169, 3) := by decide +kernel
theorem dL_law_1276 : decode cL_law 1276 = .ok (.istore 6, 2) := by decide +kernel
theorem dL_law_1278 : decode cL_law 1278 = .ok (.aload_n 2, 1) := by decide +kernel
theorem dL_law_1279 : decode cL_law 1279 = .ok (.invokevirtual 98, 3) := by decide +kernel
theorem dL_law_1282 : decode cL_law 1282 = .ok (.iload 5, 2) := by decide +kernel
theorem dL_law_1284 : decode cL_law 1284 = .ok (.if_icmp .eq 5, 3) := by decide +kernel
theorem dL_law_1287 : decode cL_law 1287 = .ok (.iconst 0, 1) := by decide +kernel
theorem dL_law_1288 : decode cL_law 1288 = .ok (.ireturn, 1) := by decide +kernel
theorem dL_law_1289 : decode cL_law 1289 = .ok (.iload 5, 2) := by decide +kernel
theorem dL_law_1291 : decode cL_law 1291 = .ok (.ifCond .ne 15, 3) := by decide +kernel
theorem dL_law_1294 : decode cL_law 1294 = .ok (.aload_n 3, 1) := by decide +kernel
theorem dL_law_1295 : decode cL_law 1295 = .ok (.iconst 0, 1) := by decide +kernel
theorem dL_law_1296 : decode cL_law 1296 = .ok (.laload, 1) := by decide +kernel
theorem dL_law_1297 : decode cL_law 1297 = .ok (.iload 6, 2) := by decide +kernel
theorem dL_law_1299 : decode cL_law 1299 = .ok (.i2l, 1) := by decide +kernel
theorem dL_law_1300 : decode cL_law 1300 = .ok (.lcmp, 1) := by decide +kernel
theorem dL_law_1301 : decode cL_law 1301 = .ok (.ifCond .eq 5, 3) := by decide +kernel
theorem dL_law_1304 : decode cL_law 1304 = .ok (.iconst 0, 1) := by decide +kernel
theorem dL_law_1305 : decode cL_law 1305 = .ok (.ireturn, 1) := by decide +kernel
theorem dL_law_1306 : decode cL_law 1306 = .ok (.goto 803, 3) := by decide +kernel
theorem dL_law_1309 : decode cL_law 1309 = .ok (.aload_n 1, 1) := by decide +kernel
theorem dL_law_1310 : decode cL_law 1310 = .ok (.aload_n 0, 1) := by decide +kernel
theorem dL_law_1311 : decode cL_law 1311 = .ok (.iload 4, 2) := by decide +kernel
theorem dL_law_1313 : decode cL_law 1313 = .ok (.iconst 1, 1) := by decide +kernel
theorem dL_law_1314 : decode cL_law 1314 = .ok (.iadd, 1) := by decide +kernel
theorem dL_law_1315 : decode cL_law 1315 = .ok (.iaload, 1) := by decide +kernel
theorem dL_law_1316 : decode cL_law 1316 = .ok (.aload_n 0, 1) := by decide +kernel
theorem dL_law_1317 : decode cL_law 1317 = .ok (.iload 4, 2) := by decide +kernel
theorem dL_law_1319 : decode cL_law 1319 = .ok (.iconst 2, 1) := by decide +kernel
theorem dL_law_1320 : decode cL_law 1320 = .ok (.iadd, 1) := by decide +kernel
theorem dL_law_1321 : decode cL_law 1321 = .ok (.iaload, 1) := by decide +kernel
theorem dL_law_1322 : decode cL_law 1322 = .ok (.aload_n 3, 1) := by decide +kernel
theorem dL_law_1323 : decode cL_law 1323 = .ok (.invokestatic 170, 3) := by decide +kernel
theorem dL_law_1326 : decode cL_law 1326 = .ok (.istore 5, 2) := by decide +kernel
theorem dL_law_1328 : decode cL_law 1328 = .ok (.aload_n 2, 1) := by decide +kernel
theorem dL_law_1329 : decode cL_law 1329 = .ok (.aload_n 0, 1) := by decide +kernel
theorem dL_law_1330 : decode cL_law 1330 = .ok (.iload 4, 2) := by decide +kernel
theorem dL_law_1332 : decode cL_law 1332 = .ok (.iconst 1, 1) := by decide +kernel
theorem dL_law_1333 : decode cL_law 1333 = .ok (.iadd, 1) := by decide +kernel
theorem dL_law_1334 : decode cL_law 1334 = .ok (.iaload, 1) := by decide +kernel
theorem dL_law_1335 : decode cL_law 1335 = .ok (.aload_n 0, 1) := by decide +kernel
theorem dL_law_1336 : decode cL_law 1336 = .ok (.iload 4, 2) := by decide +kernel
theorem dL_law_1338 : decode cL_law 1338 = .ok (.iconst 2, 1) := by decide +kernel
theorem dL_law_1339 : decode cL_law 1339 = .ok (.iadd, 1) := by decide +kernel
theorem dL_law_1340 : decode cL_law 1340 = .ok (.iaload, 1) := by decide +kernel
theorem dL_law_1341 : decode cL_law 1341 = .ok (.invokevirtual 172, 3) := by decide +kernel
theorem dL_law_1344 : decode cL_law 1344 = .ok (.istore 6, 2) := by decide +kernel
theorem dL_law_1346 : decode cL_law 1346 = .ok (.aload_n 2, 1) := by decide +kernel
theorem dL_law_1347 : decode cL_law 1347 = .ok (.invokevirtual 98, 3) := by decide +kernel
theorem dL_law_1350 : decode cL_law 1350 = .ok (.iload 5, 2) := by decide +kernel
theorem dL_law_1352 : decode cL_law 1352 = .ok (.if_icmp .eq 5, 3) := by decide +kernel
theorem dL_law_1355 : decode cL_law 1355 = .ok (.iconst 0, 1) := by decide +kernel
theorem dL_law_1356 : decode cL_law 1356 = .ok (.ireturn, 1) := by decide +kernel
theorem dL_law_1357 : decode cL_law 1357 = .ok (.iload 5, 2) := by decide +kernel
theorem dL_law_1359 : decode cL_law 1359 = .ok (.ifCond .ne 15, 3) := by decide +kernel
theorem dL_law_1362 : decode cL_law 1362 = .ok (.aload_n 3, 1) := by decide +kernel
theorem dL_law_1363 : decode cL_law 1363 = .ok (.iconst 0, 1) := by decide +kernel
theorem dL_law_1364 : decode cL_law 1364 = .ok (.laload, 1) := by decide +kernel
theorem dL_law_1365 : decode cL_law 1365 = .ok (.iload 6, 2) := by decide +kernel
theorem dL_law_1367 : decode cL_law 1367 = .ok (.i2l, 1) := by decide +kernel
theorem dL_law_1368 : decode cL_law 1368 = .ok (.lcmp, 1) := by decide +kernel
theorem dL_law_1369 : decode cL_law 1369 = .ok (.ifCond .eq 5, 3) := by decide +kernel
theorem dL_law_1372 : decode cL_law 1372 = .ok (.iconst 0, 1) := by decide +kernel
theorem dL_law_1373 : decode cL_law 1373 = .ok (.ireturn, 1) := by decide +kernel
theorem dL_law_1374 : decode cL_law 1374 = .ok (.goto 735, 3) := by decide +kernel
theorem dL_law_1377 : decode cL_law 1377 = .ok (.aload_n 1, 1) := by decide +kernel
theorem dL_law_1378 : decode cL_law 1378 = .ok (.aload_n 0, 1) := by decide +kernel
theorem dL_law_1379 : decode cL_law 1379 = .ok (.iload 4, 2) := by decide +kernel
theorem dL_law_1381 : decode cL_law 1381 = .ok (.iconst 1, 1) := by decide +kernel
theorem dL_law_1382 : decode cL_law 1382 = .ok (.iadd, 1) := by decide +kernel
theorem dL_law_1383 : decode cL_law 1383 = .ok (.iaload, 1) := by decide +kernel
theorem dL_law_1384 : decode cL_law 1384 = .ok (.aload_n 0, 1) := by decide +kernel
theorem dL_law_1385 : decode cL_law 1385 = .ok (.iload 4, 2) := by decide +kernel
theorem dL_law_1387 : decode cL_law 1387 = .ok (.iconst 2, 1) := by decide +kernel
theorem dL_law_1388 : decode cL_law 1388 = .ok (.iadd, 1) := by decide +kernel
theorem dL_law_1389 : decode cL_law 1389 = .ok (.iaload, 1) := by decide +kernel
theorem dL_law_1390 : decode cL_law 1390 = .ok (.aload_n 0, 1) := by decide +kernel
theorem dL_law_1391 : decode cL_law 1391 = .ok (.iload 4, 2) := by decide +kernel
theorem dL_law_1393 : decode cL_law 1393 = .ok (.iconst 3, 1) := by decide +kernel
theorem dL_law_1394 : decode cL_law 1394 = .ok (.iadd, 1) := by decide +kernel
theorem dL_law_1395 : decode cL_law 1395 = .ok (.iaload, 1) := by decide +kernel
theorem dL_law_1396 : decode cL_law 1396 = .ok (.aload_n 3, 1) := by decide +kernel
theorem dL_law_1397 : decode cL_law 1397 = .ok (.invokestatic 173, 3) := by decide +kernel
theorem dL_law_1400 : decode cL_law 1400 = .ok (.istore 5, 2) := by decide +kernel
theorem dL_law_1402 : decode cL_law 1402 = .ok (.aload_n 2, 1) := by decide +kernel
theorem dL_law_1403 : decode cL_law 1403 = .ok (.aload_n 0, 1) := by decide +kernel
theorem dL_law_1404 : decode cL_law 1404 = .ok (.iload 4, 2) := by decide +kernel
theorem dL_law_1406 : decode cL_law 1406 = .ok (.iconst 1, 1) := by decide +kernel
theorem dL_law_1407 : decode cL_law 1407 = .ok (.iadd, 1) := by decide +kernel
theorem dL_law_1408 : decode cL_law 1408 = .ok (.iaload, 1) := by decide +kernel
theorem dL_law_1409 : decode cL_law 1409 = .ok (.aload_n 0, 1) := by decide +kernel
theorem dL_law_1410 : decode cL_law 1410 = .ok (.iload 4, 2) := by decide +kernel
theorem dL_law_1412 : decode cL_law 1412 = .ok (.iconst 2, 1) := by decide +kernel
theorem dL_law_1413 : decode cL_law 1413 = .ok (.iadd, 1) := by decide +kernel
theorem dL_law_1414 : decode cL_law 1414 = .ok (.iaload, 1) := by decide +kernel
theorem dL_law_1415 : decode cL_law 1415 = .ok (.aload_n 0, 1) := by decide +kernel
theorem dL_law_1416 : decode cL_law 1416 = .ok (.iload 4, 2) := by decide +kernel
theorem dL_law_1418 : decode cL_law 1418 = .ok (.iconst 3, 1) := by decide +kernel
theorem dL_law_1419 : decode cL_law 1419 = .ok (.iadd, 1) := by decide +kernel
theorem dL_law_1420 : decode cL_law 1420 = .ok (.iaload, 1) := by decide +kernel
theorem dL_law_1421 : decode cL_law 1421 = .ok (.invokevirtual 175, 3) := by decide +kernel
theorem dL_law_1424 : decode cL_law 1424 = .ok (.istore 6, 2) := by decide +kernel
theorem dL_law_1426 : decode cL_law 1426 = .ok (.aload_n 2, 1) := by decide +kernel
theorem dL_law_1427 : decode cL_law 1427 = .ok (.invokevirtual 98, 3) := by decide +kernel
theorem dL_law_1430 : decode cL_law 1430 = .ok (.iload 5, 2) := by decide +kernel
theorem dL_law_1432 : decode cL_law 1432 = .ok (.if_icmp .eq 5, 3) := by decide +kernel
theorem dL_law_1435 : decode cL_law 1435 = .ok (.iconst 0, 1) := by decide +kernel
theorem dL_law_1436 : decode cL_law 1436 = .ok (.ireturn, 1) := by decide +kernel
theorem dL_law_1437 : decode cL_law 1437 = .ok (.iload 5, 2) := by decide +kernel
theorem dL_law_1439 : decode cL_law 1439 = .ok (.ifCond .ne 15, 3) := by decide +kernel
theorem dL_law_1442 : decode cL_law 1442 = .ok (.aload_n 3, 1) := by decide +kernel
theorem dL_law_1443 : decode cL_law 1443 = .ok (.iconst 0, 1) := by decide +kernel
theorem dL_law_1444 : decode cL_law 1444 = .ok (.laload, 1) := by decide +kernel
theorem dL_law_1445 : decode cL_law 1445 = .ok (.iload 6, 2) := by decide +kernel
theorem dL_law_1447 : decode cL_law 1447 = .ok (.i2l, 1) := by decide +kernel
theorem dL_law_1448 : decode cL_law 1448 = .ok (.lcmp, 1) := by decide +kernel
theorem dL_law_1449 : decode cL_law 1449 = .ok (.ifCond .eq 5, 3) := by decide +kernel
theorem dL_law_1452 : decode cL_law 1452 = .ok (.iconst 0, 1) := by decide +kernel
theorem dL_law_1453 : decode cL_law 1453 = .ok (.ireturn, 1) := by decide +kernel
theorem dL_law_1454 : decode cL_law 1454 = .ok (.goto 655, 3) := by decide +kernel
theorem dL_law_1457 : decode cL_law 1457 = .ok (.aload_n 1, 1) := by decide +kernel
theorem dL_law_1458 : decode cL_law 1458 = .ok (.aload_n 0, 1) := by decide +kernel
theorem dL_law_1459 : decode cL_law 1459 = .ok (.iload 4, 2) := by decide +kernel
theorem dL_law_1461 : decode cL_law 1461 = .ok (.iconst 1, 1) := by decide +kernel
theorem dL_law_1462 : decode cL_law 1462 = .ok (.iadd, 1) := by decide +kernel
theorem dL_law_1463 : decode cL_law 1463 = .ok (.iaload, 1) := by decide +kernel
theorem dL_law_1464 : decode cL_law 1464 = .ok (.aload_n 0, 1) := by decide +kernel
theorem dL_law_1465 : decode cL_law 1465 = .ok (.iload 4, 2) := by decide +kernel
theorem dL_law_1467 : decode cL_law 1467 = .ok (.iconst 2, 1) := by decide +kernel
theorem dL_law_1468 : decode cL_law 1468 = .ok (.iadd, 1) := by decide +kernel
theorem dL_law_1469 : decode cL_law 1469 = .ok (.iaload, 1) := by decide +kernel
theorem dL_law_1470 : decode cL_law 1470 = .ok (.aload_n 0, 1) := by decide +kernel
theorem dL_law_1471 : decode cL_law 1471 = .ok (.iload 4, 2) := by decide +kernel
theorem dL_law_1473 : decode cL_law 1473 = .ok (.iconst 3, 1) := by decide +kernel
theorem dL_law_1474 : decode cL_law 1474 = .ok (.iadd, 1) := by decide +kernel
theorem dL_law_1475 : decode cL_law 1475 = .ok (.iaload, 1) := by decide +kernel
theorem dL_law_1476 : decode cL_law 1476 = .ok (.aload_n 3, 1) := by decide +kernel
theorem dL_law_1477 : decode cL_law 1477 = .ok (.invokestatic 176, 3) := by decide +kernel
theorem dL_law_1480 : decode cL_law 1480 = .ok (.istore 5, 2) := by decide +kernel
theorem dL_law_1482 : decode cL_law 1482 = .ok (.aload_n 2, 1) := by decide +kernel
theorem dL_law_1483 : decode cL_law 1483 = .ok (.aload_n 0, 1) := by decide +kernel
theorem dL_law_1484 : decode cL_law 1484 = .ok (.iload 4, 2) := by decide +kernel
theorem dL_law_1486 : decode cL_law 1486 = .ok (.iconst 1, 1) := by decide +kernel
theorem dL_law_1487 : decode cL_law 1487 = .ok (.iadd, 1) := by decide +kernel
theorem dL_law_1488 : decode cL_law 1488 = .ok (.iaload, 1) := by decide +kernel
theorem dL_law_1489 : decode cL_law 1489 = .ok (.aload_n 0, 1) := by decide +kernel
theorem dL_law_1490 : decode cL_law 1490 = .ok (.iload 4, 2) := by decide +kernel
theorem dL_law_1492 : decode cL_law 1492 = .ok (.iconst 2, 1) := by decide +kernel
theorem dL_law_1493 : decode cL_law 1493 = .ok (.iadd, 1) := by decide +kernel
theorem dL_law_1494 : decode cL_law 1494 = .ok (.iaload, 1) := by decide +kernel
theorem dL_law_1495 : decode cL_law 1495 = .ok (.aload_n 0, 1) := by decide +kernel
theorem dL_law_1496 : decode cL_law 1496 = .ok (.iload 4, 2) := by decide +kernel
theorem dL_law_1498 : decode cL_law 1498 = .ok (.iconst 3, 1) := by decide +kernel
theorem dL_law_1499 : decode cL_law 1499 = .ok (.iadd, 1) := by decide +kernel
theorem dL_law_1500 : decode cL_law 1500 = .ok (.iaload, 1) := by decide +kernel
theorem dL_law_1501 : decode cL_law 1501 = .ok (.invokevirtual 178, 3) := by decide +kernel
theorem dL_law_1504 : decode cL_law 1504 = .ok (.istore 6, 2) := by decide +kernel
theorem dL_law_1506 : decode cL_law 1506 = .ok (.aload_n 2, 1) := by decide +kernel
theorem dL_law_1507 : decode cL_law 1507 = .ok (.invokevirtual 98, 3) := by decide +kernel
theorem dL_law_1510 : decode cL_law 1510 = .ok (.iload 5, 2) := by decide +kernel
theorem dL_law_1512 : decode cL_law 1512 = .ok (.if_icmp .eq 5, 3) := by decide +kernel
theorem dL_law_1515 : decode cL_law 1515 = .ok (.iconst 0, 1) := by decide +kernel
theorem dL_law_1516 : decode cL_law 1516 = .ok (.ireturn, 1) := by decide +kernel
theorem dL_law_1517 : decode cL_law 1517 = .ok (.iload 5, 2) := by decide +kernel
theorem dL_law_1519 : decode cL_law 1519 = .ok (.ifCond .ne 15, 3) := by decide +kernel
theorem dL_law_1522 : decode cL_law 1522 = .ok (.aload_n 3, 1) := by decide +kernel
theorem dL_law_1523 : decode cL_law 1523 = .ok (.iconst 0, 1) := by decide +kernel
theorem dL_law_1524 : decode cL_law 1524 = .ok (.laload, 1) := by decide +kernel
theorem dL_law_1525 : decode cL_law 1525 = .ok (.iload 6, 2) := by decide +kernel
theorem dL_law_1527 : decode cL_law 1527 = .ok (.i2l, 1) := by decide +kernel
theorem dL_law_1528 : decode cL_law 1528 = .ok (.lcmp, 1) := by decide +kernel
theorem dL_law_1529 : decode cL_law 1529 = .ok (.ifCond .eq 5, 3) := by decide +kernel
theorem dL_law_1532 : decode cL_law 1532 = .ok (.iconst 0, 1) := by decide +kernel
theorem dL_law_1533 : decode cL_law 1533 = .ok (.ireturn, 1) := by decide +kernel
theorem dL_law_1534 : decode cL_law 1534 = .ok (.goto 575, 3) := by decide +kernel
theorem dL_law_1537 : decode cL_law 1537 = .ok (.aload_n 1, 1) := by decide +kernel
theorem dL_law_1538 : decode cL_law 1538 = .ok (.aload_n 0, 1) := by decide +kernel
theorem dL_law_1539 : decode cL_law 1539 = .ok (.iload 4, 2) := by decide +kernel
theorem dL_law_1541 : decode cL_law 1541 = .ok (.iconst 1, 1) := by decide +kernel
theorem dL_law_1542 : decode cL_law 1542 = .ok (.iadd, 1) := by decide +kernel
theorem dL_law_1543 : decode cL_law 1543 = .ok (.iaload, 1) := by decide +kernel
theorem dL_law_1544 : decode cL_law 1544 = .ok (.aload_n 0, 1) := by decide +kernel
theorem dL_law_1545 : decode cL_law 1545 = .ok (.iload 4, 2) := by decide +kernel
theorem dL_law_1547 : decode cL_law 1547 = .ok (.iconst 2, 1) := by decide +kernel
theorem dL_law_1548 : decode cL_law 1548 = .ok (.iadd, 1) := by decide +kernel
theorem dL_law_1549 : decode cL_law 1549 = .ok (.iaload, 1) := by decide +kernel
theorem dL_law_1550 : decode cL_law 1550 = .ok (.aload_n 3, 1) := by decide +kernel
theorem dL_law_1551 : decode cL_law 1551 = .ok (.invokestatic 179, 3) := by decide +kernel
theorem dL_law_1554 : decode cL_law 1554 = .ok (.istore 5, 2) := by decide +kernel
theorem dL_law_1556 : decode cL_law 1556 = .ok (.aload_n 2, 1) := by decide +kernel
theorem dL_law_1557 : decode cL_law 1557 = .ok (.aload_n 0, 1) := by decide +kernel
theorem dL_law_1558 : decode cL_law 1558 = .ok (.iload 4, 2) := by decide +kernel
theorem dL_law_1560 : decode cL_law 1560 = .ok (.iconst 1, 1) := by decide +kernel
theorem dL_law_1561 : decode cL_law 1561 = .ok (.iadd, 1) := by decide +kernel
theorem dL_law_1562 : decode cL_law 1562 = .ok (.iaload, 1) := by decide +kernel
theorem dL_law_1563 : decode cL_law 1563 = .ok (.aload_n 0, 1) := by decide +kernel
theorem dL_law_1564 : decode cL_law 1564 = .ok (.iload 4, 2) := by decide +kernel
theorem dL_law_1566 : decode cL_law 1566 = .ok (.iconst 2, 1) := by decide +kernel
theorem dL_law_1567 : decode cL_law 1567 = .ok (.iadd, 1) := by decide +kernel
theorem dL_law_1568 : decode cL_law 1568 = .ok (.iaload, 1) := by decide +kernel
theorem dL_law_1569 : decode cL_law 1569 = .ok (.invokevirtual 181, 3) := by decide +kernel
theorem dL_law_1572 : decode cL_law 1572 = .ok (.istore 6, 2) := by decide +kernel
theorem dL_law_1574 : decode cL_law 1574 = .ok (.aload_n 2, 1) := by decide +kernel
theorem dL_law_1575 : decode cL_law 1575 = .ok (.invokevirtual 98, 3) := by decide +kernel
theorem dL_law_1578 : decode cL_law 1578 = .ok (.iload 5, 2) := by decide +kernel
theorem dL_law_1580 : decode cL_law 1580 = .ok (.if_icmp .eq 5, 3) := by decide +kernel
theorem dL_law_1583 : decode cL_law 1583 = .ok (.iconst 0, 1) := by decide +kernel
theorem dL_law_1584 : decode cL_law 1584 = .ok (.ireturn, 1) := by decide +kernel
theorem dL_law_1585 : decode cL_law 1585 = .ok (.iload 5, 2) := by decide +kernel
theorem dL_law_1587 : decode cL_law 1587 = .ok (.ifCond .ne 15, 3) := by decide +kernel
theorem dL_law_1590 : decode cL_law 1590 = .ok (.aload_n 3, 1) := by decide +kernel
theorem dL_law_1591 : decode cL_law 1591 = .ok (.iconst 0, 1) := by decide +kernel
theorem dL_law_1592 : decode cL_law 1592 = .ok (.laload, 1) := by decide +kernel
theorem dL_law_1593 : decode cL_law 1593 = .ok (.iload 6, 2) := by decide +kernel
theorem dL_law_1595 : decode cL_law 1595 = .ok (.i2l, 1) := by decide +kernel
theorem dL_law_1596 : decode cL_law 1596 = .ok (.lcmp, 1) := by decide +kernel
theorem dL_law_1597 : decode cL_law 1597 = .ok (.ifCond .eq 5, 3) := by decide +kernel
theorem dL_law_1600 : decode cL_law 1600 = .ok (.iconst 0, 1) := by decide +kernel
theorem dL_law_1601 : decode cL_law 1601 = .ok (.ireturn, 1) := by decide +kernel
theorem dL_law_1602 : decode cL_law 1602 = .ok (.goto 507, 3) := by decide +kernel
theorem dL_law_1605 : decode cL_law 1605 = .ok (.aload_n 1, 1) := by decide +kernel
theorem dL_law_1606 : decode cL_law 1606 = .ok (.aload_n 0, 1) := by decide +kernel
theorem dL_law_1607 : decode cL_law 1607 = .ok (.iload 4, 2) := by decide +kernel
theorem dL_law_1609 : decode cL_law 1609 = .ok (.iconst 1, 1) := by decide +kernel
theorem dL_law_1610 : decode cL_law 1610 = .ok (.iadd, 1) := by decide +kernel
theorem dL_law_1611 : decode cL_law 1611 = .ok (.iaload, 1) := by decide +kernel
theorem dL_law_1612 : decode cL_law 1612 = .ok (.aload_n 0, 1) := by decide +kernel
theorem dL_law_1613 : decode cL_law 1613 = .ok (.iload 4, 2) := by decide +kernel
theorem dL_law_1615 : decode cL_law 1615 = .ok (.iconst 2, 1) := by decide +kernel
theorem dL_law_1616 : decode cL_law 1616 = .ok (.iadd, 1) := by decide +kernel
theorem dL_law_1617 : decode cL_law 1617 = .ok (.iaload, 1) := by decide +kernel
theorem dL_law_1618 : decode cL_law 1618 = .ok (.aload_n 3, 1) := by decide +kernel
theorem dL_law_1619 : decode cL_law 1619 = .ok (.invokestatic 182, 3) := by decide +kernel
theorem dL_law_1622 : decode cL_law 1622 = .ok (.istore 5, 2) := by decide +kernel
theorem dL_law_1624 : decode cL_law 1624 = .ok (.aload_n 2, 1) := by decide +kernel
theorem dL_law_1625 : decode cL_law 1625 = .ok (.aload_n 0, 1) := by decide +kernel
theorem dL_law_1626 : decode cL_law 1626 = .ok (.iload 4, 2) := by decide +kernel
theorem dL_law_1628 : decode cL_law 1628 = .ok (.iconst 1, 1) := by decide +kernel
theorem dL_law_1629 : decode cL_law 1629 = .ok (.iadd, 1) := by decide +kernel
theorem dL_law_1630 : decode cL_law 1630 = .ok (.iaload, 1) := by decide +kernel
theorem dL_law_1631 : decode cL_law 1631 = .ok (.aload_n 0, 1) := by decide +kernel
theorem dL_law_1632 : decode cL_law 1632 = .ok (.iload 4, 2) := by decide +kernel
theorem dL_law_1634 : decode cL_law 1634 = .ok (.iconst 2, 1) := by decide +kernel
theorem dL_law_1635 : decode cL_law 1635 = .ok (.iadd, 1) := by decide +kernel
theorem dL_law_1636 : decode cL_law 1636 = .ok (.iaload, 1) := by decide +kernel
theorem dL_law_1637 : decode cL_law 1637 = .ok (.invokevirtual 184, 3) := by decide +kernel
theorem dL_law_1640 : decode cL_law 1640 = .ok (.istore 6, 2) := by decide +kernel
theorem dL_law_1642 : decode cL_law 1642 = .ok (.aload_n 2, 1) := by decide +kernel
theorem dL_law_1643 : decode cL_law 1643 = .ok (.invokevirtual 98, 3) := by decide +kernel
theorem dL_law_1646 : decode cL_law 1646 = .ok (.iload 5, 2) := by decide +kernel
theorem dL_law_1648 : decode cL_law 1648 = .ok (.if_icmp .eq 5, 3) := by decide +kernel
theorem dL_law_1651 : decode cL_law 1651 = .ok (.iconst 0, 1) := by decide +kernel
theorem dL_law_1652 : decode cL_law 1652 = .ok (.ireturn, 1) := by decide +kernel
theorem dL_law_1653 : decode cL_law 1653 = .ok (.iload 5, 2) := by decide +kernel
theorem dL_law_1655 : decode cL_law 1655 = .ok (.ifCond .ne 15, 3) := by decide +kernel
theorem dL_law_1658 : decode cL_law 1658 = .ok (.aload_n 3, 1) := by decide +kernel
theorem dL_law_1659 : decode cL_law 1659 = .ok (.iconst 0, 1) := by decide +kernel
theorem dL_law_1660 : decode cL_law 1660 = .ok (.laload, 1) := by decide +kernel
theorem dL_law_1661 : decode cL_law 1661 = .ok (.iload 6, 2) := by decide +kernel
theorem dL_law_1663 : decode cL_law 1663 = .ok (.i2l, 1) := by decide +kernel
theorem dL_law_1664 : decode cL_law 1664 = .ok (.lcmp, 1) := by decide +kernel
theorem dL_law_1665 : decode cL_law 1665 = .ok (.ifCond .eq 5, 3) := by decide +kernel
theorem dL_law_1668 : decode cL_law 1668 = .ok (.iconst 0, 1) := by decide +kernel
theorem dL_law_1669 : decode cL_law 1669 = .ok (.ireturn, 1) := by decide +kernel
theorem dL_law_1670 : decode cL_law 1670 = .ok (.goto 439, 3) := by decide +kernel
theorem dL_law_1673 : decode cL_law 1673 = .ok (.aload_n 1, 1) := by decide +kernel
theorem dL_law_1674 : decode cL_law 1674 = .ok (.aload_n 0, 1) := by decide +kernel
theorem dL_law_1675 : decode cL_law 1675 = .ok (.iload 4, 2) := by decide +kernel
theorem dL_law_1677 : decode cL_law 1677 = .ok (.iconst 1, 1) := by decide +kernel
theorem dL_law_1678 : decode cL_law 1678 = .ok (.iadd, 1) := by decide +kernel
theorem dL_law_1679 : decode cL_law 1679 = .ok (.iaload, 1) := by decide +kernel
theorem dL_law_1680 : decode cL_law 1680 = .ok (.aload_n 0, 1) := by decide +kernel
theorem dL_law_1681 : decode cL_law 1681 = .ok (.iload 4, 2) := by decide +kernel
theorem dL_law_1683 : decode cL_law 1683 = .ok (.iconst 2, 1) := by decide +kernel
theorem dL_law_1684 : decode cL_law 1684 = .ok (.iadd, 1) := by decide +kernel
theorem dL_law_1685 : decode cL_law 1685 = .ok (.iaload, 1) := by decide +kernel
theorem dL_law_1686 : decode cL_law 1686 = .ok (.aload_n 0, 1) := by decide +kernel
theorem dL_law_1687 : decode cL_law 1687 = .ok (.iload 4, 2) := by decide +kernel
theorem dL_law_1689 : decode cL_law 1689 = .ok (.iconst 3, 1) := by decide +kernel
theorem dL_law_1690 : decode cL_law 1690 = .ok (.iadd, 1) := by decide +kernel
theorem dL_law_1691 : decode cL_law 1691 = .ok (.iaload, 1) := by decide +kernel
theorem dL_law_1692 : decode cL_law 1692 = .ok (.invokevirtual 185, 3) := by decide +kernel
theorem dL_law_1695 : decode cL_law 1695 = .ok (.aload_n 2, 1) := by decide +kernel
theorem dL_law_1696 : decode cL_law 1696 = .ok (.aload_n 0, 1) := by decide +kernel
theorem dL_law_1697 : decode cL_law 1697 = .ok (.iload 4, 2) := by decide +kernel
theorem dL_law_1699 : decode cL_law 1699 = .ok (.iconst 1, 1) := by decide +kernel
theorem dL_law_1700 : decode cL_law 1700 = .ok (.iadd, 1) := by decide +kernel
theorem dL_law_1701 : decode cL_law 1701 = .ok (.iaload, 1) := by decide +kernel
theorem dL_law_1702 : decode cL_law 1702 = .ok (.aload_n 0, 1) := by decide +kernel
theorem dL_law_1703 : decode cL_law 1703 = .ok (.iload 4, 2) := by decide +kernel
theorem dL_law_1705 : decode cL_law 1705 = .ok (.iconst 2, 1) := by decide +kernel
theorem dL_law_1706 : decode cL_law 1706 = .ok (.iadd, 1) := by decide +kernel
theorem dL_law_1707 : decode cL_law 1707 = .ok (.iaload, 1) := by decide +kernel
theorem dL_law_1708 : decode cL_law 1708 = .ok (.aload_n 0, 1) := by decide +kernel
theorem dL_law_1709 : decode cL_law 1709 = .ok (.iload 4, 2) := by decide +kernel
theorem dL_law_1711 : decode cL_law 1711 = .ok (.iconst 3, 1) := by decide +kernel
theorem dL_law_1712 : decode cL_law 1712 = .ok (.iadd, 1) := by decide +kernel
theorem dL_law_1713 : decode cL_law 1713 = .ok (.iaload, 1) := by decide +kernel
theorem dL_law_1714 : decode cL_law 1714 = .ok (.invokevirtual 188, 3) := by decide +kernel
theorem dL_law_1717 : decode cL_law 1717 = .ok (.if_icmp .eq 392, 3) := by decide +kernel
theorem dL_law_1720 : decode cL_law 1720 = .ok (.iconst 0, 1) := by decide +kernel
theorem dL_law_1721 : decode cL_law 1721 = .ok (.ireturn, 1) := by decide +kernel
theorem dL_law_1722 : decode cL_law 1722 = .ok (.aload_n 1, 1) := by decide +kernel
theorem dL_law_1723 : decode cL_law 1723 = .ok (.aload_n 0, 1) := by decide +kernel
theorem dL_law_1724 : decode cL_law 1724 = .ok (.iload 4, 2) := by decide +kernel
theorem dL_law_1726 : decode cL_law 1726 = .ok (.iconst 1, 1) := by decide +kernel
theorem dL_law_1727 : decode cL_law 1727 = .ok (.iadd, 1) := by decide +kernel
theorem dL_law_1728 : decode cL_law 1728 = .ok (.iaload, 1) := by decide +kernel
theorem dL_law_1729 : decode cL_law 1729 = .ok (.aload_n 3, 1) := by decide +kernel
theorem dL_law_1730 : decode cL_law 1730 = .ok (.invokestatic 189, 3) := by decide +kernel
theorem dL_law_1733 : decode cL_law 1733 = .ok (.istore 5, 2) := by decide +kernel
theorem dL_law_1735 : decode cL_law 1735 = .ok (.aload_n 2, 1) := by decide +kernel
theorem dL_law_1736 : decode cL_law 1736 = .ok (.aload_n 0, 1) := by decide +kernel
theorem dL_law_1737 : decode cL_law 1737 = .ok (.iload 4, 2) := by decide +kernel
theorem dL_law_1739 : decode cL_law 1739 = .ok (.iconst 1, 1) := by decide +kernel
theorem dL_law_1740 : decode cL_law 1740 = .ok (.iadd, 1) := by decide +kernel
theorem dL_law_1741 : decode cL_law 1741 = .ok (.iaload, 1) := by decide +kernel
theorem dL_law_1742 : decode cL_law 1742 = .ok (.invokevirtual 191, 3) := by decide +kernel
theorem dL_law_1745 : decode cL_law 1745 = .ok (.istore 6, 2) := by decide +kernel
theorem dL_law_1747 : decode cL_law 1747 = .ok (.aload_n 2, 1) := by decide +kernel
theorem dL_law_1748 : decode cL_law 1748 = .ok (.invokevirtual 98, 3) := by decide +kernel
theorem dL_law_1751 : decode cL_law 1751 = .ok (.iload 5, 2) := by decide +kernel
theorem dL_law_1753 : decode cL_law 1753 = .ok (.if_icmp .eq 5, 3) := by decide +kernel
theorem dL_law_1756 : decode cL_law 1756 = .ok (.iconst 0, 1) := by decide +kernel
theorem dL_law_1757 : decode cL_law 1757 = .ok (.ireturn, 1) := by decide +kernel
theorem dL_law_1758 : decode cL_law 1758 = .ok (.iload 5, 2) := by decide +kernel
theorem dL_law_1760 : decode cL_law 1760 = .ok (.ifCond .ne 15, 3) := by decide +kernel
theorem dL_law_1763 : decode cL_law 1763 = .ok (.aload_n 3, 1) := by decide +kernel
theorem dL_law_1764 : decode cL_law 1764 = .ok (.iconst 0, 1) := by decide +kernel
theorem dL_law_1765 : decode cL_law 1765 = .ok (.laload, 1) := by decide +kernel
theorem dL_law_1766 : decode cL_law 1766 = .ok (.iload 6, 2) := by decide +kernel
theorem dL_law_1768 : decode cL_law 1768 = .ok (.i2l, 1) := by decide +kernel
theorem dL_law_1769 : decode cL_law 1769 = .ok (.lcmp, 1) := by decide +kernel
theorem dL_law_1770 : decode cL_law 1770 = .ok (.ifCond .eq 5, 3) := by decide +kernel
theorem dL_law_1773 : decode cL_law 1773 = .ok (.iconst 0, 1) := by decide +kernel
theorem dL_law_1774 : decode cL_law 1774 = .ok (.ireturn, 1) := by decide +kernel
theorem dL_law_1775 : decode cL_law 1775 = .ok (.goto 334, 3) := by decide +kernel
theorem dL_law_1778 : decode cL_law 1778 = .ok (.aload_n 1, 1) := by decide +kernel
theorem dL_law_1779 : decode cL_law 1779 = .ok (.aload_n 0, 1) := by decide +kernel
theorem dL_law_1780 : decode cL_law 1780 = .ok (.iload 4, 2) := by decide +kernel
theorem dL_law_1782 : decode cL_law 1782 = .ok (.iconst 1, 1) := by decide +kernel
theorem dL_law_1783 : decode cL_law 1783 = .ok (.iadd, 1) := by decide +kernel
theorem dL_law_1784 : decode cL_law 1784 = .ok (.iaload, 1) := by decide +kernel
theorem dL_law_1785 : decode cL_law 1785 = .ok (.aload_n 3, 1) := by decide +kernel
theorem dL_law_1786 : decode cL_law 1786 = .ok (.invokestatic 192, 3) := by decide +kernel
theorem dL_law_1789 : decode cL_law 1789 = .ok (.istore 5, 2) := by decide +kernel
theorem dL_law_1791 : decode cL_law 1791 = .ok (.aload_n 2, 1) := by decide +kernel
theorem dL_law_1792 : decode cL_law 1792 = .ok (.aload_n 0, 1) := by decide +kernel
theorem dL_law_1793 : decode cL_law 1793 = .ok (.iload 4, 2) := by decide +kernel
theorem dL_law_1795 : decode cL_law 1795 = .ok (.iconst 1, 1) := by decide +kernel
theorem dL_law_1796 : decode cL_law 1796 = .ok (.iadd, 1) := by decide +kernel
theorem dL_law_1797 : decode cL_law 1797 = .ok (.iaload, 1) := by decide +kernel
theorem dL_law_1798 : decode cL_law 1798 = .ok (.invokevirtual 194, 3) := by decide +kernel
theorem dL_law_1801 : decode cL_law 1801 = .ok (.istore 6, 2) := by decide +kernel
theorem dL_law_1803 : decode cL_law 1803 = .ok (.aload_n 2, 1) := by decide +kernel
theorem dL_law_1804 : decode cL_law 1804 = .ok (.invokevirtual 98, 3) := by decide +kernel
theorem dL_law_1807 : decode cL_law 1807 = .ok (.iload 5, 2) := by decide +kernel
theorem dL_law_1809 : decode cL_law 1809 = .ok (.if_icmp .eq 5, 3) := by decide +kernel
theorem dL_law_1812 : decode cL_law 1812 = .ok (.iconst 0, 1) := by decide +kernel
theorem dL_law_1813 : decode cL_law 1813 = .ok (.ireturn, 1) := by decide +kernel
theorem dL_law_1814 : decode cL_law 1814 = .ok (.iload 5, 2) := by decide +kernel
theorem dL_law_1816 : decode cL_law 1816 = .ok (.ifCond .ne 15, 3) := by decide +kernel
theorem dL_law_1819 : decode cL_law 1819 = .ok (.aload_n 3, 1) := by decide +kernel
theorem dL_law_1820 : decode cL_law 1820 = .ok (.iconst 0, 1) := by decide +kernel
theorem dL_law_1821 : decode cL_law 1821 = .ok (.laload, 1) := by decide +kernel
theorem dL_law_1822 : decode cL_law 1822 = .ok (.iload 6, 2) := by decide +kernel
theorem dL_law_1824 : decode cL_law 1824 = .ok (.i2l, 1) := by decide +kernel
theorem dL_law_1825 : decode cL_law 1825 = .ok (.lcmp, 1) := by decide +kernel
theorem dL_law_1826 : decode cL_law 1826 = .ok (.ifCond .eq 5, 3) := by decide +kernel
theorem dL_law_1829 : decode cL_law 1829 = .ok (.iconst 0, 1) := by decide +kernel
theorem dL_law_1830 : decode cL_law 1830 = .ok (.ireturn, 1) := by decide +kernel
theorem dL_law_1831 : decode cL_law 1831 = .ok (.goto 278, 3) := by decide +kernel
theorem dL_law_1834 : decode cL_law 1834 = .ok (.aload_n 1, 1) := by decide +kernel
theorem dL_law_1835 : decode cL_law 1835 = .ok (.invokevirtual 195, 3) := by decide +kernel
theorem dL_law_1838 : decode cL_law 1838 = .ok (.aload_n 2, 1) := by decide +kernel
theorem dL_law_1839 : decode cL_law 1839 = .ok (.invokevirtual 198, 3) := by decide +kernel
theorem dL_law_1842 : decode cL_law 1842 = .ok (.goto 267, 3) := by decide +kernel
theorem dL_law_1845 : decode cL_law 1845 = .ok (.aload_n 1, 1) := by decide +kernel
theorem dL_law_1846 : decode cL_law 1846 = .ok (.aload_n 0, 1) := by decide +kernel
theorem dL_law_1847 : decode cL_law 1847 = .ok (.iload 4, 2) := by decide +kernel
theorem dL_law_1849 : decode cL_law 1849 = .ok (.iconst 1, 1) := by decide +kernel
theorem dL_law_1850 : decode cL_law 1850 = .ok (.iadd, 1) := by decide +kernel
theorem dL_law_1851 : decode cL_law 1851 = .ok (.iaload, 1) := by decide +kernel
theorem dL_law_1852 : decode cL_law 1852 = .ok (.aload_n 0, 1) := by decide +kernel
theorem dL_law_1853 : decode cL_law 1853 = .ok (.iload 4, 2) := by decide +kernel
theorem dL_law_1855 : decode cL_law 1855 = .ok (.iconst 2, 1) := by decide +kernel
theorem dL_law_1856 : decode cL_law 1856 = .ok (.iadd, 1) := by decide +kernel
theorem dL_law_1857 : decode cL_law 1857 = .ok (.iaload, 1) := by decide +kernel
theorem dL_law_1858 : decode cL_law 1858 = .ok (.aload_n 0, 1) := by decide +kernel
theorem dL_law_1859 : decode cL_law 1859 = .ok (.iload 4, 2) := by decide +kernel
theorem dL_law_1861 : decode cL_law 1861 = .ok (.iconst 3, 1) := by decide +kernel
theorem dL_law_1862 : decode cL_law 1862 = .ok (.iadd, 1) := by decide +kernel
theorem dL_law_1863 : decode cL_law 1863 = .ok (.iaload, 1) := by decide +kernel
theorem dL_law_1864 : decode cL_law 1864 = .ok (.aload_n 0, 1) := by decide +kernel
theorem dL_law_1865 : decode cL_law 1865 = .ok (.iload 4, 2) := by decide +kernel
theorem dL_law_1867 : decode cL_law 1867 = .ok (.iconst 4, 1) := by decide +kernel
theorem dL_law_1868 : decode cL_law 1868 = .ok (.iadd, 1) := by decide +kernel
theorem dL_law_1869 : decode cL_law 1869 = .ok (.iaload, 1) := by decide +kernel
theorem dL_law_1870 : decode cL_law 1870 = .ok (.aload_n 3, 1) := by decide +kernel
theorem dL_law_1871 : decode cL_law 1871 = .ok (.invokestatic 199, 3) := by decide +kernel
theorem dL_law_1874 : decode cL_law 1874 = .ok (.istore 5, 2) := by decide +kernel
theorem dL_law_1876 : decode cL_law 1876 = .ok (.aload_n 2, 1) := by decide +kernel
theorem dL_law_1877 : decode cL_law 1877 = .ok (.aload_n 0, 1) := by decide +kernel
theorem dL_law_1878 : decode cL_law 1878 = .ok (.iload 4, 2) := by decide +kernel
theorem dL_law_1880 : decode cL_law 1880 = .ok (.iconst 1, 1) := by decide +kernel
theorem dL_law_1881 : decode cL_law 1881 = .ok (.iadd, 1) := by decide +kernel
theorem dL_law_1882 : decode cL_law 1882 = .ok (.iaload, 1) := by decide +kernel
theorem dL_law_1883 : decode cL_law 1883 = .ok (.aload_n 0, 1) := by decide +kernel
theorem dL_law_1884 : decode cL_law 1884 = .ok (.iload 4, 2) := by decide +kernel
theorem dL_law_1886 : decode cL_law 1886 = .ok (.iconst 2, 1) := by decide +kernel
theorem dL_law_1887 : decode cL_law 1887 = .ok (.iadd, 1) := by decide +kernel
theorem dL_law_1888 : decode cL_law 1888 = .ok (.iaload, 1) := by decide +kernel
theorem dL_law_1889 : decode cL_law 1889 = .ok (.aload_n 0, 1) := by decide +kernel
theorem dL_law_1890 : decode cL_law 1890 = .ok (.iload 4, 2) := by decide +kernel
theorem dL_law_1892 : decode cL_law 1892 = .ok (.iconst 3, 1) := by decide +kernel
theorem dL_law_1893 : decode cL_law 1893 = .ok (.iadd, 1) := by decide +kernel
theorem dL_law_1894 : decode cL_law 1894 = .ok (.iaload, 1) := by decide +kernel
theorem dL_law_1895 : decode cL_law 1895 = .ok (.aload_n 0, 1) := by decide +kernel
theorem dL_law_1896 : decode cL_law 1896 = .ok (.iload 4, 2) := by decide +kernel
theorem dL_law_1898 : decode cL_law 1898 = .ok (.iconst 4, 1) := by decide +kernel
theorem dL_law_1899 : decode cL_law 1899 = .ok (.iadd, 1) := by decide +kernel
theorem dL_law_1900 : decode cL_law 1900 = .ok (.iaload, 1) := by decide +kernel
theorem dL_law_1901 : decode cL_law 1901 = .ok (.invokevirtual 202, 3) := by decide +kernel
theorem dL_law_1904 : decode cL_law 1904 = .ok (.istore 6, 2) := by decide +kernel
theorem dL_law_1906 : decode cL_law 1906 = .ok (.aload_n 2, 1) := by decide +kernel
theorem dL_law_1907 : decode cL_law 1907 = .ok (.invokevirtual 98, 3) := by decide +kernel
theorem dL_law_1910 : decode cL_law 1910 = .ok (.iload 5, 2) := by decide +kernel
theorem dL_law_1912 : decode cL_law 1912 = .ok (.if_icmp .eq 5, 3) := by decide +kernel
theorem dL_law_1915 : decode cL_law 1915 = .ok (.iconst 0, 1) := by decide +kernel
theorem dL_law_1916 : decode cL_law 1916 = .ok (.ireturn, 1) := by decide +kernel
theorem dL_law_1917 : decode cL_law 1917 = .ok (.iload 5, 2) := by decide +kernel
theorem dL_law_1919 : decode cL_law 1919 = .ok (.ifCond .ne 15, 3) := by decide +kernel
theorem dL_law_1922 : decode cL_law 1922 = .ok (.aload_n 3, 1) := by decide +kernel
theorem dL_law_1923 : decode cL_law 1923 = .ok (.iconst 0, 1) := by decide +kernel
theorem dL_law_1924 : decode cL_law 1924 = .ok (.laload, 1) := by decide +kernel
theorem dL_law_1925 : decode cL_law 1925 = .ok (.iload 6, 2) := by decide +kernel
theorem dL_law_1927 : decode cL_law 1927 = .ok (.i2l, 1) := by decide +kernel
theorem dL_law_1928 : decode cL_law 1928 = .ok (.lcmp, 1) := by decide +kernel
theorem dL_law_1929 : decode cL_law 1929 = .ok (.ifCond .eq 5, 3) := by decide +kernel
theorem dL_law_1932 : decode cL_law 1932 = .ok (.iconst 0, 1) := by decide +kernel
theorem dL_law_1933 : decode cL_law 1933 = .ok (.ireturn, 1) := by decide +kernel
theorem dL_law_1934 : decode cL_law 1934 = .ok (.goto 175, 3) := by decide +kernel
theorem dL_law_1937 : decode cL_law 1937 = .ok (.aload_n 1, 1) := by decide +kernel
theorem dL_law_1938 : decode cL_law 1938 = .ok (.aload_n 0, 1) := by decide +kernel
theorem dL_law_1939 : decode cL_law 1939 = .ok (.iload 4, 2) := by decide +kernel
theorem dL_law_1941 : decode cL_law 1941 = .ok (.iconst 1, 1) := by decide +kernel
theorem dL_law_1942 : decode cL_law 1942 = .ok (.iadd, 1) := by decide +kernel
theorem dL_law_1943 : decode cL_law 1943 = .ok (.iaload, 1) := by decide +kernel
theorem dL_law_1944 : decode cL_law 1944 = .ok (.aload_n 0, 1) := by decide +kernel
theorem dL_law_1945 : decode cL_law 1945 = .ok (.iload 4, 2) := by decide +kernel
theorem dL_law_1947 : decode cL_law 1947 = .ok (.iconst 2, 1) := by decide +kernel
theorem dL_law_1948 : decode cL_law 1948 = .ok (.iadd, 1) := by decide +kernel
theorem dL_law_1949 : decode cL_law 1949 = .ok (.iaload, 1) := by decide +kernel
theorem dL_law_1950 : decode cL_law 1950 = .ok (.aload_n 0, 1) := by decide +kernel
theorem dL_law_1951 : decode cL_law 1951 = .ok (.iload 4, 2) := by decide +kernel
theorem dL_law_1953 : decode cL_law 1953 = .ok (.iconst 3, 1) := by decide +kernel
theorem dL_law_1954 : decode cL_law 1954 = .ok (.iadd, 1) := by decide +kernel
theorem dL_law_1955 : decode cL_law 1955 = .ok (.iaload, 1) := by decide +kernel
theorem dL_law_1956 : decode cL_law 1956 = .ok (.aload_n 3, 1) := by decide +kernel
theorem dL_law_1957 : decode cL_law 1957 = .ok (.invokestatic 203, 3) := by decide +kernel
theorem dL_law_1960 : decode cL_law 1960 = .ok (.istore 5, 2) := by decide +kernel
theorem dL_law_1962 : decode cL_law 1962 = .ok (.aload_n 2, 1) := by decide +kernel
theorem dL_law_1963 : decode cL_law 1963 = .ok (.aload_n 0, 1) := by decide +kernel
theorem dL_law_1964 : decode cL_law 1964 = .ok (.iload 4, 2) := by decide +kernel
theorem dL_law_1966 : decode cL_law 1966 = .ok (.iconst 1, 1) := by decide +kernel
theorem dL_law_1967 : decode cL_law 1967 = .ok (.iadd, 1) := by decide +kernel
theorem dL_law_1968 : decode cL_law 1968 = .ok (.iaload, 1) := by decide +kernel
theorem dL_law_1969 : decode cL_law 1969 = .ok (.aload_n 0, 1) := by decide +kernel
theorem dL_law_1970 : decode cL_law 1970 = .ok (.iload 4, 2) := by decide +kernel
theorem dL_law_1972 : decode cL_law 1972 = .ok (.iconst 2, 1) := by decide +kernel
theorem dL_law_1973 : decode cL_law 1973 = .ok (.iadd, 1) := by decide +kernel
theorem dL_law_1974 : decode cL_law 1974 = .ok (.iaload, 1) := by decide +kernel
theorem dL_law_1975 : decode cL_law 1975 = .ok (.aload_n 0, 1) := by decide +kernel
theorem dL_law_1976 : decode cL_law 1976 = .ok (.iload 4, 2) := by decide +kernel
theorem dL_law_1978 : decode cL_law 1978 = .ok (.iconst 3, 1) := by decide +kernel
theorem dL_law_1979 : decode cL_law 1979 = .ok (.iadd, 1) := by decide +kernel
theorem dL_law_1980 : decode cL_law 1980 = .ok (.iaload, 1) := by decide +kernel
theorem dL_law_1981 : decode cL_law 1981 = .ok (.invokevirtual 205, 3) := by decide +kernel
theorem dL_law_1984 : decode cL_law 1984 = .ok (.istore 6, 2) := by decide +kernel
theorem dL_law_1986 : decode cL_law 1986 = .ok (.aload_n 2, 1) := by decide +kernel
theorem dL_law_1987 : decode cL_law 1987 = .ok (.invokevirtual 98, 3) := by decide +kernel
theorem dL_law_1990 : decode cL_law 1990 = .ok (.iload 5, 2) := by decide +kernel
theorem dL_law_1992 : decode cL_law 1992 = .ok (.if_icmp .eq 5, 3) := by decide +kernel
theorem dL_law_1995 : decode cL_law 1995 = .ok (.iconst 0, 1) := by decide +kernel
theorem dL_law_1996 : decode cL_law 1996 = .ok (.ireturn, 1) := by decide +kernel
theorem dL_law_1997 : decode cL_law 1997 = .ok (.iload 5, 2) := by decide +kernel
theorem dL_law_1999 : decode cL_law 1999 = .ok (.ifCond .ne 15, 3) := by decide +kernel
theorem dL_law_2002 : decode cL_law 2002 = .ok (.aload_n 3, 1) := by decide +kernel
theorem dL_law_2003 : decode cL_law 2003 = .ok (.iconst 0, 1) := by decide +kernel
theorem dL_law_2004 : decode cL_law 2004 = .ok (.laload, 1) := by decide +kernel
theorem dL_law_2005 : decode cL_law 2005 = .ok (.iload 6, 2) := by decide +kernel
theorem dL_law_2007 : decode cL_law 2007 = .ok (.i2l, 1) := by decide +kernel
theorem dL_law_2008 : decode cL_law 2008 = .ok (.lcmp, 1) := by decide +kernel
theorem dL_law_2009 : decode cL_law 2009 = .ok (.ifCond .eq 5, 3) := by decide +kernel
theorem dL_law_2012 : decode cL_law 2012 = .ok (.iconst 0, 1) := by decide +kernel
theorem dL_law_2013 : decode cL_law 2013 = .ok (.ireturn, 1) := by decide +kernel
theorem dL_law_2014 : decode cL_law 2014 = .ok (.goto 95, 3) := by decide +kernel
theorem dL_law_2017 : decode cL_law 2017 = .ok (.aload_n 1, 1) := by decide +kernel
theorem dL_law_2018 : decode cL_law 2018 = .ok (.aload_n 0, 1) := by decide +kernel
theorem dL_law_2019 : decode cL_law 2019 = .ok (.iload 4, 2) := by decide +kernel
theorem dL_law_2021 : decode cL_law 2021 = .ok (.iconst 1, 1) := by decide +kernel
theorem dL_law_2022 : decode cL_law 2022 = .ok (.iadd, 1) := by decide +kernel
theorem dL_law_2023 : decode cL_law 2023 = .ok (.iaload, 1) := by decide +kernel
theorem dL_law_2024 : decode cL_law 2024 = .ok (.aload_n 0, 1) := by decide +kernel
theorem dL_law_2025 : decode cL_law 2025 = .ok (.iload 4, 2) := by decide +kernel
theorem dL_law_2027 : decode cL_law 2027 = .ok (.iconst 2, 1) := by decide +kernel
theorem dL_law_2028 : decode cL_law 2028 = .ok (.iadd, 1) := by decide +kernel
theorem dL_law_2029 : decode cL_law 2029 = .ok (.iaload, 1) := by decide +kernel
theorem dL_law_2030 : decode cL_law 2030 = .ok (.aload_n 3, 1) := by decide +kernel
theorem dL_law_2031 : decode cL_law 2031 = .ok (.invokestatic 206, 3) := by decide +kernel
theorem dL_law_2034 : decode cL_law 2034 = .ok (.istore 5, 2) := by decide +kernel
theorem dL_law_2036 : decode cL_law 2036 = .ok (.aload_n 2, 1) := by decide +kernel
theorem dL_law_2037 : decode cL_law 2037 = .ok (.aload_n 0, 1) := by decide +kernel
theorem dL_law_2038 : decode cL_law 2038 = .ok (.iload 4, 2) := by decide +kernel
theorem dL_law_2040 : decode cL_law 2040 = .ok (.iconst 1, 1) := by decide +kernel
theorem dL_law_2041 : decode cL_law 2041 = .ok (.iadd, 1) := by decide +kernel
theorem dL_law_2042 : decode cL_law 2042 = .ok (.iaload, 1) := by decide +kernel
theorem dL_law_2043 : decode cL_law 2043 = .ok (.aload_n 0, 1) := by decide +kernel
theorem dL_law_2044 : decode cL_law 2044 = .ok (.iload 4, 2) := by decide +kernel
theorem dL_law_2046 : decode cL_law 2046 = .ok (.iconst 2, 1) := by decide +kernel
theorem dL_law_2047 : decode cL_law 2047 = .ok (.iadd, 1) := by decide +kernel
theorem dL_law_2048 : decode cL_law 2048 = .ok (.iaload, 1) := by decide +kernel
theorem dL_law_2049 : decode cL_law 2049 = .ok (.invokevirtual 208, 3) := by decide +kernel
theorem dL_law_2052 : decode cL_law 2052 = .ok (.istore 6, 2) := by decide +kernel
theorem dL_law_2054 : decode cL_law 2054 = .ok (.aload_n 2, 1) := by decide +kernel
theorem dL_law_2055 : decode cL_law 2055 = .ok (.invokevirtual 98, 3) := by decide +kernel
theorem dL_law_2058 : decode cL_law 2058 = .ok (.iload 5, 2) := by decide +kernel
theorem dL_law_2060 : decode cL_law 2060 = .ok (.if_icmp .eq 5, 3) := by decide +kernel
theorem dL_law_2063 : decode cL_law 2063 = .ok (.iconst 0, 1) := by decide +kernel
theorem dL_law_2064 : decode cL_law 2064 = .ok (.ireturn, 1) := by decide +kernel
theorem dL_law_2065 : decode cL_law 2065 = .ok (.iload 5, 2) := by decide +kernel
theorem dL_law_2067 : decode cL_law 2067 = .ok (.ifCond .ne 15, 3) := by decide +kernel
theorem dL_law_2070 : decode cL_law 2070 = .ok (.aload_n 3, 1) := by decide +kernel
theorem dL_law_2071 : decode cL_law 2071 = .ok (.iconst 0, 1) := by decide +kernel
theorem dL_law_2072 : decode cL_law 2072 = .ok (.laload, 1) := by decide +kernel
theorem dL_law_2073 : decode cL_law 2073 = .ok (.iload 6, 2) := by decide +kernel
theorem dL_law_2075 : decode cL_law 2075 = .ok (.i2l, 1) := by decide +kernel
theorem dL_law_2076 : decode cL_law 2076 = .ok (.lcmp, 1) := by decide +kernel
theorem dL_law_2077 : decode cL_law 2077 = .ok (.ifCond .eq 5, 3) := by decide +kernel
theorem dL_law_2080 : decode cL_law 2080 = .ok (.iconst 0, 1) := by decide +kernel
theorem dL_law_2081 : decode cL_law 2081 = .ok (.ireturn, 1) := by decide +kernel
theorem dL_law_2082 : decode cL_law 2082 = .ok (.goto 27, 3) := by decide +kernel
theorem dL_law_2085 : decode cL_law 2085 = .ok (.aload_n 1, 1) := by decide +kernel
theorem dL_law_2086 : decode cL_law 2086 = .ok (.invokevirtual 209, 3) := by decide +kernel
theorem dL_law_2089 : decode cL_law 2089 = .ok (.aload_n 2, 1) := by decide +kernel
theorem dL_law_2090 : decode cL_law 2090 = .ok (.invokevirtual 212, 3) := by decide +kernel
theorem dL_law_2093 : decode cL_law 2093 = .ok (.goto 16, 3) := by decide +kernel
theorem dL_law_2096 : decode cL_law 2096 = .ok (.aload_n 1, 1) := by decide +kernel
theorem dL_law_2097 : decode cL_law 2097 = .ok (.invokevirtual 213, 3) := by decide +kernel
theorem dL_law_2100 : decode cL_law 2100 = .ok (.aload_n 2, 1) := by decide +kernel
theorem dL_law_2101 : decode cL_law 2101 = .ok (.invokevirtual 217, 3) := by decide +kernel
theorem dL_law_2104 : decode cL_law 2104 = .ok (.if_icmp .eq 5, 3) := by decide +kernel
theorem dL_law_2107 : decode cL_law 2107 = .ok (.iconst 0, 1) := by decide +kernel
theorem dL_law_2108 : decode cL_law 2108 = .ok (.ireturn, 1) := by decide +kernel
theorem dL_law_2109 : decode cL_law 2109 = .ok (.iinc 4 6, 3) := by decide +kernel
theorem dL_law_2112 : decode cL_law 2112 = .ok (.goto (-2089), 3) := by decide +kernel
theorem dL_law_2115 : decode cL_law 2115 = .ok (.iconst 1, 1) := by decide +kernel
theorem dL_law_2116 : decode cL_law 2116 = .ok (.ireturn, 1) := by decide +kernel
