theorem dX6_pickByShare_0 : decode cX6_pickByShare 0 = .ok (.aload_n 0, 1) := by decide +kernel
theorem dX6_pickByShare_1 : decode cX6_pickByShare 1 = .ok (.invokevirtual 133, 3) := by decide +kernel
theorem dX6_pickByShare_4 : decode cX6_pickByShare 4 = .ok (.bipush 12, 2) := by decide +kernel
theorem dX6_pickByShare_6 : decode cX6_pickByShare 6 = .ok (.istore_n 1, 1) := by decide +kernel
theorem dX6_pickByShare_7 : decode cX6_pickByShare 7 = .ok (.iconst 0, 1) := by decide +kernel
theorem dX6_pickByShare_8 : decode cX6_pickByShare 8 = .ok (.istore_n 2, 1) := by decide +kernel
theorem dX6_pickByShare_9 : decode cX6_pickByShare 9 = .ok (.iload_n 2, 1) := by decide +kernel
theorem dX6_pickByShare_10 : decode cX6_pickByShare 10 = .ok (.bipush 12, 2) := by decide +kernel
theorem dX6_pickByShare_12 : decode cX6_pickByShare 12 = .ok (.if_icmp .gt 120, 3) := by decide +kernel
theorem dX6_pickByShare_15 : decode cX6_pickByShare 15 = .ok (.aload_n 0, 1) := by decide +kernel
theorem dX6_pickByShare_16 : decode cX6_pickByShare 16 = .ok (.getfield 68, 3) := by decide +kernel
theorem dX6_pickByShare_19 : decode cX6_pickByShare 19 = .ok (.getfield 117, 3) := by decide +kernel
theorem dX6_pickByShare_22 : decode cX6_pickByShare 22 = .ok (.iload_n 1, 1) := by decide +kernel
theorem dX6_pickByShare_23 : decode cX6_pickByShare 23 = .ok (.iaload, 1) := by decide +kernel
theorem dX6_pickByShare_24 : decode cX6_pickByShare 24 = .ok (.ifCond .le 108, 3) := by decide +kernel
theorem dX6_pickByShare_27 : decode cX6_pickByShare 27 = .ok (.iconst (-1), 1) := by decide +kernel
theorem dX6_pickByShare_28 : decode cX6_pickByShare 28 = .ok (.istore_n 3, 1) := by decide +kernel
theorem dX6_pickByShare_29 : decode cX6_pickByShare 29 = .ok (.iconst 0, 1) := by decide +kernel
theorem dX6_pickByShare_30 : decode cX6_pickByShare 30 = .ok (.istore 4, 2) := by decide +kernel
theorem dX6_pickByShare_32 : decode cX6_pickByShare 32 = .ok (.iload 4, 2) := by decide +kernel
theorem dX6_pickByShare_34 : decode cX6_pickByShare 34 = .ok (.aload_n 0, 1) := by decide +kernel
theorem dX6_pickByShare_35 : decode cX6_pickByShare 35 = .ok (.getfield 68, 3) := by decide +kernel
theorem dX6_pickByShare_38 : decode cX6_pickByShare 38 = .ok (.getfield 117, 3) := by decide +kernel
theorem dX6_pickByShare_41 : decode cX6_pickByShare 41 = .ok (.iload_n 1, 1) := by decide +kernel
theorem dX6_pickByShare_42 : decode cX6_pickByShare 42 = .ok (.iaload, 1) := by decide +kernel
theorem dX6_pickByShare_43 : decode cX6_pickByShare 43 = .ok (.if_icmp .ge 74, 3) := by decide +kernel
theorem dX6_pickByShare_46 : decode cX6_pickByShare 46 = .ok (.aload_n 0, 1) := by decide +kernel
theorem dX6_pickByShare_47 : decode cX6_pickByShare 47 = .ok (.getfield 68, 3) := by decide +kernel
theorem dX6_pickByShare_50 : decode cX6_pickByShare 50 = .ok (.getfield 120, 3) := by decide +kernel
theorem dX6_pickByShare_53 : decode cX6_pickByShare 53 = .ok (.iload_n 1, 1) := by decide +kernel
theorem dX6_pickByShare_54 : decode cX6_pickByShare 54 = .ok (.bipush 12, 2) := by decide +kernel
theorem dX6_pickByShare_56 : decode cX6_pickByShare 56 = .ok (.imul, 1) := by decide +kernel
theorem dX6_pickByShare_57 : decode cX6_pickByShare 57 = .ok (.iload 4, 2) := by decide +kernel
theorem dX6_pickByShare_59 : decode cX6_pickByShare 59 = .ok (.iadd, 1) := by decide +kernel
theorem dX6_pickByShare_60 : decode cX6_pickByShare 60 = .ok (.iaload, 1) := by decide +kernel
theorem dX6_pickByShare_61 : decode cX6_pickByShare 61 = .ok (.istore 5, 2) := by decide +kernel
theorem dX6_pickByShare_63 : decode cX6_pickByShare 63 = .ok (.aload_n 0, 1) := by decide +kernel
theorem dX6_pickByShare_64 : decode cX6_pickByShare 64 = .ok (.getfield 46, 3) := by decide +kernel
theorem dX6_pickByShare_67 : decode cX6_pickByShare 67 = .ok (.iload 5, 2) := by decide +kernel
theorem dX6_pickByShare_69 : decode cX6_pickByShare 69 = .ok (.iaload, 1) := by decide +kernel
theorem dX6_pickByShare_70 : decode cX6_pickByShare 70 = .ok (.ifCond .le 41, 3) := by decide +kernel
theorem dX6_pickByShare_73 : decode cX6_pickByShare 73 = .ok (.aload_n 0, 1) := by decide +kernel
theorem dX6_pickByShare_74 : decode cX6_pickByShare 74 = .ok (.getfield 65, 3) := by decide +kernel
theorem dX6_pickByShare_77 : decode cX6_pickByShare 77 = .ok (.iload 5, 2) := by decide +kernel
theorem dX6_pickByShare_79 : decode cX6_pickByShare 79 = .ok (.iaload, 1) := by decide +kernel
theorem dX6_pickByShare_80 : decode cX6_pickByShare 80 = .ok (.aload_n 0, 1) := by decide +kernel
theorem dX6_pickByShare_81 : decode cX6_pickByShare 81 = .ok (.getfield 9, 3) := by decide +kernel
theorem dX6_pickByShare_84 : decode cX6_pickByShare 84 = .ok (.if_icmp .gt 27, 3) := by decide +kernel
theorem dX6_pickByShare_87 : decode cX6_pickByShare 87 = .ok (.iload_n 3, 1) := by decide +kernel
theorem dX6_pickByShare_88 : decode cX6_pickByShare 88 = .ok (.iconst (-1), 1) := by decide +kernel
theorem dX6_pickByShare_89 : decode cX6_pickByShare 89 = .ok (.if_icmp .eq 19, 3) := by decide +kernel
theorem dX6_pickByShare_92 : decode cX6_pickByShare 92 = .ok (.aload_n 0, 1) := by decide +kernel
theorem dX6_pickByShare_93 : decode cX6_pickByShare 93 = .ok (.getfield 37, 3) := by decide +kernel
theorem dX6_pickByShare_96 : decode cX6_pickByShare 96 = .ok (.iload 5, 2) := by decide +kernel
theorem dX6_pickByShare_98 : decode cX6_pickByShare 98 = .ok (.iaload, 1) := by decide +kernel
theorem dX6_pickByShare_99 : decode cX6_pickByShare 99 = .ok (.aload_n 0, 1) := by decide +kernel
theorem dX6_pickByShare_100 : decode cX6_pickByShare 100 = .ok (.getfield 37, 3) := by decide +kernel
theorem dX6_pickByShare_103 : decode cX6_pickByShare 103 = .ok (.iload_n 3, 1) := by decide +kernel
theorem dX6_pickByShare_104 : decode cX6_pickByShare 104 = .ok (.iaload, 1) := by decide +kernel
theorem dX6_pickByShare_105 : decode cX6_pickByShare 105 = .ok (.if_icmp .ge 6, 3) := by decide +kernel
theorem dX6_pickByShare_108 : decode cX6_pickByShare 108 = .ok (.iload 5, 2) := by decide +kernel
theorem dX6_pickByShare_110 : decode cX6_pickByShare 110 = .ok (.istore_n 3, 1) := by decide +kernel
theorem dX6_pickByShare_111 : decode cX6_pickByShare 111 = .ok (.iinc 4 1, 3) := by decide +kernel
theorem dX6_pickByShare_114 : decode cX6_pickByShare 114 = .ok (.goto (-82), 3) := by decide +kernel
theorem dX6_pickByShare_117 : decode cX6_pickByShare 117 = .ok (.iload_n 3, 1) := by decide +kernel
theorem dX6_pickByShare_118 : decode cX6_pickByShare 118 = .ok (.iconst (-1), 1) := by decide +kernel
theorem dX6_pickByShare_119 : decode cX6_pickByShare 119 = .ok (.if_icmp .ne 5, 3) := by decide +kernel
theorem dX6_pickByShare_122 : decode cX6_pickByShare 122 = .ok (.iconst (-1), 1) := by decide +kernel
theorem dX6_pickByShare_123 : decode cX6_pickByShare 123 = .ok (.ireturn, 1) := by decide +kernel
theorem dX6_pickByShare_124 : decode cX6_pickByShare 124 = .ok (.iload_n 3, 1) := by decide +kernel
theorem dX6_pickByShare_125 : decode cX6_pickByShare 125 = .ok (.istore_n 1, 1) := by decide +kernel
theorem dX6_pickByShare_126 : decode cX6_pickByShare 126 = .ok (.iinc 2 1, 3) := by decide +kernel
theorem dX6_pickByShare_129 : decode cX6_pickByShare 129 = .ok (.goto (-120), 3) := by decide +kernel
theorem dX6_pickByShare_132 : decode cX6_pickByShare 132 = .ok (.iload_n 1, 1) := by decide +kernel
theorem dX6_pickByShare_133 : decode cX6_pickByShare 133 = .ok (.bipush 12, 2) := by decide +kernel
theorem dX6_pickByShare_135 : decode cX6_pickByShare 135 = .ok (.if_icmp .ne 7, 3) := by decide +kernel
theorem dX6_pickByShare_138 : decode cX6_pickByShare 138 = .ok (.iconst (-1), 1) := by decide +kernel
theorem dX6_pickByShare_139 : decode cX6_pickByShare 139 = .ok (.goto 4, 3) := by decide +kernel
theorem dX6_pickByShare_142 : decode cX6_pickByShare 142 = .ok (.iload_n 1, 1) := by decide +kernel
theorem dX6_pickByShare_143 : decode cX6_pickByShare 143 = .ok (.ireturn, 1) := by decide +kernel
theorem dX6_send_0 : decode cX6_send 0 = .ok (.iload_n 1, 1) := by decide +kernel
theorem dX6_send_1 : decode cX6_send 1 = .ok (.iconst (-1), 1) := by decide +kernel
theorem dX6_send_2 : decode cX6_send 2 = .ok (.if_icmp .ne 4, 3) := by decide +kernel
theorem dX6_send_5 : decode cX6_send 5 = .ok (.return_, 1) := by decide +kernel
theorem dX6_send_6 : decode cX6_send 6 = .ok (.aload_n 0, 1) := by decide +kernel
theorem dX6_send_7 : decode cX6_send 7 = .ok (.iload_n 1, 1) := by decide +kernel
theorem dX6_send_8 : decode cX6_send 8 = .ok (.iconst 0, 1) := by decide +kernel
theorem dX6_send_9 : decode cX6_send 9 = .ok (.invokevirtual 113, 3) := by decide +kernel
theorem dX6_send_12 : decode cX6_send 12 = .ok (.istore_n 3, 1) := by decide +kernel
theorem dX6_send_13 : decode cX6_send 13 = .ok (.aload_n 0, 1) := by decide +kernel
theorem dX6_send_14 : decode cX6_send 14 = .ok (.getfield 34, 3) := by decide +kernel
theorem dX6_send_17 : decode cX6_send 17 = .ok (.iload_n 1, 1) := by decide +kernel
theorem dX6_send_18 : decode cX6_send 18 = .ok (.dup2, 1) := by decide +kernel
theorem dX6_send_19 : decode cX6_send 19 = .ok (.iaload, 1) := by decide +kernel
theorem dX6_send_20 : decode cX6_send 20 = .ok (.iload_n 2, 1) := by decide +kernel
theorem dX6_send_21 : decode cX6_send 21 = .ok (.ifCond .eq 7, 3) := by decide +kernel
theorem dX6_send_24 : decode cX6_send 24 = .ok (.iload_n 3, 1) := by decide +kernel
theorem dX6_send_25 : decode cX6_send 25 = .ok (.goto 4, 3) := by decide +kernel
theorem dX6_send_28 : decode cX6_send 28 = .ok (.iconst 0, 1) := by decide +kernel
theorem dX6_send_29 : decode cX6_send 29 = .ok (.iadd, 1) := by decide +kernel
theorem dX6_send_30 : decode cX6_send 30 = .ok (.iastore, 1) := by decide +kernel
theorem dX6_send_31 : decode cX6_send 31 = .ok (.aload_n 0, 1) := by decide +kernel
theorem dX6_send_32 : decode cX6_send 32 = .ok (.dup, 1) := by decide +kernel
theorem dX6_send_33 : decode cX6_send 33 = .ok (.getfield 21, 3) := by decide +kernel
theorem dX6_send_36 : decode cX6_send 36 = .ok (.iload_n 2, 1) := by decide +kernel
theorem dX6_send_37 : decode cX6_send 37 = .ok (.ifCond .eq 7, 3) := by decide +kernel
theorem dX6_send_40 : decode cX6_send 40 = .ok (.iconst 1, 1) := by decide +kernel
theorem dX6_send_41 : decode cX6_send 41 = .ok (.goto 4, 3) := by decide +kernel
theorem dX6_send_44 : decode cX6_send 44 = .ok (.iconst 0, 1) := by decide +kernel
theorem dX6_send_45 : decode cX6_send 45 = .ok (.iadd, 1) := by decide +kernel
theorem dX6_send_46 : decode cX6_send 46 = .ok (.putfield 21, 3) := by decide +kernel
theorem dX6_send_49 : decode cX6_send 49 = .ok (.aload_n 0, 1) := by decide +kernel
theorem dX6_send_50 : decode cX6_send 50 = .ok (.getfield 52, 3) := by decide +kernel
theorem dX6_send_53 : decode cX6_send 53 = .ok (.iload_n 1, 1) := by decide +kernel
theorem dX6_send_54 : decode cX6_send 54 = .ok (.aload_n 0, 1) := by decide +kernel
theorem dX6_send_55 : decode cX6_send 55 = .ok (.getfield 52, 3) := by decide +kernel
theorem dX6_send_58 : decode cX6_send 58 = .ok (.iload_n 1, 1) := by decide +kernel
theorem dX6_send_59 : decode cX6_send 59 = .ok (.iaload, 1) := by decide +kernel
theorem dX6_send_60 : decode cX6_send 60 = .ok (.iconst 1, 1) := by decide +kernel
theorem dX6_send_61 : decode cX6_send 61 = .ok (.iadd, 1) := by decide +kernel
theorem dX6_send_62 : decode cX6_send 62 = .ok (.bipush 20, 2) := by decide +kernel
theorem dX6_send_64 : decode cX6_send 64 = .ok (.irem, 1) := by decide +kernel
theorem dX6_send_65 : decode cX6_send 65 = .ok (.iastore, 1) := by decide +kernel
theorem dX6_send_66 : decode cX6_send 66 = .ok (.iload_n 1, 1) := by decide +kernel
theorem dX6_send_67 : decode cX6_send 67 = .ok (.istore 4, 2) := by decide +kernel
theorem dX6_send_69 : decode cX6_send 69 = .ok (.iconst 0, 1) := by decide +kernel
theorem dX6_send_70 : decode cX6_send 70 = .ok (.istore 5, 2) := by decide +kernel
theorem dX6_send_72 : decode cX6_send 72 = .ok (.iload 5, 2) := by decide +kernel
theorem dX6_send_74 : decode cX6_send 74 = .ok (.bipush 12, 2) := by decide +kernel
theorem dX6_send_76 : decode cX6_send 76 = .ok (.if_icmp .ge 136, 3) := by decide +kernel
theorem dX6_send_79 : decode cX6_send 79 = .ok (.iload 4, 2) := by decide +kernel
theorem dX6_send_81 : decode cX6_send 81 = .ok (.bipush 12, 2) := by decide +kernel
theorem dX6_send_83 : decode cX6_send 83 = .ok (.if_icmp .eq 129, 3) := by decide +kernel
theorem dX6_send_86 : decode cX6_send 86 = .ok (.aload_n 0, 1) := by decide +kernel
theorem dX6_send_87 : decode cX6_send 87 = .ok (.getfield 68, 3) := by decide +kernel
theorem dX6_send_90 : decode cX6_send 90 = .ok (.getfield 137, 3) := by decide +kernel
theorem dX6_send_93 : decode cX6_send 93 = .ok (.iload 4, 2) := by decide +kernel
theorem dX6_send_95 : decode cX6_send 95 = .ok (.iaload, 1) := by decide +kernel
theorem dX6_send_96 : decode cX6_send 96 = .ok (.istore 6, 2) := by decide +kernel
theorem dX6_send_98 : decode cX6_send 98 = .ok (.iload 4, 2) := by decide +kernel
theorem dX6_send_100 : decode cX6_send 100 = .ok (.iconst 3, 1) := by decide +kernel
theorem dX6_send_101 : decode cX6_send 101 = .ok (.imul, 1) := by decide +kernel
theorem dX6_send_102 : decode cX6_send 102 = .ok (.iconst 1, 1) := by decide +kernel
theorem dX6_send_103 : decode cX6_send 103 = .ok (.iadd, 1) := by decide +kernel
theorem dX6_send_104 : decode cX6_send 104 = .ok (.istore 7, 2) := by decide +kernel
theorem dX6_send_106 : decode cX6_send 106 = .ok (.aload_n 0, 1) := by decide +kernel
theorem dX6_send_107 : decode cX6_send 107 = .ok (.getfield 46, 3) := by decide +kernel
theorem dX6_send_110 : decode cX6_send 110 = .ok (.iload 4, 2) := by decide +kernel
theorem dX6_send_112 : decode cX6_send 112 = .ok (.dup2, 1) := by decide +kernel
theorem dX6_send_113 : decode cX6_send 113 = .ok (.iaload, 1) := by decide +kernel
theorem dX6_send_114 : decode cX6_send 114 = .ok (.iconst 1, 1) := by decide +kernel
theorem dX6_send_115 : decode cX6_send 115 = .ok (.isub, 1) := by decide +kernel
theorem dX6_send_116 : decode cX6_send 116 = .ok (.iastore, 1) := by decide +kernel
theorem dX6_send_117 : decode cX6_send 117 = .ok (.aload_n 0, 1) := by decide +kernel
theorem dX6_send_118 : decode cX6_send 118 = .ok (.getfield 30, 3) := by decide +kernel
theorem dX6_send_121 : decode cX6_send 121 = .ok (.iload 4, 2) := by decide +kernel
theorem dX6_send_123 : decode cX6_send 123 = .ok (.dup2, 1) := by decide +kernel
theorem dX6_send_124 : decode cX6_send 124 = .ok (.iaload, 1) := by decide +kernel
theorem dX6_send_125 : decode cX6_send 125 = .ok (.iload_n 3, 1) := by decide +kernel
theorem dX6_send_126 : decode cX6_send 126 = .ok (.iadd, 1) := by decide +kernel
theorem dX6_send_127 : decode cX6_send 127 = .ok (.iastore, 1) := by decide +kernel
theorem dX6_send_128 : decode cX6_send 128 = .ok (.aload_n 0, 1) := by decide +kernel
theorem dX6_send_129 : decode cX6_send 129 = .ok (.getfield 37, 3) := by decide +kernel
theorem dX6_send_132 : decode cX6_send 132 = .ok (.iload 4, 2) := by decide +kernel
theorem dX6_send_134 : decode cX6_send 134 = .ok (.aload_n 0, 1) := by decide +kernel
theorem dX6_send_135 : decode cX6_send 135 = .ok (.getfield 61, 3) := by decide +kernel
theorem dX6_send_138 : decode cX6_send 138 = .ok (.iload 7, 2) := by decide +kernel
theorem dX6_send_140 : decode cX6_send 140 = .ok (.aload_n 0, 1) := by decide +kernel
theorem dX6_send_141 : decode cX6_send 141 = .ok (.getfield 30, 3) := by decide +kernel
theorem dX6_send_144 : decode cX6_send 144 = .ok (.iload 4, 2) := by decide +kernel
theorem dX6_send_146 : decode cX6_send 146 = .ok (.iaload, 1) := by decide +kernel
theorem dX6_send_147 : decode cX6_send 147 = .ok (.aload_n 0, 1) := by decide +kernel
theorem dX6_send_148 : decode cX6_send 148 = .ok (.getfield 61, 3) := by decide +kernel
theorem dX6_send_151 : decode cX6_send 151 = .ok (.getfield 123, 3) := by decide +kernel
theorem dX6_send_154 : decode cX6_send 154 = .ok (.iload 7, 2) := by decide +kernel
theorem dX6_send_156 : decode cX6_send 156 = .ok (.iaload, 1) := by decide +kernel
theorem dX6_send_157 : decode cX6_send 157 = .ok (.invokevirtual 129, 3) := by decide +kernel
theorem dX6_send_160 : decode cX6_send 160 = .ok (.iastore, 1) := by decide +kernel
theorem dX6_send_161 : decode cX6_send 161 = .ok (.aload_n 0, 1) := by decide +kernel
theorem dX6_send_162 : decode cX6_send 162 = .ok (.getfield 40, 3) := by decide +kernel
theorem dX6_send_165 : decode cX6_send 165 = .ok (.iload 6, 2) := by decide +kernel
theorem dX6_send_167 : decode cX6_send 167 = .ok (.aload_n 0, 1) := by decide +kernel
theorem dX6_send_168 : decode cX6_send 168 = .ok (.getfield 37, 3) := by decide +kernel
theorem dX6_send_171 : decode cX6_send 171 = .ok (.iload 4, 2) := by decide +kernel
theorem dX6_send_173 : decode cX6_send 173 = .ok (.iaload, 1) := by decide +kernel
theorem dX6_send_174 : decode cX6_send 174 = .ok (.aload_n 0, 1) := by decide +kernel
theorem dX6_send_175 : decode cX6_send 175 = .ok (.getfield 40, 3) := by decide +kernel
theorem dX6_send_178 : decode cX6_send 178 = .ok (.iload 6, 2) := by decide +kernel
theorem dX6_send_180 : decode cX6_send 180 = .ok (.iaload, 1) := by decide +kernel
theorem dX6_send_181 : decode cX6_send 181 = .ok (.if_icmp .le 13, 3) := by decide +kernel
theorem dX6_send_184 : decode cX6_send 184 = .ok (.aload_n 0, 1) := by decide +kernel
theorem dX6_send_185 : decode cX6_send 185 = .ok (.getfield 37, 3) := by decide +kernel
theorem dX6_send_188 : decode cX6_send 188 = .ok (.iload 4, 2) := by decide +kernel
theorem dX6_send_190 : decode cX6_send 190 = .ok (.iaload, 1) := by decide +kernel
theorem dX6_send_191 : decode cX6_send 191 = .ok (.goto 10, 3) := by decide +kernel
theorem dX6_send_194 : decode cX6_send 194 = .ok (.aload_n 0, 1) := by decide +kernel
theorem dX6_send_195 : decode cX6_send 195 = .ok (.getfield 40, 3) := by decide +kernel
theorem dX6_send_198 : decode cX6_send 198 = .ok (.iload 6, 2) := by decide +kernel
theorem dX6_send_200 : decode cX6_send 200 = .ok (.iaload, 1) := by decide +kernel
theorem dX6_send_201 : decode cX6_send 201 = .ok (.iastore, 1) := by decide +kernel
theorem dX6_send_202 : decode cX6_send 202 = .ok (.iload 6, 2) := by decide +kernel
theorem dX6_send_204 : decode cX6_send 204 = .ok (.istore 4, 2) := by decide +kernel
theorem dX6_send_206 : decode cX6_send 206 = .ok (.iinc 5 1, 3) := by decide +kernel
theorem dX6_send_209 : decode cX6_send 209 = .ok (.goto (-137), 3) := by decide +kernel
theorem dX6_send_212 : decode cX6_send 212 = .ok (.aload_n 0, 1) := by decide +kernel
theorem dX6_send_213 : decode cX6_send 213 = .ok (.getfield 46, 3) := by decide +kernel
theorem dX6_send_216 : decode cX6_send 216 = .ok (.bipush 12, 2) := by decide +kernel
theorem dX6_send_218 : decode cX6_send 218 = .ok (.dup2, 1) := by decide +kernel
theorem dX6_send_219 : decode cX6_send 219 = .ok (.iaload, 1) := by decide +kernel
theorem dX6_send_220 : decode cX6_send 220 = .ok (.iconst 1, 1) := by decide +kernel
theorem dX6_send_221 : decode cX6_send 221 = .ok (.isub, 1) := by decide +kernel
theorem dX6_send_222 : decode cX6_send 222 = .ok (.iastore, 1) := by decide +kernel
theorem dX6_send_223 : decode cX6_send 223 = .ok (.aload_n 0, 1) := by decide +kernel
theorem dX6_send_224 : decode cX6_send 224 = .ok (.dup, 1) := by decide +kernel
theorem dX6_send_225 : decode cX6_send 225 = .ok (.getfield 18, 3) := by decide +kernel
theorem dX6_send_228 : decode cX6_send 228 = .ok (.iconst 1, 1) := by decide +kernel
theorem dX6_send_229 : decode cX6_send 229 = .ok (.iadd, 1) := by decide +kernel
theorem dX6_send_230 : decode cX6_send 230 = .ok (.putfield 18, 3) := by decide +kernel
theorem dX6_send_233 : decode cX6_send 233 = .ok (.aload_n 0, 1) := by decide +kernel
theorem dX6_send_234 : decode cX6_send 234 = .ok (.iload_n 1, 1) := by decide +kernel
theorem dX6_send_235 : decode cX6_send 235 = .ok (.putfield 24, 3) := by decide +kernel
theorem dX6_send_238 : decode cX6_send 238 = .ok (.aload_n 0, 1) := by decide +kernel
theorem dX6_send_239 : decode cX6_send 239 = .ok (.iload_n 3, 1) := by decide +kernel
theorem dX6_send_240 : decode cX6_send 240 = .ok (.putfield 15, 3) := by decide +kernel
theorem dX6_send_243 : decode cX6_send 243 = .ok (.return_, 1) := by decide +kernel
theorem dX6_changeCurve_0 : decode cX6_changeCurve 0 = .ok (.iload_n 1, 1) := by decide +kernel
theorem dX6_changeCurve_1 : decode cX6_changeCurve 1 = .ok (.iconst 3, 1) := by decide +kernel
theorem dX6_changeCurve_2 : decode cX6_changeCurve 2 = .ok (.imul, 1) := by decide +kernel
theorem dX6_changeCurve_3 : decode cX6_changeCurve 3 = .ok (.iload_n 2, 1) := by decide +kernel
theorem dX6_changeCurve_4 : decode cX6_changeCurve 4 = .ok (.iadd, 1) := by decide +kernel
theorem dX6_changeCurve_5 : decode cX6_changeCurve 5 = .ok (.istore 6, 2) := by decide +kernel
theorem dX6_changeCurve_7 : decode cX6_changeCurve 7 = .ok (.aload_n 0, 1) := by decide +kernel
theorem dX6_changeCurve_8 : decode cX6_changeCurve 8 = .ok (.getfield 61, 3) := by decide +kernel
theorem dX6_changeCurve_11 : decode cX6_changeCurve 11 = .ok (.iload 6, 2) := by decide +kernel
theorem dX6_changeCurve_13 : decode cX6_changeCurve 13 = .ok (.iload_n 3, 1) := by decide +kernel
theorem dX6_changeCurve_14 : decode cX6_changeCurve 14 = .ok (.iload 4, 2) := by decide +kernel
theorem dX6_changeCurve_16 : decode cX6_changeCurve 16 = .ok (.iload 5, 2) := by decide +kernel
theorem dX6_changeCurve_18 : decode cX6_changeCurve 18 = .ok (.invokevirtual 182, 3) := by decide +kernel
theorem dX6_changeCurve_21 : decode cX6_changeCurve 21 = .ok (.aload_n 0, 1) := by decide +kernel
theorem dX6_changeCurve_22 : decode cX6_changeCurve 22 = .ok (.getfield 46, 3) := by decide +kernel
theorem dX6_changeCurve_25 : decode cX6_changeCurve 25 = .ok (.iload_n 1, 1) := by decide +kernel
theorem dX6_changeCurve_26 : decode cX6_changeCurve 26 = .ok (.iaload, 1) := by decide +kernel
theorem dX6_changeCurve_27 : decode cX6_changeCurve 27 = .ok (.ifCond .le 49, 3) := by decide +kernel
theorem dX6_changeCurve_30 : decode cX6_changeCurve 30 = .ok (.aload_n 0, 1) := by decide +kernel
theorem dX6_changeCurve_31 : decode cX6_changeCurve 31 = .ok (.getfield 61, 3) := by decide +kernel
theorem dX6_changeCurve_34 : decode cX6_changeCurve 34 = .ok (.iload 6, 2) := by decide +kernel
theorem dX6_changeCurve_36 : decode cX6_changeCurve 36 = .ok (.iload_n 2, 1) := by decide +kernel
theorem dX6_changeCurve_37 : decode cX6_changeCurve 37 = .ok (.iconst 1, 1) := by decide +kernel
theorem dX6_changeCurve_38 : decode cX6_changeCurve 38 = .ok (.if_icmp .ne 12, 3) := by decide +kernel
theorem dX6_changeCurve_41 : decode cX6_changeCurve 41 = .ok (.aload_n 0, 1) := by decide +kernel
theorem dX6_changeCurve_42 : decode cX6_changeCurve 42 = .ok (.getfield 37, 3) := by decide +kernel
theorem dX6_changeCurve_45 : decode cX6_changeCurve 45 = .ok (.iload_n 1, 1) := by decide +kernel
theorem dX6_changeCurve_46 : decode cX6_changeCurve 46 = .ok (.iaload, 1) := by decide +kernel
theorem dX6_changeCurve_47 : decode cX6_changeCurve 47 = .ok (.goto 7, 3) := by decide +kernel
theorem dX6_changeCurve_50 : decode cX6_changeCurve 50 = .ok (.aload_n 0, 1) := by decide +kernel
theorem dX6_changeCurve_51 : decode cX6_changeCurve 51 = .ok (.getfield 9, 3) := by decide +kernel
theorem dX6_changeCurve_54 : decode cX6_changeCurve 54 = .ok (.iload_n 2, 1) := by decide +kernel
theorem dX6_changeCurve_55 : decode cX6_changeCurve 55 = .ok (.ifCond .ne 12, 3) := by decide +kernel
theorem dX6_changeCurve_58 : decode cX6_changeCurve 58 = .ok (.aload_n 0, 1) := by decide +kernel
theorem dX6_changeCurve_59 : decode cX6_changeCurve 59 = .ok (.getfield 34, 3) := by decide +kernel
theorem dX6_changeCurve_62 : decode cX6_changeCurve 62 = .ok (.iload_n 1, 1) := by decide +kernel
theorem dX6_changeCurve_63 : decode cX6_changeCurve 63 = .ok (.iaload, 1) := by decide +kernel
theorem dX6_changeCurve_64 : decode cX6_changeCurve 64 = .ok (.goto 9, 3) := by decide +kernel
theorem dX6_changeCurve_67 : decode cX6_changeCurve 67 = .ok (.aload_n 0, 1) := by decide +kernel
theorem dX6_changeCurve_68 : decode cX6_changeCurve 68 = .ok (.getfield 30, 3) := by decide +kernel
theorem dX6_changeCurve_71 : decode cX6_changeCurve 71 = .ok (.iload_n 1, 1) := by decide +kernel
theorem dX6_changeCurve_72 : decode cX6_changeCurve 72 = .ok (.iaload, 1) := by decide +kernel
theorem dX6_changeCurve_73 : decode cX6_changeCurve 73 = .ok (.invokevirtual 145, 3) := by decide +kernel
theorem dX6_changeCurve_76 : decode cX6_changeCurve 76 = .ok (.return_, 1) := by decide +kernel
theorem dX6_emptyQueue_0 : decode cX6_emptyQueue 0 = .ok (.aload_n 0, 1) := by decide +kernel
theorem dX6_emptyQueue_1 : decode cX6_emptyQueue 1 = .ok (.getfield 46, 3) := by decide +kernel
theorem dX6_emptyQueue_4 : decode cX6_emptyQueue 4 = .ok (.iload_n 1, 1) := by decide +kernel
theorem dX6_emptyQueue_5 : decode cX6_emptyQueue 5 = .ok (.iaload, 1) := by decide +kernel
theorem dX6_emptyQueue_6 : decode cX6_emptyQueue 6 = .ok (.istore_n 2, 1) := by decide +kernel
theorem dX6_emptyQueue_7 : decode cX6_emptyQueue 7 = .ok (.iload_n 1, 1) := by decide +kernel
theorem dX6_emptyQueue_8 : decode cX6_emptyQueue 8 = .ok (.istore_n 3, 1) := by decide +kernel
theorem dX6_emptyQueue_9 : decode cX6_emptyQueue 9 = .ok (.iconst 0, 1) := by decide +kernel
theorem dX6_emptyQueue_10 : decode cX6_emptyQueue 10 = .ok (.istore 4, 2) := by decide +kernel
theorem dX6_emptyQueue_12 : decode cX6_emptyQueue 12 = .ok (.iload 4, 2) := by decide +kernel
theorem dX6_emptyQueue_14 : decode cX6_emptyQueue 14 = .ok (.bipush 12, 2) := by decide +kernel
theorem dX6_emptyQueue_16 : decode cX6_emptyQueue 16 = .ok (.if_icmp .ge 35, 3) := by decide +kernel
theorem dX6_emptyQueue_19 : decode cX6_emptyQueue 19 = .ok (.iload_n 3, 1) := by decide +kernel
theorem dX6_emptyQueue_20 : decode cX6_emptyQueue 20 = .ok (.bipush 12, 2) := by decide +kernel
theorem dX6_emptyQueue_22 : decode cX6_emptyQueue 22 = .ok (.if_icmp .eq 29, 3) := by decide +kernel
theorem dX6_emptyQueue_25 : decode cX6_emptyQueue 25 = .ok (.aload_n 0, 1) := by decide +kernel
theorem dX6_emptyQueue_26 : decode cX6_emptyQueue 26 = .ok (.getfield 46, 3) := by decide +kernel
theorem dX6_emptyQueue_29 : decode cX6_emptyQueue 29 = .ok (.iload_n 3, 1) := by decide +kernel
theorem dX6_emptyQueue_30 : decode cX6_emptyQueue 30 = .ok (.dup2, 1) := by decide +kernel
theorem dX6_emptyQueue_31 : decode cX6_emptyQueue 31 = .ok (.iaload, 1) := by decide +kernel
theorem dX6_emptyQueue_32 : decode cX6_emptyQueue 32 = .ok (.iload_n 2, 1) := by decide +kernel
theorem dX6_emptyQueue_33 : decode cX6_emptyQueue 33 = .ok (.isub, 1) := by decide +kernel
theorem dX6_emptyQueue_34 : decode cX6_emptyQueue 34 = .ok (.iastore, 1) := by decide +kernel
theorem dX6_emptyQueue_35 : decode cX6_emptyQueue 35 = .ok (.aload_n 0, 1) := by decide +kernel
theorem dX6_emptyQueue_36 : decode cX6_emptyQueue 36 = .ok (.getfield 68, 3) := by decide +kernel
theorem dX6_emptyQueue_39 : decode cX6_emptyQueue 39 = .ok (.getfield 137, 3) := by decide +kernel
theorem dX6_emptyQueue_42 : decode cX6_emptyQueue 42 = .ok (.iload_n 3, 1) := by decide +kernel
theorem dX6_emptyQueue_43 : decode cX6_emptyQueue 43 = .ok (.iaload, 1) := by decide +kernel
theorem dX6_emptyQueue_44 : decode cX6_emptyQueue 44 = .ok (.istore_n 3, 1) := by decide +kernel
theorem dX6_emptyQueue_45 : decode cX6_emptyQueue 45 = .ok (.iinc 4 1, 3) := by decide +kernel
theorem dX6_emptyQueue_48 : decode cX6_emptyQueue 48 = .ok (.goto (-36), 3) := by decide +kernel
theorem dX6_emptyQueue_51 : decode cX6_emptyQueue 51 = .ok (.aload_n 0, 1) := by decide +kernel
theorem dX6_emptyQueue_52 : decode cX6_emptyQueue 52 = .ok (.getfield 46, 3) := by decide +kernel
theorem dX6_emptyQueue_55 : decode cX6_emptyQueue 55 = .ok (.bipush 12, 2) := by decide +kernel
theorem dX6_emptyQueue_57 : decode cX6_emptyQueue 57 = .ok (.dup2, 1) := by decide +kernel
theorem dX6_emptyQueue_58 : decode cX6_emptyQueue 58 = .ok (.iaload, 1) := by decide +kernel
theorem dX6_emptyQueue_59 : decode cX6_emptyQueue 59 = .ok (.iload_n 2, 1) := by decide +kernel
theorem dX6_emptyQueue_60 : decode cX6_emptyQueue 60 = .ok (.isub, 1) := by decide +kernel
theorem dX6_emptyQueue_61 : decode cX6_emptyQueue 61 = .ok (.iastore, 1) := by decide +kernel
theorem dX6_emptyQueue_62 : decode cX6_emptyQueue 62 = .ok (.iload_n 2, 1) := by decide +kernel
theorem dX6_emptyQueue_63 : decode cX6_emptyQueue 63 = .ok (.ireturn, 1) := by decide +kernel
theorem dX6_toggleFlow_0 : decode cX6_toggleFlow 0 = .ok (.aload_n 0, 1) := by decide +kernel
theorem dX6_toggleFlow_1 : decode cX6_toggleFlow 1 = .ok (.dup, 1) := by decide +kernel
theorem dX6_toggleFlow_2 : decode cX6_toggleFlow 2 = .ok (.getfield 27, 3) := by decide +kernel
theorem dX6_toggleFlow_5 : decode cX6_toggleFlow 5 = .ok (.iconst 1, 1) := by decide +kernel
theorem dX6_toggleFlow_6 : decode cX6_toggleFlow 6 = .ok (.iload_n 1, 1) := by decide +kernel
theorem dX6_toggleFlow_7 : decode cX6_toggleFlow 7 = .ok (.ishl, 1) := by decide +kernel
theorem dX6_toggleFlow_8 : decode cX6_toggleFlow 8 = .ok (.ixor, 1) := by decide +kernel
theorem dX6_toggleFlow_9 : decode cX6_toggleFlow 9 = .ok (.putfield 27, 3) := by decide +kernel
theorem dX6_toggleFlow_12 : decode cX6_toggleFlow 12 = .ok (.return_, 1) := by decide +kernel
theorem dX7_init_0 : decode cX7_init 0 = .ok (.aload_n 0, 1) := by decide +kernel
theorem dX7_init_1 : decode cX7_init 1 = .ok (.invokespecial 3, 3) := by decide +kernel
theorem dX7_init_4 : decode cX7_init 4 = .ok (.aload_n 0, 1) := by decide +kernel
theorem dX7_init_5 : decode cX7_init 5 = .ok (.iconst 0, 1) := by decide +kernel
theorem dX7_init_6 : decode cX7_init 6 = .ok (.putfield 9, 3) := by decide +kernel
theorem dX7_init_9 : decode cX7_init 9 = .ok (.aload_n 0, 1) := by decide +kernel
theorem dX7_init_10 : decode cX7_init 10 = .ok (.bipush 8, 2) := by decide +kernel
theorem dX7_init_12 : decode cX7_init 12 = .ok (.newarray .int, 2) := by decide +kernel
theorem dX7_init_14 : decode cX7_init 14 = .ok (.putfield 15, 3) := by decide +kernel
theorem dX7_init_17 : decode cX7_init 17 = .ok (.aload_n 0, 1) := by decide +kernel
theorem dX7_init_18 : decode cX7_init 18 = .ok (.bipush 8, 2) := by decide +kernel
theorem dX7_init_20 : decode cX7_init 20 = .ok (.newarray .int, 2) := by decide +kernel
theorem dX7_init_22 : decode cX7_init 22 = .ok (.putfield 19, 3) := by decide +kernel
theorem dX7_init_25 : decode cX7_init 25 = .ok (.aload_n 0, 1) := by decide +kernel
theorem dX7_init_26 : decode cX7_init 26 = .ok (.bipush 8, 2) := by decide +kernel
theorem dX7_init_28 : decode cX7_init 28 = .ok (.newarray .int, 2) := by decide +kernel
theorem dX7_init_30 : decode cX7_init 30 = .ok (.putfield 22, 3) := by decide +kernel
theorem dX7_init_33 : decode cX7_init 33 = .ok (.return_, 1) := by decide +kernel
theorem dX7_clear_0 : decode cX7_clear 0 = .ok (.aload_n 0, 1) := by decide +kernel
theorem dX7_clear_1 : decode cX7_clear 1 = .ok (.iconst 0, 1) := by decide +kernel
theorem dX7_clear_2 : decode cX7_clear 2 = .ok (.putfield 9, 3) := by decide +kernel
theorem dX7_clear_5 : decode cX7_clear 5 = .ok (.return_, 1) := by decide +kernel
theorem dX7_copyFrom_0 : decode cX7_copyFrom 0 = .ok (.aload_n 0, 1) := by decide +kernel
theorem dX7_copyFrom_1 : decode cX7_copyFrom 1 = .ok (.aload_n 1, 1) := by decide +kernel
theorem dX7_copyFrom_2 : decode cX7_copyFrom 2 = .ok (.getfield 9, 3) := by decide +kernel
theorem dX7_copyFrom_5 : decode cX7_copyFrom 5 = .ok (.putfield 9, 3) := by decide +kernel
theorem dX7_copyFrom_8 : decode cX7_copyFrom 8 = .ok (.aload_n 1, 1) := by decide +kernel
theorem dX7_copyFrom_9 : decode cX7_copyFrom 9 = .ok (.getfield 15, 3) := by decide +kernel
theorem dX7_copyFrom_12 : decode cX7_copyFrom 12 = .ok (.iconst 0, 1) := by decide +kernel
theorem dX7_copyFrom_13 : decode cX7_copyFrom 13 = .ok (.aload_n 0, 1) := by decide +kernel
theorem dX7_copyFrom_14 : decode cX7_copyFrom 14 = .ok (.getfield 15, 3) := by decide +kernel
theorem dX7_copyFrom_17 : decode cX7_copyFrom 17 = .ok (.iconst 0, 1) := by decide +kernel
theorem dX7_copyFrom_18 : decode cX7_copyFrom 18 = .ok (.aload_n 0, 1) := by decide +kernel
theorem dX7_copyFrom_19 : decode cX7_copyFrom 19 = .ok (.getfield 9, 3) := by decide +kernel
theorem dX7_copyFrom_22 : decode cX7_copyFrom 22 = .ok (.invokestatic 25, 3) := by decide +kernel
theorem dX7_copyFrom_25 : decode cX7_copyFrom 25 = .ok (.aload_n 1, 1) := by decide +kernel
theorem dX7_copyFrom_26 : decode cX7_copyFrom 26 = .ok (.getfield 19, 3) := by decide +kernel
theorem dX7_copyFrom_29 : decode cX7_copyFrom 29 = .ok (.iconst 0, 1) := by decide +kernel
theorem dX7_copyFrom_30 : decode cX7_copyFrom 30 = .ok (.aload_n 0, 1) := by decide +kernel
theorem dX7_copyFrom_31 : decode cX7_copyFrom 31 = .ok (.getfield 19, 3) := by decide +kernel
theorem dX7_copyFrom_34 : decode cX7_copyFrom 34 = .ok (.iconst 0, 1) := by decide +kernel
theorem dX7_copyFrom_35 : decode cX7_copyFrom 35 = .ok (.aload_n 0, 1) := by decide +kernel
theorem dX7_copyFrom_36 : decode cX7_copyFrom 36 = .ok (.getfield 9, 3) := by decide +kernel
theorem dX7_copyFrom_39 : decode cX7_copyFrom 39 = .ok (.invokestatic 25, 3) := by decide +kernel
theorem dX7_copyFrom_42 : decode cX7_copyFrom 42 = .ok (.aload_n 1, 1) := by decide +kernel
theorem dX7_copyFrom_43 : decode cX7_copyFrom 43 = .ok (.getfield 22, 3) := by decide +kernel
theorem dX7_copyFrom_46 : decode cX7_copyFrom 46 = .ok (.iconst 0, 1) := by decide +kernel
theorem dX7_copyFrom_47 : decode cX7_copyFrom 47 = .ok (.aload_n 0, 1) := by decide +kernel
theorem dX7_copyFrom_48 : decode cX7_copyFrom 48 = .ok (.getfield 22, 3) := by decide +kernel
theorem dX7_copyFrom_51 : decode cX7_copyFrom 51 = .ok (.iconst 0, 1) := by decide +kernel
theorem dX7_copyFrom_52 : decode cX7_copyFrom 52 = .ok (.aload_n 0, 1) := by decide +kernel
theorem dX7_copyFrom_53 : decode cX7_copyFrom 53 = .ok (.getfield 9, 3) := by decide +kernel
theorem dX7_copyFrom_56 : decode cX7_copyFrom 56 = .ok (.invokestatic 25, 3) := by decide +kernel
theorem dX7_copyFrom_59 : decode cX7_copyFrom 59 = .ok (.return_, 1) := by decide +kernel
theorem dX8_init_0 : decode cX8_init 0 = .ok (.aload_n 0, 1) := by decide +kernel
theorem dX8_init_1 : decode cX8_init 1 = .ok (.invokespecial 3, 3) := by decide +kernel
theorem dX8_init_4 : decode cX8_init 4 = .ok (.aload_n 0, 1) := by decide +kernel
theorem dX8_init_5 : decode cX8_init 5 = .ok (.iconst 0, 1) := by decide +kernel
theorem dX8_init_6 : decode cX8_init 6 = .ok (.putfield 9, 3) := by decide +kernel
theorem dX8_init_9 : decode cX8_init 9 = .ok (.aload_n 0, 1) := by decide +kernel
theorem dX8_init_10 : decode cX8_init 10 = .ok (.iconst 0, 1) := by decide +kernel
theorem dX8_init_11 : decode cX8_init 11 = .ok (.putfield 15, 3) := by decide +kernel
theorem dX8_init_14 : decode cX8_init 14 = .ok (.aload_n 0, 1) := by decide +kernel
theorem dX8_init_15 : decode cX8_init 15 = .ok (.bipush 12, 2) := by decide +kernel
theorem dX8_init_17 : decode cX8_init 17 = .ok (.newarray .int, 2) := by decide +kernel
theorem dX8_init_19 : decode cX8_init 19 = .ok (.putfield 18, 3) := by decide +kernel
theorem dX8_init_22 : decode cX8_init 22 = .ok (.aload_n 0, 1) := by decide +kernel
theorem dX8_init_23 : decode cX8_init 23 = .ok (.bipush 13, 2) := by decide +kernel
theorem dX8_init_25 : decode cX8_init 25 = .ok (.newarray .int, 2) := by decide +kernel
theorem dX8_init_27 : decode cX8_init 27 = .ok (.putfield 22, 3) := by decide +kernel
theorem dX8_init_30 : decode cX8_init 30 = .ok (.aload_n 0, 1) := by decide +kernel
theorem dX8_init_31 : decode cX8_init 31 = .ok (.sipush 156, 3) := by decide +kernel
theorem dX8_init_34 : decode cX8_init 34 = .ok (.newarray .int, 2) := by decide +kernel
theorem dX8_init_36 : decode cX8_init 36 = .ok (.putfield 25, 3) := by decide +kernel
theorem dX8_init_39 : decode cX8_init 39 = .ok (.aload_n 0, 1) := by decide +kernel
theorem dX8_init_40 : decode cX8_init 40 = .ok (.bipush 8, 2) := by decide +kernel
theorem dX8_init_42 : decode cX8_init 42 = .ok (.newarray .int, 2) := by decide +kernel
theorem dX8_init_44 : decode cX8_init 44 = .ok (.putfield 28, 3) := by decide +kernel
theorem dX8_init_47 : decode cX8_init 47 = .ok (.aload_n 0, 1) := by decide +kernel
theorem dX8_init_48 : decode cX8_init 48 = .ok (.bipush 8, 2) := by decide +kernel
theorem dX8_init_50 : decode cX8_init 50 = .ok (.newarray .int, 2) := by decide +kernel
theorem dX8_init_52 : decode cX8_init 52 = .ok (.putfield 31, 3) := by decide +kernel
theorem dX8_init_55 : decode cX8_init 55 = .ok (.aload_n 0, 1) := by decide +kernel
theorem dX8_init_56 : decode cX8_init 56 = .ok (.bipush 8, 2) := by decide +kernel
theorem dX8_init_58 : decode cX8_init 58 = .ok (.newarray .int, 2) := by decide +kernel
theorem dX8_init_60 : decode cX8_init 60 = .ok (.putfield 34, 3) := by decide +kernel
theorem dX8_init_63 : decode cX8_init 63 = .ok (.aload_n 0, 1) := by decide +kernel
theorem dX8_init_64 : decode cX8_init 64 = .ok (.bipush 8, 2) := by decide +kernel
theorem dX8_init_66 : decode cX8_init 66 = .ok (.newarray .int, 2) := by decide +kernel
theorem dX8_init_68 : decode cX8_init 68 = .ok (.putfield 37, 3) := by decide +kernel
theorem dX8_init_71 : decode cX8_init 71 = .ok (.aload_n 0, 1) := by decide +kernel
theorem dX8_init_72 : decode cX8_init 72 = .ok (.new 40, 3) := by decide +kernel
theorem dX8_init_75 : decode cX8_init 75 = .ok (.dup, 1) := by decide +kernel
theorem dX8_init_76 : decode cX8_init 76 = .ok (.invokespecial 42, 3) := by decide +kernel
theorem dX8_init_79 : decode cX8_init 79 = .ok (.putfield 43, 3) := by decide +kernel
theorem dX8_init_82 : decode cX8_init 82 = .ok (.return_, 1) := by decide +kernel
theorem dX8_clear_0 : decode cX8_clear 0 = .ok (.aload_n 0, 1) := by decide +kernel
theorem dX8_clear_1 : decode cX8_clear 1 = .ok (.iconst 0, 1) := by decide +kernel
theorem dX8_clear_2 : decode cX8_clear 2 = .ok (.putfield 9, 3) := by decide +kernel
theorem dX8_clear_5 : decode cX8_clear 5 = .ok (.aload_n 0, 1) := by decide +kernel
theorem dX8_clear_6 : decode cX8_clear 6 = .ok (.iconst 0, 1) := by decide +kernel
theorem dX8_clear_7 : decode cX8_clear 7 = .ok (.putfield 15, 3) := by decide +kernel
theorem dX8_clear_10 : decode cX8_clear 10 = .ok (.aload_n 0, 1) := by decide +kernel
theorem dX8_clear_11 : decode cX8_clear 11 = .ok (.getfield 22, 3) := by decide +kernel
theorem dX8_clear_14 : decode cX8_clear 14 = .ok (.iconst 0, 1) := by decide +kernel
theorem dX8_clear_15 : decode cX8_clear 15 = .ok (.invokestatic 47, 3) := by decide +kernel
theorem dX8_clear_18 : decode cX8_clear 18 = .ok (.aload_n 0, 1) := by decide +kernel
theorem dX8_clear_19 : decode cX8_clear 19 = .ok (.getfield 43, 3) := by decide +kernel
theorem dX8_clear_22 : decode cX8_clear 22 = .ok (.invokevirtual 53, 3) := by decide +kernel
theorem dX8_clear_25 : decode cX8_clear 25 = .ok (.return_, 1) := by decide +kernel
theorem dX8_copyFrom_0 : decode cX8_copyFrom 0 = .ok (.aload_n 0, 1) := by decide +kernel
theorem dX8_copyFrom_1 : decode cX8_copyFrom 1 = .ok (.aload_n 1, 1) := by decide +kernel
theorem dX8_copyFrom_2 : decode cX8_copyFrom 2 = .ok (.getfield 9, 3) := by decide +kernel
theorem dX8_copyFrom_5 : decode cX8_copyFrom 5 = .ok (.putfield 9, 3) := by decide +kernel
theorem dX8_copyFrom_8 : decode cX8_copyFrom 8 = .ok (.aload_n 0, 1) := by decide +kernel
theorem dX8_copyFrom_9 : decode cX8_copyFrom 9 = .ok (.aload_n 1, 1) := by decide +kernel
theorem dX8_copyFrom_10 : decode cX8_copyFrom 10 = .ok (.getfield 15, 3) := by decide +kernel
theorem dX8_copyFrom_13 : decode cX8_copyFrom 13 = .ok (.putfield 15, 3) := by decide +kernel
theorem dX8_copyFrom_16 : decode cX8_copyFrom 16 = .ok (.aload_n 1, 1) := by decide +kernel
theorem dX8_copyFrom_17 : decode cX8_copyFrom 17 = .ok (.getfield 18, 3) := by decide +kernel
theorem dX8_copyFrom_20 : decode cX8_copyFrom 20 = .ok (.iconst 0, 1) := by decide +kernel
theorem dX8_copyFrom_21 : decode cX8_copyFrom 21 = .ok (.aload_n 0, 1) := by decide +kernel
theorem dX8_copyFrom_22 : decode cX8_copyFrom 22 = .ok (.getfield 18, 3) := by decide +kernel
theorem dX8_copyFrom_25 : decode cX8_copyFrom 25 = .ok (.iconst 0, 1) := by decide +kernel
theorem dX8_copyFrom_26 : decode cX8_copyFrom 26 = .ok (.aload_n 0, 1) := by decide +kernel
theorem dX8_copyFrom_27 : decode cX8_copyFrom 27 = .ok (.getfield 18, 3) := by decide +kernel
theorem dX8_copyFrom_30 : decode cX8_copyFrom 30 = .ok (.arraylength, 1) := by decide +kernel
theorem dX8_copyFrom_31 : decode cX8_copyFrom 31 = .ok (.invokestatic 56, 3) := by decide +kernel
theorem dX8_copyFrom_34 : decode cX8_copyFrom 34 = .ok (.aload_n 1, 1) := by decide +kernel
theorem dX8_copyFrom_35 : decode cX8_copyFrom 35 = .ok (.getfield 22, 3) := by decide +kernel
theorem dX8_copyFrom_38 : decode cX8_copyFrom 38 = .ok (.iconst 0, 1) := by decide +kernel
theorem dX8_copyFrom_39 : decode cX8_copyFrom 39 = .ok (.aload_n 0, 1) := by decide +kernel
theorem dX8_copyFrom_40 : decode cX8_copyFrom 40 = .ok (.getfield 22, 3) := by decide +kernel
theorem dX8_copyFrom_43 : decode cX8_copyFrom 43 = .ok (.iconst 0, 1) := by decide +kernel
theorem dX8_copyFrom_44 : decode cX8_copyFrom 44 = .ok (.aload_n 0, 1) := by decide +kernel
theorem dX8_copyFrom_45 : decode cX8_copyFrom 45 = .ok (.getfield 22, 3) := by decide +kernel
theorem dX8_copyFrom_48 : decode cX8_copyFrom 48 = .ok (.arraylength, 1) := by decide +kernel
theorem dX8_copyFrom_49 : decode cX8_copyFrom 49 = .ok (.invokestatic 56, 3) := by decide +kernel
theorem dX8_copyFrom_52 : decode cX8_copyFrom 52 = .ok (.aload_n 1, 1) := by decide +kernel
theorem dX8_copyFrom_53 : decode cX8_copyFrom 53 = .ok (.getfield 25, 3) := by decide +kernel
theorem dX8_copyFrom_56 : decode cX8_copyFrom 56 = .ok (.iconst 0, 1) := by decide +kernel
theorem dX8_copyFrom_57 : decode cX8_copyFrom 57 = .ok (.aload_n 0, 1) := by decide +kernel
theorem dX8_copyFrom_58 : decode cX8_copyFrom 58 = .ok (.getfield 25, 3) := by decide +kernel
theorem dX8_copyFrom_61 : decode cX8_copyFrom 61 = .ok (.iconst 0, 1) := by decide +kernel
theorem dX8_copyFrom_62 : decode cX8_copyFrom 62 = .ok (.aload_n 0, 1) := by decide +kernel
theorem dX8_copyFrom_63 : decode cX8_copyFrom 63 = .ok (.getfield 25, 3) := by decide +kernel
theorem dX8_copyFrom_66 : decode cX8_copyFrom 66 = .ok (.arraylength, 1) := by decide +kernel
theorem dX8_copyFrom_67 : decode cX8_copyFrom 67 = .ok (.invokestatic 56, 3) := by decide +kernel
theorem dX8_copyFrom_70 : decode cX8_copyFrom 70 = .ok (.aload_n 1, 1) := by decide +kernel
theorem dX8_copyFrom_71 : decode cX8_copyFrom 71 = .ok (.getfield 28, 3) := by decide +kernel
theorem dX8_copyFrom_74 : decode cX8_copyFrom 74 = .ok (.iconst 0, 1) := by decide +kernel
theorem dX8_copyFrom_75 : decode cX8_copyFrom 75 = .ok (.aload_n 0, 1) := by decide +kernel
theorem dX8_copyFrom_76 : decode cX8_copyFrom 76 = .ok (.getfield 28, 3) := by decide +kernel
theorem dX8_copyFrom_79 : decode cX8_copyFrom 79 = .ok (.iconst 0, 1) := by decide +kernel
theorem dX8_copyFrom_80 : decode cX8_copyFrom 80 = .ok (.aload_n 0, 1) := by decide +kernel
theorem dX8_copyFrom_81 : decode cX8_copyFrom 81 = .ok (.getfield 28, 3) := by decide +kernel
theorem dX8_copyFrom_84 : decode cX8_copyFrom 84 = .ok (.arraylength, 1) := by decide +kernel
theorem dX8_copyFrom_85 : decode cX8_copyFrom 85 = .ok (.invokestatic 56, 3) := by decide +kernel
theorem dX8_copyFrom_88 : decode cX8_copyFrom 88 = .ok (.aload_n 1, 1) := by decide +kernel
theorem dX8_copyFrom_89 : decode cX8_copyFrom 89 = .ok (.getfield 31, 3) := by decide +kernel
theorem dX8_copyFrom_92 : decode cX8_copyFrom 92 = .ok (.iconst 0, 1) := by decide +kernel
theorem dX8_copyFrom_93 : decode cX8_copyFrom 93 = .ok (.aload_n 0, 1) := by decide +kernel
theorem dX8_copyFrom_94 : decode cX8_copyFrom 94 = .ok (.getfield 31, 3) := by decide +kernel
theorem dX8_copyFrom_97 : decode cX8_copyFrom 97 = .ok (.iconst 0, 1) := by decide +kernel
theorem dX8_copyFrom_98 : decode cX8_copyFrom 98 = .ok (.aload_n 0, 1) := by decide +kernel
theorem dX8_copyFrom_99 : decode cX8_copyFrom 99 = .ok (.getfield 31, 3) := by decide +kernel
theorem dX8_copyFrom_102 : decode cX8_copyFrom 102 = .ok (.arraylength, 1) := by decide +kernel
theorem dX8_copyFrom_103 : decode cX8_copyFrom 103 = .ok (.invokestatic 56, 3) := by decide +kernel
theorem dX8_copyFrom_106 : decode cX8_copyFrom 106 = .ok (.aload_n 1, 1) := by decide +kernel
theorem dX8_copyFrom_107 : decode cX8_copyFrom 107 = .ok (.getfield 34, 3) := by decide +kernel
theorem dX8_copyFrom_110 : decode cX8_copyFrom 110 = .ok (.iconst 0, 1) := by decide +kernel
theorem dX8_copyFrom_111 : decode cX8_copyFrom 111 = .ok (.aload_n 0, 1) := by decide +kernel
theorem dX8_copyFrom_112 : decode cX8_copyFrom 112 = .ok (.getfield 34, 3) := by decide +kernel
theorem dX8_copyFrom_115 : decode cX8_copyFrom 115 = .ok (.iconst 0, 1) := by decide +kernel
theorem dX8_copyFrom_116 : decode cX8_copyFrom 116 = .ok (.aload_n 0, 1) := by decide +kernel
theorem dX8_copyFrom_117 : decode cX8_copyFrom 117 = .ok (.getfield 34, 3) := by decide +kernel
theorem dX8_copyFrom_120 : decode cX8_copyFrom 120 = .ok (.arraylength, 1) := by decide +kernel
theorem dX8_copyFrom_121 : decode cX8_copyFrom 121 = .ok (.invokestatic 56, 3) := by decide +kernel
theorem dX8_copyFrom_124 : decode cX8_copyFrom 124 = .ok (.aload_n 1, 1) := by decide +kernel
theorem dX8_copyFrom_125 : decode cX8_copyFrom 125 = .ok (.getfield 37, 3) := by decide +kernel
theorem dX8_copyFrom_128 : decode cX8_copyFrom 128 = .ok (.iconst 0, 1) := by decide +kernel
theorem dX8_copyFrom_129 : decode cX8_copyFrom 129 = .ok (.aload_n 0, 1) := by decide +kernel
theorem dX8_copyFrom_130 : decode cX8_copyFrom 130 = .ok (.getfield 37, 3) := by decide +kernel
theorem dX8_copyFrom_133 : decode cX8_copyFrom 133 = .ok (.iconst 0, 1) := by decide +kernel
theorem dX8_copyFrom_134 : decode cX8_copyFrom 134 = .ok (.aload_n 0, 1) := by decide +kernel
theorem dX8_copyFrom_135 : decode cX8_copyFrom 135 = .ok (.getfield 37, 3) := by decide +kernel
theorem dX8_copyFrom_138 : decode cX8_copyFrom 138 = .ok (.arraylength, 1) := by decide +kernel
theorem dX8_copyFrom_139 : decode cX8_copyFrom 139 = .ok (.invokestatic 56, 3) := by decide +kernel
theorem dX8_copyFrom_142 : decode cX8_copyFrom 142 = .ok (.aload_n 0, 1) := by decide +kernel
theorem dX8_copyFrom_143 : decode cX8_copyFrom 143 = .ok (.getfield 43, 3) := by decide +kernel
theorem dX8_copyFrom_146 : decode cX8_copyFrom 146 = .ok (.aload_n 1, 1) := by decide +kernel
theorem dX8_copyFrom_147 : decode cX8_copyFrom 147 = .ok (.getfield 43, 3) := by decide +kernel
theorem dX8_copyFrom_150 : decode cX8_copyFrom 150 = .ok (.bipush 12, 2) := by decide +kernel
theorem dX8_copyFrom_152 : decode cX8_copyFrom 152 = .ok (.invokevirtual 62, 3) := by decide +kernel
theorem dX8_copyFrom_155 : decode cX8_copyFrom 155 = .ok (.return_, 1) := by decide +kernel
theorem dX8_hasClass_0 : decode cX8_hasClass 0 = .ok (.iload_n 1, 1) := by decide +kernel
theorem dX8_hasClass_1 : decode cX8_hasClass 1 = .ok (.ifCond .lt 15, 3) := by decide +kernel
theorem dX8_hasClass_4 : decode cX8_hasClass 4 = .ok (.iload_n 1, 1) := by decide +kernel
theorem dX8_hasClass_5 : decode cX8_hasClass 5 = .ok (.aload_n 0, 1) := by decide +kernel
theorem dX8_hasClass_6 : decode cX8_hasClass 6 = .ok (.getfield 9, 3) := by decide +kernel
theorem dX8_hasClass_9 : decode cX8_hasClass 9 = .ok (.if_icmp .ge 7, 3) := by decide +kernel
theorem dX8_hasClass_12 : decode cX8_hasClass 12 = .ok (.iconst 1, 1) := by decide +kernel
theorem dX8_hasClass_13 : decode cX8_hasClass 13 = .ok (.goto 4, 3) := by decide +kernel
theorem dX8_hasClass_16 : decode cX8_hasClass 16 = .ok (.iconst 0, 1) := by decide +kernel
theorem dX8_hasClass_17 : decode cX8_hasClass 17 = .ok (.ireturn, 1) := by decide +kernel
theorem dX8_isLeaf_0 : decode cX8_isLeaf 0 = .ok (.aload_n 0, 1) := by decide +kernel
theorem dX8_isLeaf_1 : decode cX8_isLeaf 1 = .ok (.getfield 22, 3) := by decide +kernel
theorem dX8_isLeaf_4 : decode cX8_isLeaf 4 = .ok (.iload_n 1, 1) := by decide +kernel
theorem dX8_isLeaf_5 : decode cX8_isLeaf 5 = .ok (.iaload, 1) := by decide +kernel
theorem dX8_isLeaf_6 : decode cX8_isLeaf 6 = .ok (.ifCond .ne 7, 3) := by decide +kernel
theorem dX8_isLeaf_9 : decode cX8_isLeaf 9 = .ok (.iconst 1, 1) := by decide +kernel
theorem dX8_isLeaf_10 : decode cX8_isLeaf 10 = .ok (.goto 4, 3) := by decide +kernel
theorem dX8_isLeaf_13 : decode cX8_isLeaf 13 = .ok (.iconst 0, 1) := by decide +kernel
theorem dX8_isLeaf_14 : decode cX8_isLeaf 14 = .ok (.ireturn, 1) := by decide +kernel
theorem dX8_hasLeaf_0 : decode cX8_hasLeaf 0 = .ok (.aload_n 0, 1) := by decide +kernel
theorem dX8_hasLeaf_1 : decode cX8_hasLeaf 1 = .ok (.iload_n 1, 1) := by decide +kernel
theorem dX8_hasLeaf_2 : decode cX8_hasLeaf 2 = .ok (.invokevirtual 66, 3) := by decide +kernel
theorem dX8_hasLeaf_5 : decode cX8_hasLeaf 5 = .ok (.ifCond .eq 15, 3) := by decide +kernel
theorem dX8_hasLeaf_8 : decode cX8_hasLeaf 8 = .ok (.aload_n 0, 1) := by decide +kernel
theorem dX8_hasLeaf_9 : decode cX8_hasLeaf 9 = .ok (.iload_n 1, 1) := by decide +kernel
theorem dX8_hasLeaf_10 : decode cX8_hasLeaf 10 = .ok (.invokevirtual 70, 3) := by decide +kernel
theorem dX8_hasLeaf_13 : decode cX8_hasLeaf 13 = .ok (.ifCond .eq 7, 3) := by decide +kernel
theorem dX8_hasLeaf_16 : decode cX8_hasLeaf 16 = .ok (.iconst 1, 1) := by decide +kernel
theorem dX8_hasLeaf_17 : decode cX8_hasLeaf 17 = .ok (.goto 4, 3) := by decide +kernel
theorem dX8_hasLeaf_20 : decode cX8_hasLeaf 20 = .ok (.iconst 0, 1) := by decide +kernel
theorem dX8_hasLeaf_21 : decode cX8_hasLeaf 21 = .ok (.ireturn, 1) := by decide +kernel
theorem dX8_mayHoldClass_0 : decode cX8_mayHoldClass 0 = .ok (.aload_n 0, 1) := by decide +kernel
theorem dX8_mayHoldClass_1 : decode cX8_mayHoldClass 1 = .ok (.iload_n 1, 1) := by decide +kernel
theorem dX8_mayHoldClass_2 : decode cX8_mayHoldClass 2 = .ok (.invokevirtual 66, 3) := by decide +kernel
theorem dX8_mayHoldClass_5 : decode cX8_mayHoldClass 5 = .ok (.ifCond .eq 18, 3) := by decide +kernel
theorem dX8_mayHoldClass_8 : decode cX8_mayHoldClass 8 = .ok (.aload_n 0, 1) := by decide +kernel
theorem dX8_mayHoldClass_9 : decode cX8_mayHoldClass 9 = .ok (.getfield 43, 3) := by decide +kernel
theorem dX8_mayHoldClass_12 : decode cX8_mayHoldClass 12 = .ok (.iload_n 1, 1) := by decide +kernel
theorem dX8_mayHoldClass_13 : decode cX8_mayHoldClass 13 = .ok (.iconst 3, 1) := by decide +kernel
theorem dX8_mayHoldClass_14 : decode cX8_mayHoldClass 14 = .ok (.imul, 1) := by decide +kernel
theorem dX8_mayHoldClass_15 : decode cX8_mayHoldClass 15 = .ok (.iconst 0, 1) := by decide +kernel
theorem dX8_mayHoldClass_16 : decode cX8_mayHoldClass 16 = .ok (.iadd, 1) := by decide +kernel
theorem dX8_mayHoldClass_17 : decode cX8_mayHoldClass 17 = .ok (.invokevirtual 73, 3) := by decide +kernel
theorem dX8_mayHoldClass_20 : decode cX8_mayHoldClass 20 = .ok (.ifCond .eq 5, 3) := by decide +kernel
theorem dX8_mayHoldClass_23 : decode cX8_mayHoldClass 23 = .ok (.iconst 0, 1) := by decide +kernel
theorem dX8_mayHoldClass_24 : decode cX8_mayHoldClass 24 = .ok (.ireturn, 1) := by decide +kernel
theorem dX8_mayHoldClass_25 : decode cX8_mayHoldClass 25 = .ok (.iconst 0, 1) := by decide +kernel
theorem dX8_mayHoldClass_26 : decode cX8_mayHoldClass 26 = .ok (.istore_n 2, 1) := by decide +kernel
theorem dX8_mayHoldClass_27 : decode cX8_mayHoldClass 27 = .ok (.iload_n 2, 1) := by decide +kernel
theorem dX8_mayHoldClass_28 : decode cX8_mayHoldClass 28 = .ok (.aload_n 0, 1) := by decide +kernel
theorem dX8_mayHoldClass_29 : decode cX8_mayHoldClass 29 = .ok (.getfield 15, 3) := by decide +kernel
theorem dX8_mayHoldClass_32 : decode cX8_mayHoldClass 32 = .ok (.if_icmp .ge 21, 3) := by decide +kernel
theorem dX8_mayHoldClass_35 : decode cX8_mayHoldClass 35 = .ok (.aload_n 0, 1) := by decide +kernel
theorem dX8_mayHoldClass_36 : decode cX8_mayHoldClass 36 = .ok (.getfield 28, 3) := by decide +kernel
theorem dX8_mayHoldClass_39 : decode cX8_mayHoldClass 39 = .ok (.iload_n 2, 1) := by decide +kernel
theorem dX8_mayHoldClass_40 : decode cX8_mayHoldClass 40 = .ok (.iaload, 1) := by decide +kernel
theorem dX8_mayHoldClass_41 : decode cX8_mayHoldClass 41 = .ok (.iload_n 1, 1) := by decide +kernel
theorem dX8_mayHoldClass_42 : decode cX8_mayHoldClass 42 = .ok (.if_icmp .ne 5, 3) := by decide +kernel
theorem dX8_mayHoldClass_45 : decode cX8_mayHoldClass 45 = .ok (.iconst 0, 1) := by decide +kernel
theorem dX8_mayHoldClass_46 : decode cX8_mayHoldClass 46 = .ok (.ireturn, 1) := by decide +kernel
theorem dX8_mayHoldClass_47 : decode cX8_mayHoldClass 47 = .ok (.iinc 2 1, 3) := by decide +kernel
theorem dX8_mayHoldClass_50 : decode cX8_mayHoldClass 50 = .ok (.goto (-23), 3) := by decide +kernel
theorem dX8_mayHoldClass_53 : decode cX8_mayHoldClass 53 = .ok (.iconst 1, 1) := by decide +kernel
theorem dX8_mayHoldClass_54 : decode cX8_mayHoldClass 54 = .ok (.ireturn, 1) := by decide +kernel
theorem dX8_addClass_0 : decode cX8_addClass 0 = .ok (.aload_n 0, 1) := by decide +kernel
theorem dX8_addClass_1 : decode cX8_addClass 1 = .ok (.getfield 18, 3) := by decide +kernel
theorem dX8_addClass_4 : decode cX8_addClass 4 = .ok (.aload_n 0, 1) := by decide +kernel
theorem dX8_addClass_5 : decode cX8_addClass 5 = .ok (.getfield 9, 3) := by decide +kernel
theorem dX8_addClass_8 : decode cX8_addClass 8 = .ok (.iload_n 1, 1) := by decide +kernel
theorem dX8_addClass_9 : decode cX8_addClass 9 = .ok (.iastore, 1) := by decide +kernel
theorem dX8_addClass_10 : decode cX8_addClass 10 = .ok (.aload_n 0, 1) := by decide +kernel
theorem dX8_addClass_11 : decode cX8_addClass 11 = .ok (.getfield 25, 3) := by decide +kernel
theorem dX8_addClass_14 : decode cX8_addClass 14 = .ok (.iload_n 1, 1) := by decide +kernel
theorem dX8_addClass_15 : decode cX8_addClass 15 = .ok (.bipush 12, 2) := by decide +kernel
theorem dX8_addClass_17 : decode cX8_addClass 17 = .ok (.imul, 1) := by decide +kernel
theorem dX8_addClass_18 : decode cX8_addClass 18 = .ok (.aload_n 0, 1) := by decide +kernel
theorem dX8_addClass_19 : decode cX8_addClass 19 = .ok (.getfield 22, 3) := by decide +kernel
theorem dX8_addClass_22 : decode cX8_addClass 22 = .ok (.iload_n 1, 1) := by decide +kernel
theorem dX8_addClass_23 : decode cX8_addClass 23 = .ok (.iaload, 1) := by decide +kernel
theorem dX8_addClass_24 : decode cX8_addClass 24 = .ok (.iadd, 1) := by decide +kernel
theorem dX8_addClass_25 : decode cX8_addClass 25 = .ok (.aload_n 0, 1) := by decide +kernel
theorem dX8_addClass_26 : decode cX8_addClass 26 = .ok (.getfield 9, 3) := by decide +kernel
theorem dX8_addClass_29 : decode cX8_addClass 29 = .ok (.iastore, 1) := by decide +kernel
theorem dX8_addClass_30 : decode cX8_addClass 30 = .ok (.aload_n 0, 1) := by decide +kernel
theorem dX8_addClass_31 : decode cX8_addClass 31 = .ok (.getfield 22, 3) := by decide +kernel
theorem dX8_addClass_34 : decode cX8_addClass 34 = .ok (.iload_n 1, 1) := by decide +kernel
theorem dX8_addClass_35 : decode cX8_addClass 35 = .ok (.dup2, 1) := by decide +kernel
theorem dX8_addClass_36 : decode cX8_addClass 36 = .ok (.iaload, 1) := by decide +kernel
theorem dX8_addClass_37 : decode cX8_addClass 37 = .ok (.iconst 1, 1) := by decide +kernel
theorem dX8_addClass_38 : decode cX8_addClass 38 = .ok (.iadd, 1) := by decide +kernel
theorem dX8_addClass_39 : decode cX8_addClass 39 = .ok (.iastore, 1) := by decide +kernel
theorem dX8_addClass_40 : decode cX8_addClass 40 = .ok (.aload_n 0, 1) := by decide +kernel
theorem dX8_addClass_41 : decode cX8_addClass 41 = .ok (.getfield 43, 3) := by decide +kernel
theorem dX8_addClass_44 : decode cX8_addClass 44 = .ok (.aload_n 0, 1) := by decide +kernel
theorem dX8_addClass_45 : decode cX8_addClass 45 = .ok (.getfield 9, 3) := by decide +kernel
theorem dX8_addClass_48 : decode cX8_addClass 48 = .ok (.iconst 3, 1) := by decide +kernel
theorem dX8_addClass_49 : decode cX8_addClass 49 = .ok (.imul, 1) := by decide +kernel
theorem dX8_addClass_50 : decode cX8_addClass 50 = .ok (.iconst 1, 1) := by decide +kernel
theorem dX8_addClass_51 : decode cX8_addClass 51 = .ok (.iadd, 1) := by decide +kernel
theorem dX8_addClass_52 : decode cX8_addClass 52 = .ok (.bipush 10, 2) := by decide +kernel
theorem dX8_addClass_54 : decode cX8_addClass 54 = .ok (.iconst 0, 1) := by decide +kernel
theorem dX8_addClass_55 : decode cX8_addClass 55 = .ok (.bipush 10, 2) := by decide +kernel
theorem dX8_addClass_57 : decode cX8_addClass 57 = .ok (.invokevirtual 76, 3) := by decide +kernel
theorem dX8_addClass_60 : decode cX8_addClass 60 = .ok (.aload_n 0, 1) := by decide +kernel
theorem dX8_addClass_61 : decode cX8_addClass 61 = .ok (.dup, 1) := by decide +kernel
theorem dX8_addClass_62 : decode cX8_addClass 62 = .ok (.getfield 9, 3) := by decide +kernel
theorem dX8_addClass_65 : decode cX8_addClass 65 = .ok (.iconst 1, 1) := by decide +kernel
theorem dX8_addClass_66 : decode cX8_addClass 66 = .ok (.iadd, 1) := by decide +kernel
theorem dX8_addClass_67 : decode cX8_addClass 67 = .ok (.putfield 9, 3) := by decide +kernel
theorem dX8_addClass_70 : decode cX8_addClass 70 = .ok (.return_, 1) := by decide +kernel
theorem dX8_addFlow_0 : decode cX8_addFlow 0 = .ok (.aload_n 0, 1) := by decide +kernel
theorem dX8_addFlow_1 : decode cX8_addFlow 1 = .ok (.getfield 28, 3) := by decide +kernel
theorem dX8_addFlow_4 : decode cX8_addFlow 4 = .ok (.aload_n 0, 1) := by decide +kernel
theorem dX8_addFlow_5 : decode cX8_addFlow 5 = .ok (.getfield 15, 3) := by decide +kernel
theorem dX8_addFlow_8 : decode cX8_addFlow 8 = .ok (.iload_n 1, 1) := by decide +kernel
theorem dX8_addFlow_9 : decode cX8_addFlow 9 = .ok (.iastore, 1) := by decide +kernel
theorem dX8_addFlow_10 : decode cX8_addFlow 10 = .ok (.aload_n 0, 1) := by decide +kernel
theorem dX8_addFlow_11 : decode cX8_addFlow 11 = .ok (.getfield 31, 3) := by decide +kernel
theorem dX8_addFlow_14 : decode cX8_addFlow 14 = .ok (.aload_n 0, 1) := by decide +kernel
theorem dX8_addFlow_15 : decode cX8_addFlow 15 = .ok (.getfield 15, 3) := by decide +kernel
theorem dX8_addFlow_18 : decode cX8_addFlow 18 = .ok (.iload_n 2, 1) := by decide +kernel
theorem dX8_addFlow_19 : decode cX8_addFlow 19 = .ok (.iastore, 1) := by decide +kernel
theorem dX8_addFlow_20 : decode cX8_addFlow 20 = .ok (.aload_n 0, 1) := by decide +kernel
theorem dX8_addFlow_21 : decode cX8_addFlow 21 = .ok (.getfield 34, 3) := by decide +kernel
theorem dX8_addFlow_24 : decode cX8_addFlow 24 = .ok (.aload_n 0, 1) := by decide +kernel
theorem dX8_addFlow_25 : decode cX8_addFlow 25 = .ok (.getfield 15, 3) := by decide +kernel
theorem dX8_addFlow_28 : decode cX8_addFlow 28 = .ok (.iload_n 3, 1) := by decide +kernel
theorem dX8_addFlow_29 : decode cX8_addFlow 29 = .ok (.iastore, 1) := by decide +kernel
theorem dX8_addFlow_30 : decode cX8_addFlow 30 = .ok (.aload_n 0, 1) := by decide +kernel
theorem dX8_addFlow_31 : decode cX8_addFlow 31 = .ok (.getfield 37, 3) := by decide +kernel
theorem dX8_addFlow_34 : decode cX8_addFlow 34 = .ok (.aload_n 0, 1) := by decide +kernel
theorem dX8_addFlow_35 : decode cX8_addFlow 35 = .ok (.getfield 15, 3) := by decide +kernel
theorem dX8_addFlow_38 : decode cX8_addFlow 38 = .ok (.iload 4, 2) := by decide +kernel
theorem dX8_addFlow_40 : decode cX8_addFlow 40 = .ok (.iastore, 1) := by decide +kernel
theorem dX8_addFlow_41 : decode cX8_addFlow 41 = .ok (.aload_n 0, 1) := by decide +kernel
theorem dX8_addFlow_42 : decode cX8_addFlow 42 = .ok (.dup, 1) := by decide +kernel
theorem dX8_addFlow_43 : decode cX8_addFlow 43 = .ok (.getfield 15, 3) := by decide +kernel
theorem dX8_addFlow_46 : decode cX8_addFlow 46 = .ok (.iconst 1, 1) := by decide +kernel
theorem dX8_addFlow_47 : decode cX8_addFlow 47 = .ok (.iadd, 1) := by decide +kernel
theorem dX8_addFlow_48 : decode cX8_addFlow 48 = .ok (.putfield 15, 3) := by decide +kernel
theorem dX8_addFlow_51 : decode cX8_addFlow 51 = .ok (.return_, 1) := by decide +kernel
theorem dX8_untilTold_0 : decode cX8_untilTold 0 = .ok (.aload_n 0, 1) := by decide +kernel
theorem dX8_untilTold_1 : decode cX8_untilTold 1 = .ok (.getfield 31, 3) := by decide +kernel
theorem dX8_untilTold_4 : decode cX8_untilTold 4 = .ok (.iload_n 1, 1) := by decide +kernel
theorem dX8_untilTold_5 : decode cX8_untilTold 5 = .ok (.iaload, 1) := by decide +kernel
theorem dX8_untilTold_6 : decode cX8_untilTold 6 = .ok (.iconst 1, 1) := by decide +kernel
theorem dX8_untilTold_7 : decode cX8_untilTold 7 = .ok (.if_icmp .lt 18, 3) := by decide +kernel
theorem dX8_untilTold_10 : decode cX8_untilTold 10 = .ok (.aload_n 0, 1) := by decide +kernel
theorem dX8_untilTold_11 : decode cX8_untilTold 11 = .ok (.getfield 34, 3) := by decide +kernel
theorem dX8_untilTold_14 : decode cX8_untilTold 14 = .ok (.iload_n 1, 1) := by decide +kernel
theorem dX8_untilTold_15 : decode cX8_untilTold 15 = .ok (.iaload, 1) := by decide +kernel
theorem dX8_untilTold_16 : decode cX8_untilTold 16 = .ok (.aload_n 0, 1) := by decide +kernel
theorem dX8_untilTold_17 : decode cX8_untilTold 17 = .ok (.getfield 31, 3) := by decide +kernel
theorem dX8_untilTold_20 : decode cX8_untilTold 20 = .ok (.iload_n 1, 1) := by decide +kernel
theorem dX8_untilTold_21 : decode cX8_untilTold 21 = .ok (.iaload, 1) := by decide +kernel
theorem dX8_untilTold_22 : decode cX8_untilTold 22 = .ok (.if_icmp .lt 6, 3) := by decide +kernel
theorem dX8_untilTold_25 : decode cX8_untilTold 25 = .ok (.ldc 80, 2) := by decide +kernel
theorem dX8_untilTold_27 : decode cX8_untilTold 27 = .ok (.ireturn, 1) := by decide +kernel
theorem dX8_untilTold_28 : decode cX8_untilTold 28 = .ok (.iload_n 2, 1) := by decide +kernel
theorem dX8_untilTold_29 : decode cX8_untilTold 29 = .ok (.aload_n 0, 1) := by decide +kernel
theorem dX8_untilTold_30 : decode cX8_untilTold 30 = .ok (.getfield 31, 3) := by decide +kernel
theorem dX8_untilTold_33 : decode cX8_untilTold 33 = .ok (.iload_n 1, 1) := by decide +kernel
theorem dX8_untilTold_34 : decode cX8_untilTold 34 = .ok (.iaload, 1) := by decide +kernel
theorem dX8_untilTold_35 : decode cX8_untilTold 35 = .ok (.irem, 1) := by decide +kernel
theorem dX8_untilTold_36 : decode cX8_untilTold 36 = .ok (.istore_n 3, 1) := by decide +kernel
theorem dX8_untilTold_37 : decode cX8_untilTold 37 = .ok (.iload_n 3, 1) := by decide +kernel
theorem dX8_untilTold_38 : decode cX8_untilTold 38 = .ok (.aload_n 0, 1) := by decide +kernel
theorem dX8_untilTold_39 : decode cX8_untilTold 39 = .ok (.getfield 34, 3) := by decide +kernel
theorem dX8_untilTold_42 : decode cX8_untilTold 42 = .ok (.iload_n 1, 1) := by decide +kernel
theorem dX8_untilTold_43 : decode cX8_untilTold 43 = .ok (.iaload, 1) := by decide +kernel
theorem dX8_untilTold_44 : decode cX8_untilTold 44 = .ok (.if_icmp .gt 14, 3) := by decide +kernel
theorem dX8_untilTold_47 : decode cX8_untilTold 47 = .ok (.aload_n 0, 1) := by decide +kernel
theorem dX8_untilTold_48 : decode cX8_untilTold 48 = .ok (.getfield 34, 3) := by decide +kernel
theorem dX8_untilTold_51 : decode cX8_untilTold 51 = .ok (.iload_n 1, 1) := by decide +kernel
theorem dX8_untilTold_52 : decode cX8_untilTold 52 = .ok (.iaload, 1) := by decide +kernel
theorem dX8_untilTold_53 : decode cX8_untilTold 53 = .ok (.iload_n 3, 1) := by decide +kernel
theorem dX8_untilTold_54 : decode cX8_untilTold 54 = .ok (.isub, 1) := by decide +kernel
theorem dX8_untilTold_55 : decode cX8_untilTold 55 = .ok (.goto 18, 3) := by decide +kernel
theorem dX8_untilTold_58 : decode cX8_untilTold 58 = .ok (.aload_n 0, 1) := by decide +kernel
theorem dX8_untilTold_59 : decode cX8_untilTold 59 = .ok (.getfield 34, 3) := by decide +kernel
theorem dX8_untilTold_62 : decode cX8_untilTold 62 = .ok (.iload_n 1, 1) := by decide +kernel
theorem dX8_untilTold_63 : decode cX8_untilTold 63 = .ok (.iaload, 1) := by decide +kernel
theorem dX8_untilTold_64 : decode cX8_untilTold 64 = .ok (.iload_n 3, 1) := by decide +kernel
theorem dX8_untilTold_65 : decode cX8_untilTold 65 = .ok (.isub, 1) := by decide +kernel
theorem dX8_untilTold_66 : decode cX8_untilTold 66 = .ok (.aload_n 0, 1) := by decide +kernel
theorem dX8_untilTold_67 : decode cX8_untilTold 67 = .ok (.getfield 31, 3) := by decide +kernel
theorem dX8_untilTold_70 : decode cX8_untilTold 70 = .ok (.iload_n 1, 1) := by decide +kernel
theorem dX8_untilTold_71 : decode cX8_untilTold 71 = .ok (.iaload, 1) := by decide +kernel
theorem dX8_untilTold_72 : decode cX8_untilTold 72 = .ok (.iadd, 1) := by decide +kernel
theorem dX8_untilTold_73 : decode cX8_untilTold 73 = .ok (.ireturn, 1) := by decide +kernel
theorem dX9_init_0 : decode cX9_init 0 = .ok (.aload_n 0, 1) := by decide +kernel
theorem dX9_init_1 : decode cX9_init 1 = .ok (.invokespecial 3, 3) := by decide +kernel
theorem dX9_init_4 : decode cX9_init 4 = .ok (.aload_n 0, 1) := by decide +kernel
theorem dX9_init_5 : decode cX9_init 5 = .ok (.iconst 0, 1) := by decide +kernel
theorem dX9_init_6 : decode cX9_init 6 = .ok (.putfield 9, 3) := by decide +kernel
theorem dX9_init_9 : decode cX9_init 9 = .ok (.aload_n 0, 1) := by decide +kernel
theorem dX9_init_10 : decode cX9_init 10 = .ok (.iconst 0, 1) := by decide +kernel
theorem dX9_init_11 : decode cX9_init 11 = .ok (.putfield 15, 3) := by decide +kernel
theorem dX9_init_14 : decode cX9_init 14 = .ok (.aload_n 0, 1) := by decide +kernel
theorem dX9_init_15 : decode cX9_init 15 = .ok (.iconst 0, 1) := by decide +kernel
theorem dX9_init_16 : decode cX9_init 16 = .ok (.putfield 18, 3) := by decide +kernel
theorem dX9_init_19 : decode cX9_init 19 = .ok (.aload_n 0, 1) := by decide +kernel
theorem dX9_init_20 : decode cX9_init 20 = .ok (.iconst 0, 1) := by decide +kernel
theorem dX9_init_21 : decode cX9_init 21 = .ok (.putfield 21, 3) := by decide +kernel
theorem dX9_init_24 : decode cX9_init 24 = .ok (.aload_n 0, 1) := by decide +kernel
theorem dX9_init_25 : decode cX9_init 25 = .ok (.iconst 0, 1) := by decide +kernel
theorem dX9_init_26 : decode cX9_init 26 = .ok (.putfield 24, 3) := by decide +kernel
theorem dX9_init_29 : decode cX9_init 29 = .ok (.aload_n 0, 1) := by decide +kernel
theorem dX9_init_30 : decode cX9_init 30 = .ok (.aload_n 1, 1) := by decide +kernel
theorem dX9_init_31 : decode cX9_init 31 = .ok (.putfield 27, 3) := by decide +kernel
theorem dX9_init_34 : decode cX9_init 34 = .ok (.aload_n 0, 1) := by decide +kernel
theorem dX9_init_35 : decode cX9_init 35 = .ok (.aload_n 2, 1) := by decide +kernel
theorem dX9_init_36 : decode cX9_init 36 = .ok (.putfield 31, 3) := by decide +kernel
theorem dX9_init_39 : decode cX9_init 39 = .ok (.return_, 1) := by decide +kernel
theorem dX9_place_0 : decode cX9_place 0 = .ok (.aload_n 0, 1) := by decide +kernel
theorem dX9_place_1 : decode cX9_place 1 = .ok (.getfield 15, 3) := by decide +kernel
theorem dX9_place_4 : decode cX9_place 4 = .ok (.ireturn, 1) := by decide +kernel
theorem dX9_read_0 : decode cX9_read 0 = .ok (.aload_n 0, 1) := by decide +kernel
theorem dX9_read_1 : decode cX9_read 1 = .ok (.iload_n 1, 1) := by decide +kernel
theorem dX9_read_2 : decode cX9_read 2 = .ok (.putfield 9, 3) := by decide +kernel
theorem dX9_read_5 : decode cX9_read 5 = .ok (.aload_n 0, 1) := by decide +kernel
theorem dX9_read_6 : decode cX9_read 6 = .ok (.iconst 0, 1) := by decide +kernel
theorem dX9_read_7 : decode cX9_read 7 = .ok (.putfield 18, 3) := by decide +kernel
theorem dX9_read_10 : decode cX9_read 10 = .ok (.aload_n 0, 1) := by decide +kernel
theorem dX9_read_11 : decode cX9_read 11 = .ok (.getfield 31, 3) := by decide +kernel
theorem dX9_read_14 : decode cX9_read 14 = .ok (.invokevirtual 35, 3) := by decide +kernel
theorem dX9_read_17 : decode cX9_read 17 = .ok (.aload_n 0, 1) := by decide +kernel
theorem dX9_read_18 : decode cX9_read 18 = .ok (.invokevirtual 40, 3) := by decide +kernel
theorem dX9_read_21 : decode cX9_read 21 = .ok (.iconst 0, 1) := by decide +kernel
theorem dX9_read_22 : decode cX9_read 22 = .ok (.istore_n 2, 1) := by decide +kernel
theorem dX9_read_23 : decode cX9_read 23 = .ok (.iload_n 2, 1) := by decide +kernel
theorem dX9_read_24 : decode cX9_read 24 = .ok (.aload_n 0, 1) := by decide +kernel
theorem dX9_read_25 : decode cX9_read 25 = .ok (.getfield 9, 3) := by decide +kernel
theorem dX9_read_28 : decode cX9_read 28 = .ok (.if_icmp .gt 81, 3) := by decide +kernel
theorem dX9_read_31 : decode cX9_read 31 = .ok (.aload_n 0, 1) := by decide +kernel
theorem dX9_read_32 : decode cX9_read 32 = .ok (.getfield 21, 3) := by decide +kernel
theorem dX9_read_35 : decode cX9_read 35 = .ok (.ifCond .eq 74, 3) := by decide +kernel
theorem dX9_read_38 : decode cX9_read 38 = .ok (.iconst 1, 1) := by decide +kernel
theorem dX9_read_39 : decode cX9_read 39 = .ok (.istore_n 3, 1) := by decide +kernel
theorem dX9_read_40 : decode cX9_read 40 = .ok (.aload_n 0, 1) := by decide +kernel
theorem dX9_read_41 : decode cX9_read 41 = .ok (.getfield 21, 3) := by decide +kernel
theorem dX9_read_44 : decode cX9_read 44 = .ok (.iconst 4, 1) := by decide +kernel
theorem dX9_read_45 : decode cX9_read 45 = .ok (.if_icmp .ne 35, 3) := by decide +kernel
theorem dX9_read_48 : decode cX9_read 48 = .ok (.aload_n 0, 1) := by decide +kernel
theorem dX9_read_49 : decode cX9_read 49 = .ok (.invokevirtual 43, 3) := by decide +kernel
theorem dX9_read_52 : decode cX9_read 52 = .ok (.istore_n 3, 1) := by decide +kernel
theorem dX9_read_53 : decode cX9_read 53 = .ok (.iload_n 3, 1) := by decide +kernel
theorem dX9_read_54 : decode cX9_read 54 = .ok (.ifCond .ne 21, 3) := by decide +kernel
theorem dX9_read_57 : decode cX9_read 57 = .ok (.aload_n 0, 1) := by decide +kernel
theorem dX9_read_58 : decode cX9_read 58 = .ok (.aload_n 0, 1) := by decide +kernel
theorem dX9_read_59 : decode cX9_read 59 = .ok (.getfield 31, 3) := by decide +kernel
theorem dX9_read_62 : decode cX9_read 62 = .ok (.getfield 47, 3) := by decide +kernel
theorem dX9_read_65 : decode cX9_read 65 = .ok (.iconst 1, 1) := by decide +kernel
theorem dX9_read_66 : decode cX9_read 66 = .ok (.isub, 1) := by decide +kernel
theorem dX9_read_67 : decode cX9_read 67 = .ok (.iconst 3, 1) := by decide +kernel
theorem dX9_read_68 : decode cX9_read 68 = .ok (.imul, 1) := by decide +kernel
theorem dX9_read_69 : decode cX9_read 69 = .ok (.invokevirtual 50, 3) := by decide +kernel
theorem dX9_read_72 : decode cX9_read 72 = .ok (.goto 4, 3) := by decide +kernel
theorem dX9_read_75 : decode cX9_read 75 = .ok (.iload_n 3, 1) := by decide +kernel
theorem dX9_read_76 : decode cX9_read 76 = .ok (.istore_n 3, 1) := by decide +kernel
theorem dX9_read_77 : decode cX9_read 77 = .ok (.goto 16, 3) := by decide +kernel
theorem dX9_read_80 : decode cX9_read 80 = .ok (.aload_n 0, 1) := by decide +kernel
theorem dX9_read_81 : decode cX9_read 81 = .ok (.getfield 21, 3) := by decide +kernel
theorem dX9_read_84 : decode cX9_read 84 = .ok (.iconst 5, 1) := by decide +kernel
theorem dX9_read_85 : decode cX9_read 85 = .ok (.if_icmp .ne 8, 3) := by decide +kernel
theorem dX9_read_88 : decode cX9_read 88 = .ok (.aload_n 0, 1) := by decide +kernel
theorem dX9_read_89 : decode cX9_read 89 = .ok (.invokevirtual 54, 3) := by decide +kernel
theorem dX9_read_92 : decode cX9_read 92 = .ok (.istore_n 3, 1) := by decide +kernel
theorem dX9_read_93 : decode cX9_read 93 = .ok (.iload_n 3, 1) := by decide +kernel
theorem dX9_read_94 : decode cX9_read 94 = .ok (.ifCond .eq 5, 3) := by decide +kernel
theorem dX9_read_97 : decode cX9_read 97 = .ok (.iload_n 3, 1) := by decide +kernel
theorem dX9_read_98 : decode cX9_read 98 = .ok (.ireturn, 1) := by decide +kernel
theorem dX9_read_99 : decode cX9_read 99 = .ok (.aload_n 0, 1) := by decide +kernel
theorem dX9_read_100 : decode cX9_read 100 = .ok (.invokevirtual 40, 3) := by decide +kernel
theorem dX9_read_103 : decode cX9_read 103 = .ok (.iinc 2 1, 3) := by decide +kernel
theorem dX9_read_106 : decode cX9_read 106 = .ok (.goto (-83), 3) := by decide +kernel
theorem dX9_read_109 : decode cX9_read 109 = .ok (.iconst 0, 1) := by decide +kernel
theorem dX9_read_110 : decode cX9_read 110 = .ok (.ireturn, 1) := by decide +kernel
theorem dX9_readClass_0 : decode cX9_readClass 0 = .ok (.aload_n 0, 1) := by decide +kernel
theorem dX9_readClass_1 : decode cX9_readClass 1 = .ok (.getfield 31, 3) := by decide +kernel
theorem dX9_readClass_4 : decode cX9_readClass 4 = .ok (.getfield 47, 3) := by decide +kernel
theorem dX9_readClass_7 : decode cX9_readClass 7 = .ok (.bipush 12, 2) := by decide +kernel
theorem dX9_readClass_9 : decode cX9_readClass 9 = .ok (.if_icmp .lt 5, 3) := by decide +kernel
theorem dX9_readClass_12 : decode cX9_readClass 12 = .ok (.iconst 2, 1) := by decide +kernel
theorem dX9_readClass_13 : decode cX9_readClass 13 = .ok (.ireturn, 1) := by decide +kernel
theorem dX9_readClass_14 : decode cX9_readClass 14 = .ok (.bipush 12, 2) := by decide +kernel
theorem dX9_readClass_16 : decode cX9_readClass 16 = .ok (.istore_n 1, 1) := by decide +kernel
theorem dX9_readClass_17 : decode cX9_readClass 17 = .ok (.aload_n 0, 1) := by decide +kernel
theorem dX9_readClass_18 : decode cX9_readClass 18 = .ok (.invokevirtual 40, 3) := by decide +kernel
theorem dX9_readClass_21 : decode cX9_readClass 21 = .ok (.aload_n 0, 1) := by decide +kernel
theorem dX9_readClass_22 : decode cX9_readClass 22 = .ok (.getfield 21, 3) := by decide +kernel
theorem dX9_readClass_25 : decode cX9_readClass 25 = .ok (.bipush 6, 2) := by decide +kernel
theorem dX9_readClass_27 : decode cX9_readClass 27 = .ok (.if_icmp .ne 42, 3) := by decide +kernel
theorem dX9_readClass_30 : decode cX9_readClass 30 = .ok (.aload_n 0, 1) := by decide +kernel
theorem dX9_readClass_31 : decode cX9_readClass 31 = .ok (.iconst 0, 1) := by decide +kernel
theorem dX9_readClass_32 : decode cX9_readClass 32 = .ok (.bipush 11, 2) := by decide +kernel
theorem dX9_readClass_34 : decode cX9_readClass 34 = .ok (.invokevirtual 57, 3) := by decide +kernel
theorem dX9_readClass_37 : decode cX9_readClass 37 = .ok (.istore_n 2, 1) := by decide +kernel
theorem dX9_readClass_38 : decode cX9_readClass 38 = .ok (.iload_n 2, 1) := by decide +kernel
theorem dX9_readClass_39 : decode cX9_readClass 39 = .ok (.ifCond .eq 5, 3) := by decide +kernel
theorem dX9_readClass_42 : decode cX9_readClass 42 = .ok (.iload_n 2, 1) := by decide +kernel
theorem dX9_readClass_43 : decode cX9_readClass 43 = .ok (.ireturn, 1) := by decide +kernel
theorem dX9_readClass_44 : decode cX9_readClass 44 = .ok (.aload_n 0, 1) := by decide +kernel
theorem dX9_readClass_45 : decode cX9_readClass 45 = .ok (.getfield 31, 3) := by decide +kernel
theorem dX9_readClass_48 : decode cX9_readClass 48 = .ok (.aload_n 0, 1) := by decide +kernel
theorem dX9_readClass_49 : decode cX9_readClass 49 = .ok (.getfield 24, 3) := by decide +kernel
theorem dX9_readClass_52 : decode cX9_readClass 52 = .ok (.invokevirtual 61, 3) := by decide +kernel
theorem dX9_readClass_55 : decode cX9_readClass 55 = .ok (.ifCond .ne 5, 3) := by decide +kernel
theorem dX9_readClass_58 : decode cX9_readClass 58 = .ok (.iconst 3, 1) := by decide +kernel
theorem dX9_readClass_59 : decode cX9_readClass 59 = .ok (.ireturn, 1) := by decide +kernel
theorem dX9_readClass_60 : decode cX9_readClass 60 = .ok (.aload_n 0, 1) := by decide +kernel
theorem dX9_readClass_61 : decode cX9_readClass 61 = .ok (.getfield 24, 3) := by decide +kernel
theorem dX9_readClass_64 : decode cX9_readClass 64 = .ok (.istore_n 1, 1) := by decide +kernel
theorem dX9_readClass_65 : decode cX9_readClass 65 = .ok (.aload_n 0, 1) := by decide +kernel
theorem dX9_readClass_66 : decode cX9_readClass 66 = .ok (.invokevirtual 40, 3) := by decide +kernel
theorem dX9_readClass_69 : decode cX9_readClass 69 = .ok (.aload_n 0, 1) := by decide +kernel
theorem dX9_readClass_70 : decode cX9_readClass 70 = .ok (.getfield 31, 3) := by decide +kernel
theorem dX9_readClass_73 : decode cX9_readClass 73 = .ok (.iload_n 1, 1) := by decide +kernel
theorem dX9_readClass_74 : decode cX9_readClass 74 = .ok (.invokevirtual 65, 3) := by decide +kernel
theorem dX9_readClass_77 : decode cX9_readClass 77 = .ok (.iconst 0, 1) := by decide +kernel
theorem dX9_readClass_78 : decode cX9_readClass 78 = .ok (.ireturn, 1) := by decide +kernel
theorem dX9_readCurves_0 : decode cX9_readCurves 0 = .ok (.iconst 0, 1) := by decide +kernel
theorem dX9_readCurves_1 : decode cX9_readCurves 1 = .ok (.istore_n 2, 1) := by decide +kernel
theorem dX9_readCurves_2 : decode cX9_readCurves 2 = .ok (.iconst 0, 1) := by decide +kernel
theorem dX9_readCurves_3 : decode cX9_readCurves 3 = .ok (.istore_n 3, 1) := by decide +kernel
theorem dX9_readCurves_4 : decode cX9_readCurves 4 = .ok (.iload_n 3, 1) := by decide +kernel
theorem dX9_readCurves_5 : decode cX9_readCurves 5 = .ok (.iconst 3, 1) := by decide +kernel
theorem dX9_readCurves_6 : decode cX9_readCurves 6 = .ok (.if_icmp .gt 73, 3) := by decide +kernel
theorem dX9_readCurves_9 : decode cX9_readCurves 9 = .ok (.aload_n 0, 1) := by decide +kernel
theorem dX9_readCurves_10 : decode cX9_readCurves 10 = .ok (.getfield 21, 3) := by decide +kernel
theorem dX9_readCurves_13 : decode cX9_readCurves 13 = .ok (.iconst 3, 1) := by decide +kernel
theorem dX9_readCurves_14 : decode cX9_readCurves 14 = .ok (.if_icmp .eq 65, 3) := by decide +kernel
theorem dX9_readCurves_17 : decode cX9_readCurves 17 = .ok (.aload_n 0, 1) := by decide +kernel
theorem dX9_readCurves_18 : decode cX9_readCurves 18 = .ok (.getfield 21, 3) := by decide +kernel
theorem dX9_readCurves_21 : decode cX9_readCurves 21 = .ok (.bipush 7, 2) := by decide +kernel
theorem dX9_readCurves_23 : decode cX9_readCurves 23 = .ok (.isub, 1) := by decide +kernel
theorem dX9_readCurves_24 : decode cX9_readCurves 24 = .ok (.istore 4, 2) := by decide +kernel
theorem dX9_readCurves_26 : decode cX9_readCurves 26 = .ok (.iload 4, 2) := by decide +kernel
theorem dX9_readCurves_28 : decode cX9_readCurves 28 = .ok (.ifCond .ge 5, 3) := by decide +kernel
theorem dX9_readCurves_31 : decode cX9_readCurves 31 = .ok (.iconst 1, 1) := by decide +kernel
theorem dX9_readCurves_32 : decode cX9_readCurves 32 = .ok (.ireturn, 1) := by decide +kernel
theorem dX9_readCurves_33 : decode cX9_readCurves 33 = .ok (.iload_n 2, 1) := by decide +kernel
theorem dX9_readCurves_34 : decode cX9_readCurves 34 = .ok (.iload 4, 2) := by decide +kernel
theorem dX9_readCurves_36 : decode cX9_readCurves 36 = .ok (.ishr, 1) := by decide +kernel
theorem dX9_readCurves_37 : decode cX9_readCurves 37 = .ok (.iconst 1, 1) := by decide +kernel
theorem dX9_readCurves_38 : decode cX9_readCurves 38 = .ok (.iand, 1) := by decide +kernel
theorem dX9_readCurves_39 : decode cX9_readCurves 39 = .ok (.ifCond .eq 5, 3) := by decide +kernel
theorem dX9_readCurves_42 : decode cX9_readCurves 42 = .ok (.iconst 5, 1) := by decide +kernel
theorem dX9_readCurves_43 : decode cX9_readCurves 43 = .ok (.ireturn, 1) := by decide +kernel
theorem dX9_readCurves_44 : decode cX9_readCurves 44 = .ok (.iload_n 2, 1) := by decide +kernel
theorem dX9_readCurves_45 : decode cX9_readCurves 45 = .ok (.iconst 1, 1) := by decide +kernel
theorem dX9_readCurves_46 : decode cX9_readCurves 46 = .ok (.iload 4, 2) := by decide +kernel
theorem dX9_readCurves_48 : decode cX9_readCurves 48 = .ok (.ishl, 1) := by decide +kernel
theorem dX9_readCurves_49 : decode cX9_readCurves 49 = .ok (.ior, 1) := by decide +kernel
theorem dX9_readCurves_50 : decode cX9_readCurves 50 = .ok (.istore_n 2, 1) := by decide +kernel
theorem dX9_readCurves_51 : decode cX9_readCurves 51 = .ok (.aload_n 0, 1) := by decide +kernel
theorem dX9_readCurves_52 : decode cX9_readCurves 52 = .ok (.iload_n 1, 1) := by decide +kernel
theorem dX9_readCurves_53 : decode cX9_readCurves 53 = .ok (.iload 4, 2) := by decide +kernel
theorem dX9_readCurves_55 : decode cX9_readCurves 55 = .ok (.iadd, 1) := by decide +kernel
theorem dX9_readCurves_56 : decode cX9_readCurves 56 = .ok (.invokevirtual 69, 3) := by decide +kernel
theorem dX9_readCurves_59 : decode cX9_readCurves 59 = .ok (.istore 5, 2) := by decide +kernel
theorem dX9_readCurves_61 : decode cX9_readCurves 61 = .ok (.iload 5, 2) := by decide +kernel
theorem dX9_readCurves_63 : decode cX9_readCurves 63 = .ok (.ifCond .eq 6, 3) := by decide +kernel
theorem dX9_readCurves_66 : decode cX9_readCurves 66 = .ok (.iload 5, 2) := by decide +kernel
theorem dX9_readCurves_68 : decode cX9_readCurves 68 = .ok (.ireturn, 1) := by decide +kernel
theorem dX9_readCurves_69 : decode cX9_readCurves 69 = .ok (.aload_n 0, 1) := by decide +kernel
theorem dX9_readCurves_70 : decode cX9_readCurves 70 = .ok (.invokevirtual 40, 3) := by decide +kernel
theorem dX9_readCurves_73 : decode cX9_readCurves 73 = .ok (.iinc 3 1, 3) := by decide +kernel
theorem dX9_readCurves_76 : decode cX9_readCurves 76 = .ok (.goto (-72), 3) := by decide +kernel
theorem dX9_readCurves_79 : decode cX9_readCurves 79 = .ok (.iconst 0, 1) := by decide +kernel
theorem dX9_readCurves_80 : decode cX9_readCurves 80 = .ok (.ireturn, 1) := by decide +kernel
theorem dX9_readCurve_0 : decode cX9_readCurve 0 = .ok (.aload_n 0, 1) := by decide +kernel
theorem dX9_readCurve_1 : decode cX9_readCurve 1 = .ok (.iconst 0, 1) := by decide +kernel
theorem dX9_readCurve_2 : decode cX9_readCurve 2 = .ok (.bipush 100, 2) := by decide +kernel
theorem dX9_readCurve_4 : decode cX9_readCurve 4 = .ok (.invokevirtual 57, 3) := by decide +kernel
theorem dX9_readCurve_7 : decode cX9_readCurve 7 = .ok (.istore_n 2, 1) := by decide +kernel
theorem dX9_readCurve_8 : decode cX9_readCurve 8 = .ok (.aload_n 0, 1) := by decide +kernel
theorem dX9_readCurve_9 : decode cX9_readCurve 9 = .ok (.getfield 24, 3) := by decide +kernel
theorem dX9_readCurve_12 : decode cX9_readCurve 12 = .ok (.istore_n 3, 1) := by decide +kernel
theorem dX9_readCurve_13 : decode cX9_readCurve 13 = .ok (.iload_n 2, 1) := by decide +kernel
theorem dX9_readCurve_14 : decode cX9_readCurve 14 = .ok (.ifCond .ne 11, 3) := by decide +kernel
theorem dX9_readCurve_17 : decode cX9_readCurve 17 = .ok (.aload_n 0, 1) := by decide +kernel
theorem dX9_readCurve_18 : decode cX9_readCurve 18 = .ok (.iconst 0, 1) := by decide +kernel
theorem dX9_readCurve_19 : decode cX9_readCurve 19 = .ok (.bipush 30, 2) := by decide +kernel
theorem dX9_readCurve_21 : decode cX9_readCurve 21 = .ok (.invokevirtual 57, 3) := by decide +kernel
theorem dX9_readCurve_24 : decode cX9_readCurve 24 = .ok (.istore_n 2, 1) := by decide +kernel
theorem dX9_readCurve_25 : decode cX9_readCurve 25 = .ok (.aload_n 0, 1) := by decide +kernel
theorem dX9_readCurve_26 : decode cX9_readCurve 26 = .ok (.getfield 24, 3) := by decide +kernel
theorem dX9_readCurve_29 : decode cX9_readCurve 29 = .ok (.istore 4, 2) := by decide +kernel
theorem dX9_readCurve_31 : decode cX9_readCurve 31 = .ok (.iload_n 2, 1) := by decide +kernel
theorem dX9_readCurve_32 : decode cX9_readCurve 32 = .ok (.ifCond .ne 11, 3) := by decide +kernel
theorem dX9_readCurve_35 : decode cX9_readCurve 35 = .ok (.aload_n 0, 1) := by decide +kernel
theorem dX9_readCurve_36 : decode cX9_readCurve 36 = .ok (.iconst 1, 1) := by decide +kernel
theorem dX9_readCurve_37 : decode cX9_readCurve 37 = .ok (.bipush 100, 2) := by decide +kernel
theorem dX9_readCurve_39 : decode cX9_readCurve 39 = .ok (.invokevirtual 57, 3) := by decide +kernel
theorem dX9_readCurve_42 : decode cX9_readCurve 42 = .ok (.istore_n 2, 1) := by decide +kernel
theorem dX9_readCurve_43 : decode cX9_readCurve 43 = .ok (.iload_n 2, 1) := by decide +kernel
theorem dX9_readCurve_44 : decode cX9_readCurve 44 = .ok (.ifCond .ne 21, 3) := by decide +kernel
theorem dX9_readCurve_47 : decode cX9_readCurve 47 = .ok (.aload_n 0, 1) := by decide +kernel
theorem dX9_readCurve_48 : decode cX9_readCurve 48 = .ok (.getfield 31, 3) := by decide +kernel
theorem dX9_readCurve_51 : decode cX9_readCurve 51 = .ok (.getfield 74, 3) := by decide +kernel
theorem dX9_readCurve_54 : decode cX9_readCurve 54 = .ok (.iload_n 1, 1) := by decide +kernel
theorem dX9_readCurve_55 : decode cX9_readCurve 55 = .ok (.iload_n 3, 1) := by decide +kernel
theorem dX9_readCurve_56 : decode cX9_readCurve 56 = .ok (.iload 4, 2) := by decide +kernel
theorem dX9_readCurve_58 : decode cX9_readCurve 58 = .ok (.aload_n 0, 1) := by decide +kernel
theorem dX9_readCurve_59 : decode cX9_readCurve 59 = .ok (.getfield 24, 3) := by decide +kernel
theorem dX9_readCurve_62 : decode cX9_readCurve 62 = .ok (.invokevirtual 78, 3) := by decide +kernel
theorem dX9_readCurve_65 : decode cX9_readCurve 65 = .ok (.iload_n 2, 1) := by decide +kernel
theorem dX9_readCurve_66 : decode cX9_readCurve 66 = .ok (.ireturn, 1) := by decide +kernel
theorem dX9_readFlow_0 : decode cX9_readFlow 0 = .ok (.aload_n 0, 1) := by decide +kernel
theorem dX9_readFlow_1 : decode cX9_readFlow 1 = .ok (.getfield 31, 3) := by decide +kernel
theorem dX9_readFlow_4 : decode cX9_readFlow 4 = .ok (.getfield 82, 3) := by decide +kernel
theorem dX9_readFlow_7 : decode cX9_readFlow 7 = .ok (.bipush 8, 2) := by decide +kernel
theorem dX9_readFlow_9 : decode cX9_readFlow 9 = .ok (.if_icmp .lt 5, 3) := by decide +kernel
theorem dX9_readFlow_12 : decode cX9_readFlow 12 = .ok (.iconst 2, 1) := by decide +kernel
theorem dX9_readFlow_13 : decode cX9_readFlow 13 = .ok (.ireturn, 1) := by decide +kernel
theorem dX9_readFlow_14 : decode cX9_readFlow 14 = .ok (.aload_n 0, 1) := by decide +kernel
theorem dX9_readFlow_15 : decode cX9_readFlow 15 = .ok (.iconst 0, 1) := by decide +kernel
theorem dX9_readFlow_16 : decode cX9_readFlow 16 = .ok (.bipush 11, 2) := by decide +kernel
theorem dX9_readFlow_18 : decode cX9_readFlow 18 = .ok (.invokevirtual 57, 3) := by decide +kernel
theorem dX9_readFlow_21 : decode cX9_readFlow 21 = .ok (.istore_n 1, 1) := by decide +kernel
theorem dX9_readFlow_22 : decode cX9_readFlow 22 = .ok (.aload_n 0, 1) := by decide +kernel
theorem dX9_readFlow_23 : decode cX9_readFlow 23 = .ok (.getfield 24, 3) := by decide +kernel
theorem dX9_readFlow_26 : decode cX9_readFlow 26 = .ok (.istore_n 2, 1) := by decide +kernel
theorem dX9_readFlow_27 : decode cX9_readFlow 27 = .ok (.iload_n 1, 1) := by decide +kernel
theorem dX9_readFlow_28 : decode cX9_readFlow 28 = .ok (.ifCond .ne 16, 3) := by decide +kernel
theorem dX9_readFlow_31 : decode cX9_readFlow 31 = .ok (.aload_n 0, 1) := by decide +kernel
theorem dX9_readFlow_32 : decode cX9_readFlow 32 = .ok (.getfield 31, 3) := by decide +kernel
theorem dX9_readFlow_35 : decode cX9_readFlow 35 = .ok (.iload_n 2, 1) := by decide +kernel
theorem dX9_readFlow_36 : decode cX9_readFlow 36 = .ok (.invokevirtual 85, 3) := by decide +kernel
theorem dX9_readFlow_39 : decode cX9_readFlow 39 = .ok (.ifCond .ne 5, 3) := by decide +kernel
theorem dX9_readFlow_42 : decode cX9_readFlow 42 = .ok (.iconst 3, 1) := by decide +kernel
theorem dX9_readFlow_43 : decode cX9_readFlow 43 = .ok (.istore_n 1, 1) := by decide +kernel
theorem dX9_readFlow_44 : decode cX9_readFlow 44 = .ok (.iload_n 1, 1) := by decide +kernel
theorem dX9_readFlow_45 : decode cX9_readFlow 45 = .ok (.ifCond .ne 12, 3) := by decide +kernel
theorem dX9_readFlow_48 : decode cX9_readFlow 48 = .ok (.aload_n 0, 1) := by decide +kernel
theorem dX9_readFlow_49 : decode cX9_readFlow 49 = .ok (.iconst 1, 1) := by decide +kernel
theorem dX9_readFlow_50 : decode cX9_readFlow 50 = .ok (.sipush 200, 3) := by decide +kernel
theorem dX9_readFlow_53 : decode cX9_readFlow 53 = .ok (.invokevirtual 57, 3) := by decide +kernel
theorem dX9_readFlow_56 : decode cX9_readFlow 56 = .ok (.istore_n 1, 1) := by decide +kernel
theorem dX9_readFlow_57 : decode cX9_readFlow 57 = .ok (.aload_n 0, 1) := by decide +kernel
theorem dX9_readFlow_58 : decode cX9_readFlow 58 = .ok (.getfield 24, 3) := by decide +kernel
theorem dX9_readFlow_61 : decode cX9_readFlow 61 = .ok (.istore_n 3, 1) := by decide +kernel
theorem dX9_readFlow_62 : decode cX9_readFlow 62 = .ok (.iload_n 1, 1) := by decide +kernel
theorem dX9_readFlow_63 : decode cX9_readFlow 63 = .ok (.ifCond .ne 12, 3) := by decide +kernel
theorem dX9_readFlow_66 : decode cX9_readFlow 66 = .ok (.aload_n 0, 1) := by decide +kernel
theorem dX9_readFlow_67 : decode cX9_readFlow 67 = .ok (.iconst 0, 1) := by decide +kernel
theorem dX9_readFlow_68 : decode cX9_readFlow 68 = .ok (.sipush 199, 3) := by decide +kernel
theorem dX9_readFlow_71 : decode cX9_readFlow 71 = .ok (.invokevirtual 57, 3) := by decide +kernel
theorem dX9_readFlow_74 : decode cX9_readFlow 74 = .ok (.istore_n 1, 1) := by decide +kernel
theorem dX9_readFlow_75 : decode cX9_readFlow 75 = .ok (.aload_n 0, 1) := by decide +kernel
theorem dX9_readFlow_76 : decode cX9_readFlow 76 = .ok (.getfield 24, 3) := by decide +kernel
theorem dX9_readFlow_79 : decode cX9_readFlow 79 = .ok (.istore 4, 2) := by decide +kernel
theorem dX9_readFlow_81 : decode cX9_readFlow 81 = .ok (.iload_n 1, 1) := by decide +kernel
theorem dX9_readFlow_82 : decode cX9_readFlow 82 = .ok (.ifCond .ne 11, 3) := by decide +kernel
theorem dX9_readFlow_85 : decode cX9_readFlow 85 = .ok (.aload_n 0, 1) := by decide +kernel
theorem dX9_readFlow_86 : decode cX9_readFlow 86 = .ok (.iconst 1, 1) := by decide +kernel
theorem dX9_readFlow_87 : decode cX9_readFlow 87 = .ok (.bipush 64, 2) := by decide +kernel
theorem dX9_readFlow_89 : decode cX9_readFlow 89 = .ok (.invokevirtual 57, 3) := by decide +kernel
theorem dX9_readFlow_92 : decode cX9_readFlow 92 = .ok (.istore_n 1, 1) := by decide +kernel
theorem dX9_readFlow_93 : decode cX9_readFlow 93 = .ok (.iload_n 1, 1) := by decide +kernel
theorem dX9_readFlow_94 : decode cX9_readFlow 94 = .ok (.ifCond .eq 5, 3) := by decide +kernel
theorem dX9_readFlow_97 : decode cX9_readFlow 97 = .ok (.iload_n 1, 1) := by decide +kernel
theorem dX9_readFlow_98 : decode cX9_readFlow 98 = .ok (.ireturn, 1) := by decide +kernel
theorem dX9_readFlow_99 : decode cX9_readFlow 99 = .ok (.aload_n 0, 1) := by decide +kernel
theorem dX9_readFlow_100 : decode cX9_readFlow 100 = .ok (.getfield 31, 3) := by decide +kernel
theorem dX9_readFlow_103 : decode cX9_readFlow 103 = .ok (.iload_n 2, 1) := by decide +kernel
theorem dX9_readFlow_104 : decode cX9_readFlow 104 = .ok (.iload_n 3, 1) := by decide +kernel
theorem dX9_readFlow_105 : decode cX9_readFlow 105 = .ok (.iload 4, 2) := by decide +kernel
theorem dX9_readFlow_107 : decode cX9_readFlow 107 = .ok (.aload_n 0, 1) := by decide +kernel
theorem dX9_readFlow_108 : decode cX9_readFlow 108 = .ok (.getfield 24, 3) := by decide +kernel
theorem dX9_readFlow_111 : decode cX9_readFlow 111 = .ok (.invokevirtual 88, 3) := by decide +kernel
theorem dX9_readFlow_114 : decode cX9_readFlow 114 = .ok (.aload_n 0, 1) := by decide +kernel
theorem dX9_readFlow_115 : decode cX9_readFlow 115 = .ok (.invokevirtual 40, 3) := by decide +kernel
theorem dX9_readFlow_118 : decode cX9_readFlow 118 = .ok (.aload_n 0, 1) := by decide +kernel
theorem dX9_readFlow_119 : decode cX9_readFlow 119 = .ok (.getfield 21, 3) := by decide +kernel
theorem dX9_readFlow_122 : decode cX9_readFlow 122 = .ok (.iconst 3, 1) := by decide +kernel
theorem dX9_readFlow_123 : decode cX9_readFlow 123 = .ok (.if_icmp .ne 7, 3) := by decide +kernel
theorem dX9_readFlow_126 : decode cX9_readFlow 126 = .ok (.iconst 0, 1) := by decide +kernel
theorem dX9_readFlow_127 : decode cX9_readFlow 127 = .ok (.goto 4, 3) := by decide +kernel
theorem dX9_readFlow_130 : decode cX9_readFlow 130 = .ok (.iconst 1, 1) := by decide +kernel
theorem dX9_readFlow_131 : decode cX9_readFlow 131 = .ok (.ireturn, 1) := by decide +kernel
theorem dX9_readNumber_0 : decode cX9_readNumber 0 = .ok (.aload_n 0, 1) := by decide +kernel
theorem dX9_readNumber_1 : decode cX9_readNumber 1 = .ok (.invokevirtual 40, 3) := by decide +kernel
theorem dX9_readNumber_4 : decode cX9_readNumber 4 = .ok (.aload_n 0, 1) := by decide +kernel
theorem dX9_readNumber_5 : decode cX9_readNumber 5 = .ok (.getfield 21, 3) := by decide +kernel
theorem dX9_readNumber_8 : decode cX9_readNumber 8 = .ok (.iconst 2, 1) := by decide +kernel
theorem dX9_readNumber_9 : decode cX9_readNumber 9 = .ok (.if_icmp .eq 5, 3) := by decide +kernel
theorem dX9_readNumber_12 : decode cX9_readNumber 12 = .ok (.iconst 1, 1) := by decide +kernel
theorem dX9_readNumber_13 : decode cX9_readNumber 13 = .ok (.ireturn, 1) := by decide +kernel
theorem dX9_readNumber_14 : decode cX9_readNumber 14 = .ok (.aload_n 0, 1) := by decide +kernel
theorem dX9_readNumber_15 : decode cX9_readNumber 15 = .ok (.getfield 24, 3) := by decide +kernel
theorem dX9_readNumber_18 : decode cX9_readNumber 18 = .ok (.iload_n 1, 1) := by decide +kernel
theorem dX9_readNumber_19 : decode cX9_readNumber 19 = .ok (.if_icmp .lt 11, 3) := by decide +kernel
theorem dX9_readNumber_22 : decode cX9_readNumber 22 = .ok (.aload_n 0, 1) := by decide +kernel
theorem dX9_readNumber_23 : decode cX9_readNumber 23 = .ok (.getfield 24, 3) := by decide +kernel
theorem dX9_readNumber_26 : decode cX9_readNumber 26 = .ok (.iload_n 2, 1) := by decide +kernel
theorem dX9_readNumber_27 : decode cX9_readNumber 27 = .ok (.if_icmp .le 7, 3) := by decide +kernel
theorem dX9_readNumber_30 : decode cX9_readNumber 30 = .ok (.iconst 2, 1) := by decide +kernel
theorem dX9_readNumber_31 : decode cX9_readNumber 31 = .ok (.goto 4, 3) := by decide +kernel
theorem dX9_readNumber_34 : decode cX9_readNumber 34 = .ok (.iconst 0, 1) := by decide +kernel
theorem dX9_readNumber_35 : decode cX9_readNumber 35 = .ok (.ireturn, 1) := by decide +kernel
theorem dX9_takeToken_0 : decode cX9_takeToken 0 = .ok (.aload_n 0, 1) := by decide +kernel
theorem dX9_takeToken_1 : decode cX9_takeToken 1 = .ok (.aload_n 0, 1) := by decide +kernel
theorem dX9_takeToken_2 : decode cX9_takeToken 2 = .ok (.getfield 18, 3) := by decide +kernel
theorem dX9_takeToken_5 : decode cX9_takeToken 5 = .ok (.putfield 15, 3) := by decide +kernel
theorem dX9_takeToken_8 : decode cX9_takeToken 8 = .ok (.aload_n 0, 1) := by decide +kernel
theorem dX9_takeToken_9 : decode cX9_takeToken 9 = .ok (.getfield 15, 3) := by decide +kernel
theorem dX9_takeToken_12 : decode cX9_takeToken 12 = .ok (.aload_n 0, 1) := by decide +kernel
theorem dX9_takeToken_13 : decode cX9_takeToken 13 = .ok (.getfield 9, 3) := by decide +kernel
theorem dX9_takeToken_16 : decode cX9_takeToken 16 = .ok (.if_icmp .ge 44, 3) := by decide +kernel
theorem dX9_takeToken_19 : decode cX9_takeToken 19 = .ok (.aload_n 0, 1) := by decide +kernel
theorem dX9_takeToken_20 : decode cX9_takeToken 20 = .ok (.getfield 27, 3) := by decide +kernel
theorem dX9_takeToken_23 : decode cX9_takeToken 23 = .ok (.aload_n 0, 1) := by decide +kernel
theorem dX9_takeToken_24 : decode cX9_takeToken 24 = .ok (.getfield 15, 3) := by decide +kernel
theorem dX9_takeToken_27 : decode cX9_takeToken 27 = .ok (.iaload, 1) := by decide +kernel
theorem dX9_takeToken_28 : decode cX9_takeToken 28 = .ok (.bipush 32, 2) := by decide +kernel
theorem dX9_takeToken_30 : decode cX9_takeToken 30 = .ok (.if_icmp .eq 17, 3) := by decide +kernel
theorem dX9_takeToken_33 : decode cX9_takeToken 33 = .ok (.aload_n 0, 1) := by decide +kernel
theorem dX9_takeToken_34 : decode cX9_takeToken 34 = .ok (.getfield 27, 3) := by decide +kernel
theorem dX9_takeToken_37 : decode cX9_takeToken 37 = .ok (.aload_n 0, 1) := by decide +kernel
theorem dX9_takeToken_38 : decode cX9_takeToken 38 = .ok (.getfield 15, 3) := by decide +kernel
theorem dX9_takeToken_41 : decode cX9_takeToken 41 = .ok (.iaload, 1) := by decide +kernel
theorem dX9_takeToken_42 : decode cX9_takeToken 42 = .ok (.bipush 10, 2) := by decide +kernel
theorem dX9_takeToken_44 : decode cX9_takeToken 44 = .ok (.if_icmp .ne 16, 3) := by decide +kernel
theorem dX9_takeToken_47 : decode cX9_takeToken 47 = .ok (.aload_n 0, 1) := by decide +kernel
theorem dX9_takeToken_48 : decode cX9_takeToken 48 = .ok (.dup, 1) := by decide +kernel
theorem dX9_takeToken_49 : decode cX9_takeToken 49 = .ok (.getfield 15, 3) := by decide +kernel
theorem dX9_takeToken_52 : decode cX9_takeToken 52 = .ok (.iconst 1, 1) := by decide +kernel
theorem dX9_takeToken_53 : decode cX9_takeToken 53 = .ok (.iadd, 1) := by decide +kernel
theorem dX9_takeToken_54 : decode cX9_takeToken 54 = .ok (.putfield 15, 3) := by decide +kernel
theorem dX9_takeToken_57 : decode cX9_takeToken 57 = .ok (.goto (-49), 3) := by decide +kernel
theorem dX9_takeToken_60 : decode cX9_takeToken 60 = .ok (.aload_n 0, 1) := by decide +kernel
theorem dX9_takeToken_61 : decode cX9_takeToken 61 = .ok (.aload_n 0, 1) := by decide +kernel
theorem dX9_takeToken_62 : decode cX9_takeToken 62 = .ok (.getfield 15, 3) := by decide +kernel
theorem dX9_takeToken_65 : decode cX9_takeToken 65 = .ok (.putfield 18, 3) := by decide +kernel
theorem dX9_takeToken_68 : decode cX9_takeToken 68 = .ok (.aload_n 0, 1) := by decide +kernel
theorem dX9_takeToken_69 : decode cX9_takeToken 69 = .ok (.getfield 15, 3) := by decide +kernel
theorem dX9_takeToken_72 : decode cX9_takeToken 72 = .ok (.aload_n 0, 1) := by decide +kernel
theorem dX9_takeToken_73 : decode cX9_takeToken 73 = .ok (.getfield 9, 3) := by decide +kernel
theorem dX9_takeToken_76 : decode cX9_takeToken 76 = .ok (.if_icmp .lt 11, 3) := by decide +kernel
theorem dX9_takeToken_79 : decode cX9_takeToken 79 = .ok (.aload_n 0, 1) := by decide +kernel
theorem dX9_takeToken_80 : decode cX9_takeToken 80 = .ok (.iconst 0, 1) := by decide +kernel
theorem dX9_takeToken_81 : decode cX9_takeToken 81 = .ok (.putfield 21, 3) := by decide +kernel
theorem dX9_takeToken_84 : decode cX9_takeToken 84 = .ok (.goto 72, 3) := by decide +kernel
theorem dX9_takeToken_87 : decode cX9_takeToken 87 = .ok (.aload_n 0, 1) := by decide +kernel
theorem dX9_takeToken_88 : decode cX9_takeToken 88 = .ok (.aload_n 0, 1) := by decide +kernel
theorem dX9_takeToken_89 : decode cX9_takeToken 89 = .ok (.getfield 15, 3) := by decide +kernel
theorem dX9_takeToken_92 : decode cX9_takeToken 92 = .ok (.invokevirtual 91, 3) := by decide +kernel
theorem dX9_takeToken_95 : decode cX9_takeToken 95 = .ok (.ifCond .eq 10, 3) := by decide +kernel
theorem dX9_takeToken_98 : decode cX9_takeToken 98 = .ok (.aload_n 0, 1) := by decide +kernel
theorem dX9_takeToken_99 : decode cX9_takeToken 99 = .ok (.invokevirtual 94, 3) := by decide +kernel
theorem dX9_takeToken_102 : decode cX9_takeToken 102 = .ok (.goto 54, 3) := by decide +kernel
theorem dX9_takeToken_105 : decode cX9_takeToken 105 = .ok (.aload_n 0, 1) := by decide +kernel
theorem dX9_takeToken_106 : decode cX9_takeToken 106 = .ok (.aload_n 0, 1) := by decide +kernel
theorem dX9_takeToken_107 : decode cX9_takeToken 107 = .ok (.getfield 15, 3) := by decide +kernel
theorem dX9_takeToken_110 : decode cX9_takeToken 110 = .ok (.invokevirtual 97, 3) := by decide +kernel
theorem dX9_takeToken_113 : decode cX9_takeToken 113 = .ok (.ifCond .eq 10, 3) := by decide +kernel
theorem dX9_takeToken_116 : decode cX9_takeToken 116 = .ok (.aload_n 0, 1) := by decide +kernel
theorem dX9_takeToken_117 : decode cX9_takeToken 117 = .ok (.invokevirtual 100, 3) := by decide +kernel
theorem dX9_takeToken_120 : decode cX9_takeToken 120 = .ok (.goto 36, 3) := by decide +kernel
theorem dX9_takeToken_123 : decode cX9_takeToken 123 = .ok (.aload_n 0, 1) := by decide +kernel
theorem dX9_takeToken_124 : decode cX9_takeToken 124 = .ok (.aload_n 0, 1) := by decide +kernel
theorem dX9_takeToken_125 : decode cX9_takeToken 125 = .ok (.getfield 27, 3) := by decide +kernel
theorem dX9_takeToken_128 : decode cX9_takeToken 128 = .ok (.aload_n 0, 1) := by decide +kernel
theorem dX9_takeToken_129 : decode cX9_takeToken 129 = .ok (.getfield 15, 3) := by decide +kernel
theorem dX9_takeToken_132 : decode cX9_takeToken 132 = .ok (.iaload, 1) := by decide +kernel
theorem dX9_takeToken_133 : decode cX9_takeToken 133 = .ok (.bipush 59, 2) := by decide +kernel
theorem dX9_takeToken_135 : decode cX9_takeToken 135 = .ok (.if_icmp .ne 7, 3) := by decide +kernel
theorem dX9_takeToken_138 : decode cX9_takeToken 138 = .ok (.iconst 3, 1) := by decide +kernel
theorem dX9_takeToken_139 : decode cX9_takeToken 139 = .ok (.goto 4, 3) := by decide +kernel
theorem dX9_takeToken_142 : decode cX9_takeToken 142 = .ok (.iconst 1, 1) := by decide +kernel
theorem dX9_takeToken_143 : decode cX9_takeToken 143 = .ok (.putfield 21, 3) := by decide +kernel
theorem dX9_takeToken_146 : decode cX9_takeToken 146 = .ok (.aload_n 0, 1) := by decide +kernel
theorem dX9_takeToken_147 : decode cX9_takeToken 147 = .ok (.aload_n 0, 1) := by decide +kernel
theorem dX9_takeToken_148 : decode cX9_takeToken 148 = .ok (.getfield 15, 3) := by decide +kernel
theorem dX9_takeToken_151 : decode cX9_takeToken 151 = .ok (.iconst 1, 1) := by decide +kernel
theorem dX9_takeToken_152 : decode cX9_takeToken 152 = .ok (.iadd, 1) := by decide +kernel
theorem dX9_takeToken_153 : decode cX9_takeToken 153 = .ok (.putfield 18, 3) := by decide +kernel
theorem dX9_takeToken_156 : decode cX9_takeToken 156 = .ok (.return_, 1) := by decide +kernel
theorem dX9_takeWord_0 : decode cX9_takeWord 0 = .ok (.aload_n 0, 1) := by decide +kernel
theorem dX9_takeWord_1 : decode cX9_takeWord 1 = .ok (.getfield 18, 3) := by decide +kernel
theorem dX9_takeWord_4 : decode cX9_takeWord 4 = .ok (.aload_n 0, 1) := by decide +kernel
theorem dX9_takeWord_5 : decode cX9_takeWord 5 = .ok (.getfield 9, 3) := by decide +kernel
theorem dX9_takeWord_8 : decode cX9_takeWord 8 = .ok (.if_icmp .ge 27, 3) := by decide +kernel
theorem dX9_takeWord_11 : decode cX9_takeWord 11 = .ok (.aload_n 0, 1) := by decide +kernel
theorem dX9_takeWord_12 : decode cX9_takeWord 12 = .ok (.aload_n 0, 1) := by decide +kernel
theorem dX9_takeWord_13 : decode cX9_takeWord 13 = .ok (.getfield 18, 3) := by decide +kernel
theorem dX9_takeWord_16 : decode cX9_takeWord 16 = .ok (.invokevirtual 91, 3) := by decide +kernel
theorem dX9_takeWord_19 : decode cX9_takeWord 19 = .ok (.ifCond .eq 16, 3) := by decide +kernel
theorem dX9_takeWord_22 : decode cX9_takeWord 22 = .ok (.aload_n 0, 1) := by decide +kernel
theorem dX9_takeWord_23 : decode cX9_takeWord 23 = .ok (.dup, 1) := by decide +kernel
theorem dX9_takeWord_24 : decode cX9_takeWord 24 = .ok (.getfield 18, 3) := by decide +kernel
theorem dX9_takeWord_27 : decode cX9_takeWord 27 = .ok (.iconst 1, 1) := by decide +kernel
theorem dX9_takeWord_28 : decode cX9_takeWord 28 = .ok (.iadd, 1) := by decide +kernel
theorem dX9_takeWord_29 : decode cX9_takeWord 29 = .ok (.putfield 18, 3) := by decide +kernel
theorem dX9_takeWord_32 : decode cX9_takeWord 32 = .ok (.goto (-32), 3) := by decide +kernel
theorem dX9_takeWord_35 : decode cX9_takeWord 35 = .ok (.aload_n 0, 1) := by decide +kernel
theorem dX9_takeWord_36 : decode cX9_takeWord 36 = .ok (.iconst 1, 1) := by decide +kernel
theorem dX9_takeWord_37 : decode cX9_takeWord 37 = .ok (.putfield 21, 3) := by decide +kernel
theorem dX9_takeWord_40 : decode cX9_takeWord 40 = .ok (.aload_n 0, 1) := by decide +kernel
theorem dX9_takeWord_41 : decode cX9_takeWord 41 = .ok (.aload_n 0, 1) := by decide +kernel
theorem dX9_takeWord_42 : decode cX9_takeWord 42 = .ok (.ldc 103, 2) := by decide +kernel
theorem dX9_takeWord_44 : decode cX9_takeWord 44 = .ok (.invokevirtual 105, 3) := by decide +kernel
theorem dX9_takeWord_47 : decode cX9_takeWord 47 = .ok (.ifCond .eq 7, 3) := by decide +kernel
theorem dX9_takeWord_50 : decode cX9_takeWord 50 = .ok (.iconst 4, 1) := by decide +kernel
theorem dX9_takeWord_51 : decode cX9_takeWord 51 = .ok (.goto 7, 3) := by decide +kernel
theorem dX9_takeWord_54 : decode cX9_takeWord 54 = .ok (.aload_n 0, 1) := by decide +kernel
theorem dX9_takeWord_55 : decode cX9_takeWord 55 = .ok (.getfield 21, 3) := by decide +kernel
theorem dX9_takeWord_58 : decode cX9_takeWord 58 = .ok (.putfield 21, 3) := by decide +kernel
theorem dX9_takeWord_61 : decode cX9_takeWord 61 = .ok (.aload_n 0, 1) := by decide +kernel
theorem dX9_takeWord_62 : decode cX9_takeWord 62 = .ok (.aload_n 0, 1) := by decide +kernel
theorem dX9_takeWord_63 : decode cX9_takeWord 63 = .ok (.ldc 109, 2) := by decide +kernel
theorem dX9_takeWord_65 : decode cX9_takeWord 65 = .ok (.invokevirtual 105, 3) := by decide +kernel
theorem dX9_takeWord_68 : decode cX9_takeWord 68 = .ok (.ifCond .eq 7, 3) := by decide +kernel
theorem dX9_takeWord_71 : decode cX9_takeWord 71 = .ok (.iconst 5, 1) := by decide +kernel
theorem dX9_takeWord_72 : decode cX9_takeWord 72 = .ok (.goto 7, 3) := by decide +kernel
theorem dX9_takeWord_75 : decode cX9_takeWord 75 = .ok (.aload_n 0, 1) := by decide +kernel
theorem dX9_takeWord_76 : decode cX9_takeWord 76 = .ok (.getfield 21, 3) := by decide +kernel
theorem dX9_takeWord_79 : decode cX9_takeWord 79 = .ok (.putfield 21, 3) := by decide +kernel
theorem dX9_takeWord_82 : decode cX9_takeWord 82 = .ok (.aload_n 0, 1) := by decide +kernel
theorem dX9_takeWord_83 : decode cX9_takeWord 83 = .ok (.aload_n 0, 1) := by decide +kernel
theorem dX9_takeWord_84 : decode cX9_takeWord 84 = .ok (.ldc 111, 2) := by decide +kernel
theorem dX9_takeWord_86 : decode cX9_takeWord 86 = .ok (.invokevirtual 105, 3) := by decide +kernel
theorem dX9_takeWord_89 : decode cX9_takeWord 89 = .ok (.ifCond .eq 8, 3) := by decide +kernel
theorem dX9_takeWord_92 : decode cX9_takeWord 92 = .ok (.bipush 6, 2) := by decide +kernel
theorem dX9_takeWord_94 : decode cX9_takeWord 94 = .ok (.goto 7, 3) := by decide +kernel
theorem dX9_takeWord_97 : decode cX9_takeWord 97 = .ok (.aload_n 0, 1) := by decide +kernel
theorem dX9_takeWord_98 : decode cX9_takeWord 98 = .ok (.getfield 21, 3) := by decide +kernel
theorem dX9_takeWord_101 : decode cX9_takeWord 101 = .ok (.putfield 21, 3) := by decide +kernel
theorem dX9_takeWord_104 : decode cX9_takeWord 104 = .ok (.aload_n 0, 1) := by decide +kernel
theorem dX9_takeWord_105 : decode cX9_takeWord 105 = .ok (.aload_n 0, 1) := by decide +kernel
theorem dX9_takeWord_106 : decode cX9_takeWord 106 = .ok (.ldc 113, 2) := by decide +kernel
theorem dX9_takeWord_108 : decode cX9_takeWord 108 = .ok (.invokevirtual 105, 3) := by decide +kernel
theorem dX9_takeWord_111 : decode cX9_takeWord 111 = .ok (.ifCond .eq 8, 3) := by decide +kernel
theorem dX9_takeWord_114 : decode cX9_takeWord 114 = .ok (.bipush 7, 2) := by decide +kernel
theorem dX9_takeWord_116 : decode cX9_takeWord 116 = .ok (.goto 7, 3) := by decide +kernel
theorem dX9_takeWord_119 : decode cX9_takeWord 119 = .ok (.aload_n 0, 1) := by decide +kernel
theorem dX9_takeWord_120 : decode cX9_takeWord 120 = .ok (.getfield 21, 3) := by decide +kernel
theorem dX9_takeWord_123 : decode cX9_takeWord 123 = .ok (.putfield 21, 3) := by decide +kernel
theorem dX9_takeWord_126 : decode cX9_takeWord 126 = .ok (.aload_n 0, 1) := by decide +kernel
theorem dX9_takeWord_127 : decode cX9_takeWord 127 = .ok (.aload_n 0, 1) := by decide +kernel
theorem dX9_takeWord_128 : decode cX9_takeWord 128 = .ok (.ldc 115, 2) := by decide +kernel
theorem dX9_takeWord_130 : decode cX9_takeWord 130 = .ok (.invokevirtual 105, 3) := by decide +kernel
theorem dX9_takeWord_133 : decode cX9_takeWord 133 = .ok (.ifCond .eq 8, 3) := by decide +kernel
theorem dX9_takeWord_136 : decode cX9_takeWord 136 = .ok (.bipush 8, 2) := by decide +kernel
theorem dX9_takeWord_138 : decode cX9_takeWord 138 = .ok (.goto 7, 3) := by decide +kernel
theorem dX9_takeWord_141 : decode cX9_takeWord 141 = .ok (.aload_n 0, 1) := by decide +kernel
theorem dX9_takeWord_142 : decode cX9_takeWord 142 = .ok (.getfield 21, 3) := by decide +kernel
theorem dX9_takeWord_145 : decode cX9_takeWord 145 = .ok (.putfield 21, 3) := by decide +kernel
theorem dX9_takeWord_148 : decode cX9_takeWord 148 = .ok (.aload_n 0, 1) := by decide +kernel
theorem dX9_takeWord_149 : decode cX9_takeWord 149 = .ok (.aload_n 0, 1) := by decide +kernel
theorem dX9_takeWord_150 : decode cX9_takeWord 150 = .ok (.ldc 117, 2) := by decide +kernel
theorem dX9_takeWord_152 : decode cX9_takeWord 152 = .ok (.invokevirtual 105, 3) := by decide +kernel
theorem dX9_takeWord_155 : decode cX9_takeWord 155 = .ok (.ifCond .eq 8, 3) := by decide +kernel
theorem dX9_takeWord_158 : decode cX9_takeWord 158 = .ok (.bipush 9, 2) := by decide +kernel
theorem dX9_takeWord_160 : decode cX9_takeWord 160 = .ok (.goto 7, 3) := by decide +kernel
theorem dX9_takeWord_163 : decode cX9_takeWord 163 = .ok (.aload_n 0, 1) := by decide +kernel
theorem dX9_takeWord_164 : decode cX9_takeWord 164 = .ok (.getfield 21, 3) := by decide +kernel
theorem dX9_takeWord_167 : decode cX9_takeWord 167 = .ok (.putfield 21, 3) := by decide +kernel
theorem dX9_takeWord_170 : decode cX9_takeWord 170 = .ok (.return_, 1) := by decide +kernel
theorem dX9_takeNumber_0 : decode cX9_takeNumber 0 = .ok (.aload_n 0, 1) := by decide +kernel
theorem dX9_takeNumber_1 : decode cX9_takeNumber 1 = .ok (.iconst 2, 1) := by decide +kernel
theorem dX9_takeNumber_2 : decode cX9_takeNumber 2 = .ok (.putfield 21, 3) := by decide +kernel
theorem dX9_takeNumber_5 : decode cX9_takeNumber 5 = .ok (.aload_n 0, 1) := by decide +kernel
theorem dX9_takeNumber_6 : decode cX9_takeNumber 6 = .ok (.iconst 0, 1) := by decide +kernel
theorem dX9_takeNumber_7 : decode cX9_takeNumber 7 = .ok (.putfield 24, 3) := by decide +kernel
theorem dX9_takeNumber_10 : decode cX9_takeNumber 10 = .ok (.aload_n 0, 1) := by decide +kernel
theorem dX9_takeNumber_11 : decode cX9_takeNumber 11 = .ok (.getfield 18, 3) := by decide +kernel
theorem dX9_takeNumber_14 : decode cX9_takeNumber 14 = .ok (.aload_n 0, 1) := by decide +kernel
theorem dX9_takeNumber_15 : decode cX9_takeNumber 15 = .ok (.getfield 9, 3) := by decide +kernel
theorem dX9_takeNumber_18 : decode cX9_takeNumber 18 = .ok (.if_icmp .ge 77, 3) := by decide +kernel
theorem dX9_takeNumber_21 : decode cX9_takeNumber 21 = .ok (.aload_n 0, 1) := by decide +kernel
theorem dX9_takeNumber_22 : decode cX9_takeNumber 22 = .ok (.aload_n 0, 1) := by decide +kernel
theorem dX9_takeNumber_23 : decode cX9_takeNumber 23 = .ok (.getfield 18, 3) := by decide +kernel
theorem dX9_takeNumber_26 : decode cX9_takeNumber 26 = .ok (.invokevirtual 97, 3) := by decide +kernel
theorem dX9_takeNumber_29 : decode cX9_takeNumber 29 = .ok (.ifCond .eq 66, 3) := by decide +kernel
theorem dX9_takeNumber_32 : decode cX9_takeNumber 32 = .ok (.aload_n 0, 1) := by decide +kernel
theorem dX9_takeNumber_33 : decode cX9_takeNumber 33 = .ok (.aload_n 0, 1) := by decide +kernel
theorem dX9_takeNumber_34 : decode cX9_takeNumber 34 = .ok (.getfield 24, 3) := by decide +kernel
theorem dX9_takeNumber_37 : decode cX9_takeNumber 37 = .ok (.bipush 10, 2) := by decide +kernel
theorem dX9_takeNumber_39 : decode cX9_takeNumber 39 = .ok (.imul, 1) := by decide +kernel
theorem dX9_takeNumber_40 : decode cX9_takeNumber 40 = .ok (.aload_n 0, 1) := by decide +kernel
theorem dX9_takeNumber_41 : decode cX9_takeNumber 41 = .ok (.getfield 27, 3) := by decide +kernel
theorem dX9_takeNumber_44 : decode cX9_takeNumber 44 = .ok (.aload_n 0, 1) := by decide +kernel
theorem dX9_takeNumber_45 : decode cX9_takeNumber 45 = .ok (.getfield 18, 3) := by decide +kernel
theorem dX9_takeNumber_48 : decode cX9_takeNumber 48 = .ok (.iaload, 1) := by decide +kernel
theorem dX9_takeNumber_49 : decode cX9_takeNumber 49 = .ok (.iadd, 1) := by decide +kernel
theorem dX9_takeNumber_50 : decode cX9_takeNumber 50 = .ok (.bipush 48, 2) := by decide +kernel
theorem dX9_takeNumber_52 : decode cX9_takeNumber 52 = .ok (.isub, 1) := by decide +kernel
theorem dX9_takeNumber_53 : decode cX9_takeNumber 53 = .ok (.putfield 24, 3) := by decide +kernel
theorem dX9_takeNumber_56 : decode cX9_takeNumber 56 = .ok (.aload_n 0, 1) := by decide +kernel
theorem dX9_takeNumber_57 : decode cX9_takeNumber 57 = .ok (.aload_n 0, 1) := by decide +kernel
theorem dX9_takeNumber_58 : decode cX9_takeNumber 58 = .ok (.getfield 18, 3) := by decide +kernel
theorem dX9_takeNumber_61 : decode cX9_takeNumber 61 = .ok (.aload_n 0, 1) := by decide +kernel
theorem dX9_takeNumber_62 : decode cX9_takeNumber 62 = .ok (.getfield 15, 3) := by decide +kernel
theorem dX9_takeNumber_65 : decode cX9_takeNumber 65 = .ok (.isub, 1) := by decide +kernel
theorem dX9_takeNumber_66 : decode cX9_takeNumber 66 = .ok (.iconst 3, 1) := by decide +kernel
theorem dX9_takeNumber_67 : decode cX9_takeNumber 67 = .ok (.if_icmp .lt 8, 3) := by decide +kernel
theorem dX9_takeNumber_70 : decode cX9_takeNumber 70 = .ok (.ldc 119, 2) := by decide +kernel
theorem dX9_takeNumber_72 : decode cX9_takeNumber 72 = .ok (.goto 7, 3) := by decide +kernel
theorem dX9_takeNumber_75 : decode cX9_takeNumber 75 = .ok (.aload_n 0, 1) := by decide +kernel
theorem dX9_takeNumber_76 : decode cX9_takeNumber 76 = .ok (.getfield 24, 3) := by decide +kernel
theorem dX9_takeNumber_79 : decode cX9_takeNumber 79 = .ok (.putfield 24, 3) := by decide +kernel
theorem dX9_takeNumber_82 : decode cX9_takeNumber 82 = .ok (.aload_n 0, 1) := by decide +kernel
theorem dX9_takeNumber_83 : decode cX9_takeNumber 83 = .ok (.dup, 1) := by decide +kernel
theorem dX9_takeNumber_84 : decode cX9_takeNumber 84 = .ok (.getfield 18, 3) := by decide +kernel
theorem dX9_takeNumber_87 : decode cX9_takeNumber 87 = .ok (.iconst 1, 1) := by decide +kernel
theorem dX9_takeNumber_88 : decode cX9_takeNumber 88 = .ok (.iadd, 1) := by decide +kernel
theorem dX9_takeNumber_89 : decode cX9_takeNumber 89 = .ok (.putfield 18, 3) := by decide +kernel
theorem dX9_takeNumber_92 : decode cX9_takeNumber 92 = .ok (.goto (-82), 3) := by decide +kernel
theorem dX9_takeNumber_95 : decode cX9_takeNumber 95 = .ok (.return_, 1) := by decide +kernel
theorem dX9_isLetter_0 : decode cX9_isLetter 0 = .ok (.aload_n 0, 1) := by decide +kernel
theorem dX9_isLetter_1 : decode cX9_isLetter 1 = .ok (.getfield 27, 3) := by decide +kernel
theorem dX9_isLetter_4 : decode cX9_isLetter 4 = .ok (.iload_n 1, 1) := by decide +kernel
theorem dX9_isLetter_5 : decode cX9_isLetter 5 = .ok (.iaload, 1) := by decide +kernel
theorem dX9_isLetter_6 : decode cX9_isLetter 6 = .ok (.bipush 97, 2) := by decide +kernel
theorem dX9_isLetter_8 : decode cX9_isLetter 8 = .ok (.if_icmp .lt 18, 3) := by decide +kernel
theorem dX9_isLetter_11 : decode cX9_isLetter 11 = .ok (.aload_n 0, 1) := by decide +kernel
theorem dX9_isLetter_12 : decode cX9_isLetter 12 = .ok (.getfield 27, 3) := by decide +kernel
theorem dX9_isLetter_15 : decode cX9_isLetter 15 = .ok (.iload_n 1, 1) := by decide +kernel
theorem dX9_isLetter_16 : decode cX9_isLetter 16 = .ok (.iaload, 1) := by decide +kernel
theorem dX9_isLetter_17 : decode cX9_isLetter 17 = .ok (.bipush 122, 2) := by decide +kernel
theorem dX9_isLetter_19 : decode cX9_isLetter 19 = .ok (.if_icmp .gt 7, 3) := by decide +kernel
theorem dX9_isLetter_22 : decode cX9_isLetter 22 = .ok (.iconst 1, 1) := by decide +kernel
theorem dX9_isLetter_23 : decode cX9_isLetter 23 = .ok (.goto 4, 3) := by decide +kernel
theorem dX9_isLetter_26 : decode cX9_isLetter 26 = .ok (.iconst 0, 1) := by decide +kernel
theorem dX9_isLetter_27 : decode cX9_isLetter 27 = .ok (.ireturn, 1) := by decide +kernel
theorem dX9_isDigit_0 : decode cX9_isDigit 0 = .ok (.aload_n 0, 1) := by decide +kernel
theorem dX9_isDigit_1 : decode cX9_isDigit 1 = .ok (.getfield 27, 3) := by decide +kernel
theorem dX9_isDigit_4 : decode cX9_isDigit 4 = .ok (.iload_n 1, 1) := by decide +kernel
theorem dX9_isDigit_5 : decode cX9_isDigit 5 = .ok (.iaload, 1) := by decide +kernel
theorem dX9_isDigit_6 : decode cX9_isDigit 6 = .ok (.bipush 48, 2) := by decide +kernel
theorem dX9_isDigit_8 : decode cX9_isDigit 8 = .ok (.if_icmp .lt 18, 3) := by decide +kernel
theorem dX9_isDigit_11 : decode cX9_isDigit 11 = .ok (.aload_n 0, 1) := by decide +kernel
theorem dX9_isDigit_12 : decode cX9_isDigit 12 = .ok (.getfield 27, 3) := by decide +kernel
theorem dX9_isDigit_15 : decode cX9_isDigit 15 = .ok (.iload_n 1, 1) := by decide +kernel
theorem dX9_isDigit_16 : decode cX9_isDigit 16 = .ok (.iaload, 1) := by decide +kernel
theorem dX9_isDigit_17 : decode cX9_isDigit 17 = .ok (.bipush 57, 2) := by decide +kernel
theorem dX9_isDigit_19 : decode cX9_isDigit 19 = .ok (.if_icmp .gt 7, 3) := by decide +kernel
theorem dX9_isDigit_22 : decode cX9_isDigit 22 = .ok (.iconst 1, 1) := by decide +kernel
theorem dX9_isDigit_23 : decode cX9_isDigit 23 = .ok (.goto 4, 3) := by decide +kernel
theorem dX9_isDigit_26 : decode cX9_isDigit 26 = .ok (.iconst 0, 1) := by decide +kernel
theorem dX9_isDigit_27 : decode cX9_isDigit 27 = .ok (.ireturn, 1) := by decide +kernel
theorem dX9_isWord_0 : decode cX9_isWord 0 = .ok (.aload_n 1, 1) := by decide +kernel
theorem dX9_isWord_1 : decode cX9_isWord 1 = .ok (.invokevirtual 120, 3) := by decide +kernel
theorem dX9_isWord_4 : decode cX9_isWord 4 = .ok (.aload_n 0, 1) := by decide +kernel
theorem dX9_isWord_5 : decode cX9_isWord 5 = .ok (.getfield 18, 3) := by decide +kernel
theorem dX9_isWord_8 : decode cX9_isWord 8 = .ok (.aload_n 0, 1) := by decide +kernel
theorem dX9_isWord_9 : decode cX9_isWord 9 = .ok (.getfield 15, 3) := by decide +kernel
theorem dX9_isWord_12 : decode cX9_isWord 12 = .ok (.isub, 1) := by decide +kernel
theorem dX9_isWord_13 : decode cX9_isWord 13 = .ok (.if_icmp .eq 5, 3) := by decide +kernel
theorem dX9_isWord_16 : decode cX9_isWord 16 = .ok (.iconst 0, 1) := by decide +kernel
theorem dX9_isWord_17 : decode cX9_isWord 17 = .ok (.ireturn, 1) := by decide +kernel
theorem dX9_isWord_18 : decode cX9_isWord 18 = .ok (.iconst 0, 1) := by decide +kernel
theorem dX9_isWord_19 : decode cX9_isWord 19 = .ok (.istore_n 2, 1) := by decide +kernel
theorem dX9_isWord_20 : decode cX9_isWord 20 = .ok (.iload_n 2, 1) := by decide +kernel
theorem dX9_isWord_21 : decode cX9_isWord 21 = .ok (.aload_n 1, 1) := by decide +kernel
theorem dX9_isWord_22 : decode cX9_isWord 22 = .ok (.invokevirtual 120, 3) := by decide +kernel
theorem dX9_isWord_25 : decode cX9_isWord 25 = .ok (.if_icmp .ge 30, 3) := by decide +kernel
theorem dX9_isWord_28 : decode cX9_isWord 28 = .ok (.aload_n 0, 1) := by decide +kernel
theorem dX9_isWord_29 : decode cX9_isWord 29 = .ok (.getfield 27, 3) := by decide +kernel
theorem dX9_isWord_32 : decode cX9_isWord 32 = .ok (.aload_n 0, 1) := by decide +kernel
theorem dX9_isWord_33 : decode cX9_isWord 33 = .ok (.getfield 15, 3) := by decide +kernel
theorem dX9_isWord_36 : decode cX9_isWord 36 = .ok (.iload_n 2, 1) := by decide +kernel
theorem dX9_isWord_37 : decode cX9_isWord 37 = .ok (.iadd, 1) := by decide +kernel
theorem dX9_isWord_38 : decode cX9_isWord 38 = .ok (.iaload, 1) := by decide +kernel
theorem dX9_isWord_39 : decode cX9_isWord 39 = .ok (.aload_n 1, 1) := by decide +kernel
theorem dX9_isWord_40 : decode cX9_isWord 40 = .ok (.iload_n 2, 1) := by decide +kernel
theorem dX9_isWord_41 : decode cX9_isWord 41 = .ok (.invokevirtual 125, 3) := by decide +kernel
theorem dX9_isWord_44 : decode cX9_isWord 44 = .ok (.if_icmp .eq 5, 3) := by decide +kernel
theorem dX9_isWord_47 : decode cX9_isWord 47 = .ok (.iconst 0, 1) := by decide +kernel
theorem dX9_isWord_48 : decode cX9_isWord 48 = .ok (.ireturn, 1) := by decide +kernel
theorem dX9_isWord_49 : decode cX9_isWord 49 = .ok (.iinc 2 1, 3) := by decide +kernel
theorem dX9_isWord_52 : decode cX9_isWord 52 = .ok (.goto (-32), 3) := by decide +kernel
theorem dX9_isWord_55 : decode cX9_isWord 55 = .ok (.iconst 1, 1) := by decide +kernel
theorem dX9_isWord_56 : decode cX9_isWord 56 = .ok (.ireturn, 1) := by decide +kernel
theorem dX10_init_0 : decode cX10_init 0 = .ok (.aload_n 0, 1) := by decide +kernel
theorem dX10_init_1 : decode cX10_init 1 = .ok (.invokespecial 3, 3) := by decide +kernel
theorem dX10_init_4 : decode cX10_init 4 = .ok (.aload_n 0, 1) := by decide +kernel
theorem dX10_init_5 : decode cX10_init 5 = .ok (.bipush 96, 2) := by decide +kernel
theorem dX10_init_7 : decode cX10_init 7 = .ok (.newarray .int, 2) := by decide +kernel
theorem dX10_init_9 : decode cX10_init 9 = .ok (.putfield 11, 3) := by decide +kernel
theorem dX10_init_12 : decode cX10_init 12 = .ok (.aload_n 0, 1) := by decide +kernel
theorem dX10_init_13 : decode cX10_init 13 = .ok (.iconst 0, 1) := by decide +kernel
theorem dX10_init_14 : decode cX10_init 14 = .ok (.putfield 15, 3) := by decide +kernel
theorem dX10_init_17 : decode cX10_init 17 = .ok (.return_, 1) := by decide +kernel
theorem dX10_tell_0 : decode cX10_tell 0 = .ok (.aload_n 0, 1) := by decide +kernel
theorem dX10_tell_1 : decode cX10_tell 1 = .ok (.iconst 0, 1) := by decide +kernel
theorem dX10_tell_2 : decode cX10_tell 2 = .ok (.putfield 15, 3) := by decide +kernel
theorem dX10_tell_5 : decode cX10_tell 5 = .ok (.aload_n 0, 1) := by decide +kernel
theorem dX10_tell_6 : decode cX10_tell 6 = .ok (.ldc 19, 2) := by decide +kernel
theorem dX10_tell_8 : decode cX10_tell 8 = .ok (.invokevirtual 21, 3) := by decide +kernel
theorem dX10_tell_11 : decode cX10_tell 11 = .ok (.aload_n 2, 1) := by decide +kernel
theorem dX10_tell_12 : decode cX10_tell 12 = .ok (.getfield 25, 3) := by decide +kernel
theorem dX10_tell_15 : decode cX10_tell 15 = .ok (.iload_n 1, 1) := by decide +kernel
theorem dX10_tell_16 : decode cX10_tell 16 = .ok (.iaload, 1) := by decide +kernel
theorem dX10_tell_17 : decode cX10_tell 17 = .ok (.bipush 12, 2) := by decide +kernel
theorem dX10_tell_19 : decode cX10_tell 19 = .ok (.if_icmp .eq 19, 3) := by decide +kernel
theorem dX10_tell_22 : decode cX10_tell 22 = .ok (.aload_n 0, 1) := by decide +kernel
theorem dX10_tell_23 : decode cX10_tell 23 = .ok (.ldc 30, 2) := by decide +kernel
theorem dX10_tell_25 : decode cX10_tell 25 = .ok (.invokevirtual 21, 3) := by decide +kernel
theorem dX10_tell_28 : decode cX10_tell 28 = .ok (.aload_n 0, 1) := by decide +kernel
theorem dX10_tell_29 : decode cX10_tell 29 = .ok (.aload_n 2, 1) := by decide +kernel
theorem dX10_tell_30 : decode cX10_tell 30 = .ok (.getfield 25, 3) := by decide +kernel
theorem dX10_tell_33 : decode cX10_tell 33 = .ok (.iload_n 1, 1) := by decide +kernel
theorem dX10_tell_34 : decode cX10_tell 34 = .ok (.iaload, 1) := by decide +kernel
theorem dX10_tell_35 : decode cX10_tell 35 = .ok (.invokevirtual 32, 3) := by decide +kernel
theorem dX10_tell_38 : decode cX10_tell 38 = .ok (.iconst 0, 1) := by decide +kernel
theorem dX10_tell_39 : decode cX10_tell 39 = .ok (.istore 4, 2) := by decide +kernel
theorem dX10_tell_41 : decode cX10_tell 41 = .ok (.iload 4, 2) := by decide +kernel
theorem dX10_tell_43 : decode cX10_tell 43 = .ok (.iconst 3, 1) := by decide +kernel
theorem dX10_tell_44 : decode cX10_tell 44 = .ok (.if_icmp .ge 86, 3) := by decide +kernel
theorem dX10_tell_47 : decode cX10_tell 47 = .ok (.iload_n 1, 1) := by decide +kernel
theorem dX10_tell_48 : decode cX10_tell 48 = .ok (.iconst 3, 1) := by decide +kernel
theorem dX10_tell_49 : decode cX10_tell 49 = .ok (.imul, 1) := by decide +kernel
theorem dX10_tell_50 : decode cX10_tell 50 = .ok (.iload 4, 2) := by decide +kernel
theorem dX10_tell_52 : decode cX10_tell 52 = .ok (.iadd, 1) := by decide +kernel
theorem dX10_tell_53 : decode cX10_tell 53 = .ok (.istore 5, 2) := by decide +kernel
theorem dX10_tell_55 : decode cX10_tell 55 = .ok (.aload_n 3, 1) := by decide +kernel
theorem dX10_tell_56 : decode cX10_tell 56 = .ok (.iload 5, 2) := by decide +kernel
theorem dX10_tell_58 : decode cX10_tell 58 = .ok (.invokevirtual 36, 3) := by decide +kernel
theorem dX10_tell_61 : decode cX10_tell 61 = .ok (.ifCond .eq 63, 3) := by decide +kernel
theorem dX10_tell_64 : decode cX10_tell 64 = .ok (.aload_n 0, 1) := by decide +kernel
theorem dX10_tell_65 : decode cX10_tell 65 = .ok (.iload 4, 2) := by decide +kernel
theorem dX10_tell_67 : decode cX10_tell 67 = .ok (.ifCond .ne 8, 3) := by decide +kernel
theorem dX10_tell_70 : decode cX10_tell 70 = .ok (.ldc 42, 2) := by decide +kernel
theorem dX10_tell_72 : decode cX10_tell 72 = .ok (.goto 16, 3) := by decide +kernel
theorem dX10_tell_75 : decode cX10_tell 75 = .ok (.iload 4, 2) := by decide +kernel
theorem dX10_tell_77 : decode cX10_tell 77 = .ok (.iconst 1, 1) := by decide +kernel
theorem dX10_tell_78 : decode cX10_tell 78 = .ok (.if_icmp .ne 8, 3) := by decide +kernel
theorem dX10_tell_81 : decode cX10_tell 81 = .ok (.ldc 44, 2) := by decide +kernel
theorem dX10_tell_83 : decode cX10_tell 83 = .ok (.goto 5, 3) := by decide +kernel
theorem dX10_tell_86 : decode cX10_tell 86 = .ok (.ldc 46, 2) := by decide +kernel
theorem dX10_tell_88 : decode cX10_tell 88 = .ok (.invokevirtual 21, 3) := by decide +kernel
theorem dX10_tell_91 : decode cX10_tell 91 = .ok (.aload_n 0, 1) := by decide +kernel
theorem dX10_tell_92 : decode cX10_tell 92 = .ok (.aload_n 3, 1) := by decide +kernel
theorem dX10_tell_93 : decode cX10_tell 93 = .ok (.getfield 48, 3) := by decide +kernel
theorem dX10_tell_96 : decode cX10_tell 96 = .ok (.iload 5, 2) := by decide +kernel
theorem dX10_tell_98 : decode cX10_tell 98 = .ok (.iaload, 1) := by decide +kernel
theorem dX10_tell_99 : decode cX10_tell 99 = .ok (.invokevirtual 32, 3) := by decide +kernel
theorem dX10_tell_102 : decode cX10_tell 102 = .ok (.aload_n 0, 1) := by decide +kernel
theorem dX10_tell_103 : decode cX10_tell 103 = .ok (.aload_n 3, 1) := by decide +kernel
theorem dX10_tell_104 : decode cX10_tell 104 = .ok (.getfield 51, 3) := by decide +kernel
theorem dX10_tell_107 : decode cX10_tell 107 = .ok (.iload 5, 2) := by decide +kernel
theorem dX10_tell_109 : decode cX10_tell 109 = .ok (.iaload, 1) := by decide +kernel
theorem dX10_tell_110 : decode cX10_tell 110 = .ok (.invokevirtual 32, 3) := by decide +kernel
theorem dX10_tell_113 : decode cX10_tell 113 = .ok (.aload_n 0, 1) := by decide +kernel
theorem dX10_tell_114 : decode cX10_tell 114 = .ok (.aload_n 3, 1) := by decide +kernel
theorem dX10_tell_115 : decode cX10_tell 115 = .ok (.getfield 54, 3) := by decide +kernel
theorem dX10_tell_118 : decode cX10_tell 118 = .ok (.iload 5, 2) := by decide +kernel
theorem dX10_tell_120 : decode cX10_tell 120 = .ok (.iaload, 1) := by decide +kernel
theorem dX10_tell_121 : decode cX10_tell 121 = .ok (.invokevirtual 32, 3) := by decide +kernel
theorem dX10_tell_124 : decode cX10_tell 124 = .ok (.iinc 4 1, 3) := by decide +kernel
theorem dX10_tell_127 : decode cX10_tell 127 = .ok (.goto (-86), 3) := by decide +kernel
theorem dX10_tell_130 : decode cX10_tell 130 = .ok (.aload_n 0, 1) := by decide +kernel
theorem dX10_tell_131 : decode cX10_tell 131 = .ok (.ldc 57, 2) := by decide +kernel
theorem dX10_tell_133 : decode cX10_tell 133 = .ok (.invokevirtual 21, 3) := by decide +kernel
theorem dX10_tell_136 : decode cX10_tell 136 = .ok (.return_, 1) := by decide +kernel
theorem dX10_putText_0 : decode cX10_putText 0 = .ok (.iconst 0, 1) := by decide +kernel
theorem dX10_putText_1 : decode cX10_putText 1 = .ok (.istore_n 2, 1) := by decide +kernel
theorem dX10_putText_2 : decode cX10_putText 2 = .ok (.iload_n 2, 1) := by decide +kernel
theorem dX10_putText_3 : decode cX10_putText 3 = .ok (.aload_n 1, 1) := by decide +kernel
theorem dX10_putText_4 : decode cX10_putText 4 = .ok (.invokevirtual 59, 3) := by decide +kernel
theorem dX10_putText_7 : decode cX10_putText 7 = .ok (.if_icmp .ge 18, 3) := by decide +kernel
theorem dX10_putText_10 : decode cX10_putText 10 = .ok (.aload_n 0, 1) := by decide +kernel
theorem dX10_putText_11 : decode cX10_putText 11 = .ok (.aload_n 1, 1) := by decide +kernel
theorem dX10_putText_12 : decode cX10_putText 12 = .ok (.iload_n 2, 1) := by decide +kernel
theorem dX10_putText_13 : decode cX10_putText 13 = .ok (.invokevirtual 64, 3) := by decide +kernel
theorem dX10_putText_16 : decode cX10_putText 16 = .ok (.invokevirtual 68, 3) := by decide +kernel
theorem dX10_putText_19 : decode cX10_putText 19 = .ok (.iinc 2 1, 3) := by decide +kernel
theorem dX10_putText_22 : decode cX10_putText 22 = .ok (.goto (-20), 3) := by decide +kernel
theorem dX10_putText_25 : decode cX10_putText 25 = .ok (.return_, 1) := by decide +kernel
theorem dX10_putNumber_0 : decode cX10_putNumber 0 = .ok (.aload_n 0, 1) := by decide +kernel
theorem dX10_putNumber_1 : decode cX10_putNumber 1 = .ok (.bipush 32, 2) := by decide +kernel
theorem dX10_putNumber_3 : decode cX10_putNumber 3 = .ok (.invokevirtual 68, 3) := by decide +kernel
theorem dX10_putNumber_6 : decode cX10_putNumber 6 = .ok (.iload_n 1, 1) := by decide +kernel
theorem dX10_putNumber_7 : decode cX10_putNumber 7 = .ok (.bipush 100, 2) := by decide +kernel
theorem dX10_putNumber_9 : decode cX10_putNumber 9 = .ok (.if_icmp .lt 17, 3) := by decide +kernel
theorem dX10_putNumber_12 : decode cX10_putNumber 12 = .ok (.aload_n 0, 1) := by decide +kernel
theorem dX10_putNumber_13 : decode cX10_putNumber 13 = .ok (.bipush 48, 2) := by decide +kernel
theorem dX10_putNumber_15 : decode cX10_putNumber 15 = .ok (.iload_n 1, 1) := by decide +kernel
theorem dX10_putNumber_16 : decode cX10_putNumber 16 = .ok (.bipush 100, 2) := by decide +kernel
theorem dX10_putNumber_18 : decode cX10_putNumber 18 = .ok (.idiv, 1) := by decide +kernel
theorem dX10_putNumber_19 : decode cX10_putNumber 19 = .ok (.bipush 10, 2) := by decide +kernel
theorem dX10_putNumber_21 : decode cX10_putNumber 21 = .ok (.irem, 1) := by decide +kernel
theorem dX10_putNumber_22 : decode cX10_putNumber 22 = .ok (.iadd, 1) := by decide +kernel
theorem dX10_putNumber_23 : decode cX10_putNumber 23 = .ok (.invokevirtual 68, 3) := by decide +kernel
theorem dX10_putNumber_26 : decode cX10_putNumber 26 = .ok (.iload_n 1, 1) := by decide +kernel
theorem dX10_putNumber_27 : decode cX10_putNumber 27 = .ok (.bipush 10, 2) := by decide +kernel
theorem dX10_putNumber_29 : decode cX10_putNumber 29 = .ok (.if_icmp .lt 17, 3) := by decide +kernel
theorem dX10_putNumber_32 : decode cX10_putNumber 32 = .ok (.aload_n 0, 1) := by decide +kernel
theorem dX10_putNumber_33 : decode cX10_putNumber 33 = .ok (.bipush 48, 2) := by decide +kernel
theorem dX10_putNumber_35 : decode cX10_putNumber 35 = .ok (.iload_n 1, 1) := by decide +kernel
theorem dX10_putNumber_36 : decode cX10_putNumber 36 = .ok (.bipush 10, 2) := by decide +kernel
theorem dX10_putNumber_38 : decode cX10_putNumber 38 = .ok (.idiv, 1) := by decide +kernel
theorem dX10_putNumber_39 : decode cX10_putNumber 39 = .ok (.bipush 10, 2) := by decide +kernel
theorem dX10_putNumber_41 : decode cX10_putNumber 41 = .ok (.irem, 1) := by decide +kernel
theorem dX10_putNumber_42 : decode cX10_putNumber 42 = .ok (.iadd, 1) := by decide +kernel
theorem dX10_putNumber_43 : decode cX10_putNumber 43 = .ok (.invokevirtual 68, 3) := by decide +kernel
theorem dX10_putNumber_46 : decode cX10_putNumber 46 = .ok (.aload_n 0, 1) := by decide +kernel
theorem dX10_putNumber_47 : decode cX10_putNumber 47 = .ok (.bipush 48, 2) := by decide +kernel
theorem dX10_putNumber_49 : decode cX10_putNumber 49 = .ok (.iload_n 1, 1) := by decide +kernel
theorem dX10_putNumber_50 : decode cX10_putNumber 50 = .ok (.bipush 10, 2) := by decide +kernel
theorem dX10_putNumber_52 : decode cX10_putNumber 52 = .ok (.irem, 1) := by decide +kernel
theorem dX10_putNumber_53 : decode cX10_putNumber 53 = .ok (.iadd, 1) := by decide +kernel
theorem dX10_putNumber_54 : decode cX10_putNumber 54 = .ok (.invokevirtual 68, 3) := by decide +kernel
theorem dX10_putNumber_57 : decode cX10_putNumber 57 = .ok (.return_, 1) := by decide +kernel
theorem dX10_putSign_0 : decode cX10_putSign 0 = .ok (.aload_n 0, 1) := by decide +kernel
theorem dX10_putSign_1 : decode cX10_putSign 1 = .ok (.getfield 15, 3) := by decide +kernel
theorem dX10_putSign_4 : decode cX10_putSign 4 = .ok (.bipush 96, 2) := by decide +kernel
theorem dX10_putSign_6 : decode cX10_putSign 6 = .ok (.if_icmp .ge 23, 3) := by decide +kernel
theorem dX10_putSign_9 : decode cX10_putSign 9 = .ok (.aload_n 0, 1) := by decide +kernel
theorem dX10_putSign_10 : decode cX10_putSign 10 = .ok (.getfield 11, 3) := by decide +kernel
theorem dX10_putSign_13 : decode cX10_putSign 13 = .ok (.aload_n 0, 1) := by decide +kernel
theorem dX10_putSign_14 : decode cX10_putSign 14 = .ok (.getfield 15, 3) := by decide +kernel
theorem dX10_putSign_17 : decode cX10_putSign 17 = .ok (.iload_n 1, 1) := by decide +kernel
theorem dX10_putSign_18 : decode cX10_putSign 18 = .ok (.iastore, 1) := by decide +kernel
theorem dX10_putSign_19 : decode cX10_putSign 19 = .ok (.aload_n 0, 1) := by decide +kernel
theorem dX10_putSign_20 : decode cX10_putSign 20 = .ok (.dup, 1) := by decide +kernel
theorem dX10_putSign_21 : decode cX10_putSign 21 = .ok (.getfield 15, 3) := by decide +kernel
theorem dX10_putSign_24 : decode cX10_putSign 24 = .ok (.iconst 1, 1) := by decide +kernel
theorem dX10_putSign_25 : decode cX10_putSign 25 = .ok (.iadd, 1) := by decide +kernel
theorem dX10_putSign_26 : decode cX10_putSign 26 = .ok (.putfield 15, 3) := by decide +kernel
theorem dX10_putSign_29 : decode cX10_putSign 29 = .ok (.return_, 1) := by decide +kernel
theorem dX11_init_0 : decode cX11_init 0 = .ok (.aload_n 0, 1) := by decide +kernel
theorem dX11_init_1 : decode cX11_init 1 = .ok (.invokespecial 3, 3) := by decide +kernel
theorem dX11_init_4 : decode cX11_init 4 = .ok (.aload_n 0, 1) := by decide +kernel
theorem dX11_init_5 : decode cX11_init 5 = .ok (.sipush 700, 3) := by decide +kernel
theorem dX11_init_8 : decode cX11_init 8 = .ok (.newarray .int, 2) := by decide +kernel
theorem dX11_init_10 : decode cX11_init 10 = .ok (.putfield 9, 3) := by decide +kernel
theorem dX11_init_13 : decode cX11_init 13 = .ok (.aload_n 0, 1) := by decide +kernel
theorem dX11_init_14 : decode cX11_init 14 = .ok (.iconst 0, 1) := by decide +kernel
theorem dX11_init_15 : decode cX11_init 15 = .ok (.putfield 13, 3) := by decide +kernel
theorem dX11_init_18 : decode cX11_init 18 = .ok (.aload_n 0, 1) := by decide +kernel
theorem dX11_init_19 : decode cX11_init 19 = .ok (.iconst (-1), 1) := by decide +kernel
theorem dX11_init_20 : decode cX11_init 20 = .ok (.putfield 17, 3) := by decide +kernel
theorem dX11_init_23 : decode cX11_init 23 = .ok (.aload_n 0, 1) := by decide +kernel
theorem dX11_init_24 : decode cX11_init 24 = .ok (.iconst 3, 1) := by decide +kernel
theorem dX11_init_25 : decode cX11_init 25 = .ok (.newarray .int, 2) := by decide +kernel
theorem dX11_init_27 : decode cX11_init 27 = .ok (.putfield 20, 3) := by decide +kernel
theorem dX11_init_30 : decode cX11_init 30 = .ok (.aload_n 0, 1) := by decide +kernel
theorem dX11_init_31 : decode cX11_init 31 = .ok (.new 23, 3) := by decide +kernel
theorem dX11_init_34 : decode cX11_init 34 = .ok (.dup, 1) := by decide +kernel
theorem dX11_init_35 : decode cX11_init 35 = .ok (.invokespecial 25, 3) := by decide +kernel
theorem dX11_init_38 : decode cX11_init 38 = .ok (.putfield 26, 3) := by decide +kernel
theorem dX11_init_41 : decode cX11_init 41 = .ok (.aload_n 0, 1) := by decide +kernel
theorem dX11_init_42 : decode cX11_init 42 = .ok (.new 23, 3) := by decide +kernel
theorem dX11_init_45 : decode cX11_init 45 = .ok (.dup, 1) := by decide +kernel
theorem dX11_init_46 : decode cX11_init 46 = .ok (.invokespecial 25, 3) := by decide +kernel
theorem dX11_init_49 : decode cX11_init 49 = .ok (.putfield 30, 3) := by decide +kernel
theorem dX11_init_52 : decode cX11_init 52 = .ok (.aload_n 0, 1) := by decide +kernel
theorem dX11_init_53 : decode cX11_init 53 = .ok (.new 33, 3) := by decide +kernel
theorem dX11_init_56 : decode cX11_init 56 = .ok (.dup, 1) := by decide +kernel
theorem dX11_init_57 : decode cX11_init 57 = .ok (.aload_n 0, 1) := by decide +kernel
theorem dX11_init_58 : decode cX11_init 58 = .ok (.getfield 9, 3) := by decide +kernel
theorem dX11_init_61 : decode cX11_init 61 = .ok (.aload_n 0, 1) := by decide +kernel
theorem dX11_init_62 : decode cX11_init 62 = .ok (.getfield 30, 3) := by decide +kernel
theorem dX11_init_65 : decode cX11_init 65 = .ok (.invokespecial 35, 3) := by decide +kernel
theorem dX11_init_68 : decode cX11_init 68 = .ok (.putfield 38, 3) := by decide +kernel
theorem dX11_init_71 : decode cX11_init 71 = .ok (.aload_n 0, 1) := by decide +kernel
theorem dX11_init_72 : decode cX11_init 72 = .ok (.new 42, 3) := by decide +kernel
theorem dX11_init_75 : decode cX11_init 75 = .ok (.dup, 1) := by decide +kernel
theorem dX11_init_76 : decode cX11_init 76 = .ok (.aload_n 0, 1) := by decide +kernel
theorem dX11_init_77 : decode cX11_init 77 = .ok (.getfield 26, 3) := by decide +kernel
theorem dX11_init_80 : decode cX11_init 80 = .ok (.invokespecial 44, 3) := by decide +kernel
theorem dX11_init_83 : decode cX11_init 83 = .ok (.putfield 47, 3) := by decide +kernel
theorem dX11_init_86 : decode cX11_init 86 = .ok (.aload_n 0, 1) := by decide +kernel
theorem dX11_init_87 : decode cX11_init 87 = .ok (.new 51, 3) := by decide +kernel
theorem dX11_init_90 : decode cX11_init 90 = .ok (.dup, 1) := by decide +kernel
theorem dX11_init_91 : decode cX11_init 91 = .ok (.aload_n 0, 1) := by decide +kernel
theorem dX11_init_92 : decode cX11_init 92 = .ok (.getfield 26, 3) := by decide +kernel
theorem dX11_init_95 : decode cX11_init 95 = .ok (.invokespecial 53, 3) := by decide +kernel
theorem dX11_init_98 : decode cX11_init 98 = .ok (.putfield 54, 3) := by decide +kernel
theorem dX11_init_101 : decode cX11_init 101 = .ok (.aload_n 0, 1) := by decide +kernel
theorem dX11_init_102 : decode cX11_init 102 = .ok (.new 58, 3) := by decide +kernel
theorem dX11_init_105 : decode cX11_init 105 = .ok (.dup, 1) := by decide +kernel
theorem dX11_init_106 : decode cX11_init 106 = .ok (.invokespecial 60, 3) := by decide +kernel
theorem dX11_init_109 : decode cX11_init 109 = .ok (.putfield 61, 3) := by decide +kernel
theorem dX11_init_112 : decode cX11_init 112 = .ok (.aload_n 0, 1) := by decide +kernel
theorem dX11_init_113 : decode cX11_init 113 = .ok (.iconst 0, 1) := by decide +kernel
theorem dX11_init_114 : decode cX11_init 114 = .ok (.putfield 65, 3) := by decide +kernel
theorem dX11_init_117 : decode cX11_init 117 = .ok (.aload_n 0, 1) := by decide +kernel
theorem dX11_init_118 : decode cX11_init 118 = .ok (.new 42, 3) := by decide +kernel
theorem dX11_init_121 : decode cX11_init 121 = .ok (.dup, 1) := by decide +kernel
theorem dX11_init_122 : decode cX11_init 122 = .ok (.aload_n 0, 1) := by decide +kernel
theorem dX11_init_123 : decode cX11_init 123 = .ok (.getfield 26, 3) := by decide +kernel
theorem dX11_init_126 : decode cX11_init 126 = .ok (.invokespecial 44, 3) := by decide +kernel
theorem dX11_init_129 : decode cX11_init 129 = .ok (.putfield 69, 3) := by decide +kernel
theorem dX11_init_132 : decode cX11_init 132 = .ok (.aload_n 0, 1) := by decide +kernel
theorem dX11_init_133 : decode cX11_init 133 = .ok (.new 51, 3) := by decide +kernel
theorem dX11_init_136 : decode cX11_init 136 = .ok (.dup, 1) := by decide +kernel
theorem dX11_init_137 : decode cX11_init 137 = .ok (.aload_n 0, 1) := by decide +kernel
theorem dX11_init_138 : decode cX11_init 138 = .ok (.getfield 26, 3) := by decide +kernel
theorem dX11_init_141 : decode cX11_init 141 = .ok (.invokespecial 53, 3) := by decide +kernel
theorem dX11_init_144 : decode cX11_init 144 = .ok (.putfield 72, 3) := by decide +kernel
theorem dX11_init_147 : decode cX11_init 147 = .ok (.aload_n 0, 1) := by decide +kernel
theorem dX11_init_148 : decode cX11_init 148 = .ok (.new 58, 3) := by decide +kernel
theorem dX11_init_151 : decode cX11_init 151 = .ok (.dup, 1) := by decide +kernel
theorem dX11_init_152 : decode cX11_init 152 = .ok (.invokespecial 60, 3) := by decide +kernel
theorem dX11_init_155 : decode cX11_init 155 = .ok (.putfield 75, 3) := by decide +kernel
theorem dX11_init_158 : decode cX11_init 158 = .ok (.aload_n 0, 1) := by decide +kernel
theorem dX11_init_159 : decode cX11_init 159 = .ok (.iconst 3, 1) := by decide +kernel
theorem dX11_init_160 : decode cX11_init 160 = .ok (.newarray .int, 2) := by decide +kernel
theorem dX11_init_162 : decode cX11_init 162 = .ok (.putfield 78, 3) := by decide +kernel
theorem dX11_init_165 : decode cX11_init 165 = .ok (.aload_n 0, 1) := by decide +kernel
theorem dX11_init_166 : decode cX11_init 166 = .ok (.new 42, 3) := by decide +kernel
theorem dX11_init_169 : decode cX11_init 169 = .ok (.dup, 1) := by decide +kernel
theorem dX11_init_170 : decode cX11_init 170 = .ok (.aload_n 0, 1) := by decide +kernel
theorem dX11_init_171 : decode cX11_init 171 = .ok (.getfield 26, 3) := by decide +kernel
theorem dX11_init_174 : decode cX11_init 174 = .ok (.invokespecial 44, 3) := by decide +kernel
theorem dX11_init_177 : decode cX11_init 177 = .ok (.putfield 81, 3) := by decide +kernel
theorem dX11_init_180 : decode cX11_init 180 = .ok (.aload_n 0, 1) := by decide +kernel
theorem dX11_init_181 : decode cX11_init 181 = .ok (.new 84, 3) := by decide +kernel
theorem dX11_init_184 : decode cX11_init 184 = .ok (.dup, 1) := by decide +kernel
theorem dX11_init_185 : decode cX11_init 185 = .ok (.aload_n 0, 1) := by decide +kernel
theorem dX11_init_186 : decode cX11_init 186 = .ok (.getfield 26, 3) := by decide +kernel
theorem dX11_init_189 : decode cX11_init 189 = .ok (.aload_n 0, 1) := by decide +kernel
theorem dX11_init_190 : decode cX11_init 190 = .ok (.getfield 47, 3) := by decide +kernel
theorem dX11_init_193 : decode cX11_init 193 = .ok (.invokespecial 86, 3) := by decide +kernel
theorem dX11_init_196 : decode cX11_init 196 = .ok (.putfield 89, 3) := by decide +kernel
theorem dX11_init_199 : decode cX11_init 199 = .ok (.aload_n 0, 1) := by decide +kernel
theorem dX11_init_200 : decode cX11_init 200 = .ok (.new 93, 3) := by decide +kernel
theorem dX11_init_203 : decode cX11_init 203 = .ok (.dup, 1) := by decide +kernel
theorem dX11_init_204 : decode cX11_init 204 = .ok (.aload_n 0, 1) := by decide +kernel
theorem dX11_init_205 : decode cX11_init 205 = .ok (.getfield 26, 3) := by decide +kernel
theorem dX11_init_208 : decode cX11_init 208 = .ok (.aload_n 0, 1) := by decide +kernel
theorem dX11_init_209 : decode cX11_init 209 = .ok (.getfield 47, 3) := by decide +kernel
theorem dX11_init_212 : decode cX11_init 212 = .ok (.aload_n 0, 1) := by decide +kernel
theorem dX11_init_213 : decode cX11_init 213 = .ok (.getfield 81, 3) := by decide +kernel
theorem dX11_init_216 : decode cX11_init 216 = .ok (.invokespecial 95, 3) := by decide +kernel
theorem dX11_init_219 : decode cX11_init 219 = .ok (.putfield 98, 3) := by decide +kernel
theorem dX11_init_222 : decode cX11_init 222 = .ok (.aload_n 0, 1) := by decide +kernel
theorem dX11_init_223 : decode cX11_init 223 = .ok (.new 102, 3) := by decide +kernel
theorem dX11_init_226 : decode cX11_init 226 = .ok (.dup, 1) := by decide +kernel
theorem dX11_init_227 : decode cX11_init 227 = .ok (.aload_n 0, 1) := by decide +kernel
theorem dX11_init_228 : decode cX11_init 228 = .ok (.getfield 26, 3) := by decide +kernel
theorem dX11_init_231 : decode cX11_init 231 = .ok (.aload_n 0, 1) := by decide +kernel
theorem dX11_init_232 : decode cX11_init 232 = .ok (.getfield 47, 3) := by decide +kernel
theorem dX11_init_235 : decode cX11_init 235 = .ok (.aload_n 0, 1) := by decide +kernel
theorem dX11_init_236 : decode cX11_init 236 = .ok (.getfield 81, 3) := by decide +kernel
theorem dX11_init_239 : decode cX11_init 239 = .ok (.aload_n 0, 1) := by decide +kernel
theorem dX11_init_240 : decode cX11_init 240 = .ok (.getfield 61, 3) := by decide +kernel
theorem dX11_init_243 : decode cX11_init 243 = .ok (.invokespecial 104, 3) := by decide +kernel
theorem dX11_init_246 : decode cX11_init 246 = .ok (.putfield 107, 3) := by decide +kernel
theorem dX11_init_249 : decode cX11_init 249 = .ok (.aload_n 0, 1) := by decide +kernel
theorem dX11_init_250 : decode cX11_init 250 = .ok (.new 111, 3) := by decide +kernel
theorem dX11_init_253 : decode cX11_init 253 = .ok (.dup, 1) := by decide +kernel
theorem dX11_init_254 : decode cX11_init 254 = .ok (.aload_n 0, 1) := by decide +kernel
theorem dX11_init_255 : decode cX11_init 255 = .ok (.getfield 26, 3) := by decide +kernel
theorem dX11_init_258 : decode cX11_init 258 = .ok (.aload_n 0, 1) := by decide +kernel
theorem dX11_init_259 : decode cX11_init 259 = .ok (.getfield 47, 3) := by decide +kernel
theorem dX11_init_262 : decode cX11_init 262 = .ok (.aload_n 0, 1) := by decide +kernel
theorem dX11_init_263 : decode cX11_init 263 = .ok (.getfield 81, 3) := by decide +kernel
theorem dX11_init_266 : decode cX11_init 266 = .ok (.invokespecial 113, 3) := by decide +kernel
theorem dX11_init_269 : decode cX11_init 269 = .ok (.putfield 114, 3) := by decide +kernel
theorem dX11_init_272 : decode cX11_init 272 = .ok (.aload_n 0, 1) := by decide +kernel
theorem dX11_init_273 : decode cX11_init 273 = .ok (.new 118, 3) := by decide +kernel
theorem dX11_init_276 : decode cX11_init 276 = .ok (.dup, 1) := by decide +kernel
theorem dX11_init_277 : decode cX11_init 277 = .ok (.invokespecial 120, 3) := by decide +kernel
theorem dX11_init_280 : decode cX11_init 280 = .ok (.putfield 121, 3) := by decide +kernel
theorem dX11_init_283 : decode cX11_init 283 = .ok (.return_, 1) := by decide +kernel
theorem dX11_feed_0 : decode cX11_feed 0 = .ok (.aload_n 0, 1) := by decide +kernel
theorem dX11_feed_1 : decode cX11_feed 1 = .ok (.getfield 13, 3) := by decide +kernel
theorem dX11_feed_4 : decode cX11_feed 4 = .ok (.bipush 20, 2) := by decide +kernel
theorem dX11_feed_6 : decode cX11_feed 6 = .ok (.iadd, 1) := by decide +kernel
theorem dX11_feed_7 : decode cX11_feed 7 = .ok (.sipush 700, 3) := by decide +kernel
theorem dX11_feed_10 : decode cX11_feed 10 = .ok (.if_icmp .le 5, 3) := by decide +kernel
theorem dX11_feed_13 : decode cX11_feed 13 = .ok (.iconst (-1), 1) := by decide +kernel
theorem dX11_feed_14 : decode cX11_feed 14 = .ok (.ireturn, 1) := by decide +kernel
theorem dX11_feed_15 : decode cX11_feed 15 = .ok (.aload_n 0, 1) := by decide +kernel
theorem dX11_feed_16 : decode cX11_feed 16 = .ok (.iload_n 1, 1) := by decide +kernel
theorem dX11_feed_17 : decode cX11_feed 17 = .ok (.invokevirtual 125, 3) := by decide +kernel
theorem dX11_feed_20 : decode cX11_feed 20 = .ok (.aload_n 0, 1) := by decide +kernel
theorem dX11_feed_21 : decode cX11_feed 21 = .ok (.iload_n 2, 1) := by decide +kernel
theorem dX11_feed_22 : decode cX11_feed 22 = .ok (.invokevirtual 125, 3) := by decide +kernel
theorem dX11_feed_25 : decode cX11_feed 25 = .ok (.aload_n 0, 1) := by decide +kernel
theorem dX11_feed_26 : decode cX11_feed 26 = .ok (.iload_n 3, 1) := by decide +kernel
theorem dX11_feed_27 : decode cX11_feed 27 = .ok (.invokevirtual 125, 3) := by decide +kernel
theorem dX11_feed_30 : decode cX11_feed 30 = .ok (.aload_n 0, 1) := by decide +kernel
theorem dX11_feed_31 : decode cX11_feed 31 = .ok (.iload 4, 2) := by decide +kernel
theorem dX11_feed_33 : decode cX11_feed 33 = .ok (.invokevirtual 125, 3) := by decide +kernel
theorem dX11_feed_36 : decode cX11_feed 36 = .ok (.aload_n 0, 1) := by decide +kernel
theorem dX11_feed_37 : decode cX11_feed 37 = .ok (.iload 5, 2) := by decide +kernel
theorem dX11_feed_39 : decode cX11_feed 39 = .ok (.invokevirtual 125, 3) := by decide +kernel
theorem dX11_feed_42 : decode cX11_feed 42 = .ok (.aload_n 0, 1) := by decide +kernel
theorem dX11_feed_43 : decode cX11_feed 43 = .ok (.getfield 13, 3) := by decide +kernel
theorem dX11_feed_46 : decode cX11_feed 46 = .ok (.ireturn, 1) := by decide +kernel
theorem dX11_putNumber_0 : decode cX11_putNumber 0 = .ok (.bipush 24, 2) := by decide +kernel
theorem dX11_putNumber_2 : decode cX11_putNumber 2 = .ok (.istore_n 2, 1) := by decide +kernel
theorem dX11_putNumber_3 : decode cX11_putNumber 3 = .ok (.iload_n 2, 1) := by decide +kernel
theorem dX11_putNumber_4 : decode cX11_putNumber 4 = .ok (.ifCond .lt 45, 3) := by decide +kernel
theorem dX11_putNumber_7 : decode cX11_putNumber 7 = .ok (.aload_n 0, 1) := by decide +kernel
theorem dX11_putNumber_8 : decode cX11_putNumber 8 = .ok (.getfield 13, 3) := by decide +kernel
theorem dX11_putNumber_11 : decode cX11_putNumber 11 = .ok (.sipush 700, 3) := by decide +kernel
theorem dX11_putNumber_14 : decode cX11_putNumber 14 = .ok (.if_icmp .ge 29, 3) := by decide +kernel
theorem dX11_putNumber_17 : decode cX11_putNumber 17 = .ok (.aload_n 0, 1) := by decide +kernel
theorem dX11_putNumber_18 : decode cX11_putNumber 18 = .ok (.getfield 9, 3) := by decide +kernel
theorem dX11_putNumber_21 : decode cX11_putNumber 21 = .ok (.aload_n 0, 1) := by decide +kernel
theorem dX11_putNumber_22 : decode cX11_putNumber 22 = .ok (.getfield 13, 3) := by decide +kernel
theorem dX11_putNumber_25 : decode cX11_putNumber 25 = .ok (.iload_n 1, 1) := by decide +kernel
theorem dX11_putNumber_26 : decode cX11_putNumber 26 = .ok (.iload_n 2, 1) := by decide +kernel
theorem dX11_putNumber_27 : decode cX11_putNumber 27 = .ok (.iushr, 1) := by decide +kernel
theorem dX11_putNumber_28 : decode cX11_putNumber 28 = .ok (.sipush 255, 3) := by decide +kernel
theorem dX11_putNumber_31 : decode cX11_putNumber 31 = .ok (.iand, 1) := by decide +kernel
theorem dX11_putNumber_32 : decode cX11_putNumber 32 = .ok (.iastore, 1) := by decide +kernel
theorem dX11_putNumber_33 : decode cX11_putNumber 33 = .ok (.aload_n 0, 1) := by decide +kernel
theorem dX11_putNumber_34 : decode cX11_putNumber 34 = .ok (.dup, 1) := by decide +kernel
theorem dX11_putNumber_35 : decode cX11_putNumber 35 = .ok (.getfield 13, 3) := by decide +kernel
theorem dX11_putNumber_38 : decode cX11_putNumber 38 = .ok (.iconst 1, 1) := by decide +kernel
theorem dX11_putNumber_39 : decode cX11_putNumber 39 = .ok (.iadd, 1) := by decide +kernel
theorem dX11_putNumber_40 : decode cX11_putNumber 40 = .ok (.putfield 13, 3) := by decide +kernel
theorem dX11_putNumber_43 : decode cX11_putNumber 43 = .ok (.iinc 2 (-8), 3) := by decide +kernel
theorem dX11_putNumber_46 : decode cX11_putNumber 46 = .ok (.goto (-43), 3) := by decide +kernel
theorem dX11_putNumber_49 : decode cX11_putNumber 49 = .ok (.return_, 1) := by decide +kernel
theorem dX11_link_0 : decode cX11_link 0 = .ok (.iload_n 1, 1) := by decide +kernel
theorem dX11_link_1 : decode cX11_link 1 = .ok (.ifCond .lt 11, 3) := by decide +kernel
theorem dX11_link_4 : decode cX11_link 4 = .ok (.iload_n 1, 1) := by decide +kernel
theorem dX11_link_5 : decode cX11_link 5 = .ok (.aload_n 0, 1) := by decide +kernel
theorem dX11_link_6 : decode cX11_link 6 = .ok (.getfield 13, 3) := by decide +kernel
theorem dX11_link_9 : decode cX11_link 9 = .ok (.if_icmp .le 11, 3) := by decide +kernel
theorem dX11_link_12 : decode cX11_link 12 = .ok (.new 129, 3) := by decide +kernel
theorem dX11_link_15 : decode cX11_link 15 = .ok (.dup, 1) := by decide +kernel
theorem dX11_link_16 : decode cX11_link 16 = .ok (.invokespecial 131, 3) := by decide +kernel
theorem dX11_link_19 : decode cX11_link 19 = .ok (.athrow, 1) := by decide +kernel
theorem dX11_link_20 : decode cX11_link 20 = .ok (.aload_n 0, 1) := by decide +kernel
theorem dX11_link_21 : decode cX11_link 21 = .ok (.getfield 38, 3) := by decide +kernel
theorem dX11_link_24 : decode cX11_link 24 = .ok (.iload_n 1, 1) := by decide +kernel
theorem dX11_link_25 : decode cX11_link 25 = .ok (.invokevirtual 132, 3) := by decide +kernel
theorem dX11_link_28 : decode cX11_link 28 = .ok (.istore_n 2, 1) := by decide +kernel
theorem dX11_link_29 : decode cX11_link 29 = .ok (.aload_n 0, 1) := by decide +kernel
theorem dX11_link_30 : decode cX11_link 30 = .ok (.iconst 0, 1) := by decide +kernel
theorem dX11_link_31 : decode cX11_link 31 = .ok (.putfield 13, 3) := by decide +kernel
theorem dX11_link_34 : decode cX11_link 34 = .ok (.iload_n 2, 1) := by decide +kernel
theorem dX11_link_35 : decode cX11_link 35 = .ok (.ifCond .eq 26, 3) := by decide +kernel
theorem dX11_link_38 : decode cX11_link 38 = .ok (.aload_n 0, 1) := by decide +kernel
theorem dX11_link_39 : decode cX11_link 39 = .ok (.aload_n 0, 1) := by decide +kernel
theorem dX11_link_40 : decode cX11_link 40 = .ok (.getfield 38, 3) := by decide +kernel
theorem dX11_link_43 : decode cX11_link 43 = .ok (.invokevirtual 136, 3) := by decide +kernel
theorem dX11_link_46 : decode cX11_link 46 = .ok (.putfield 17, 3) := by decide +kernel
theorem dX11_link_49 : decode cX11_link 49 = .ok (.aload_n 0, 1) := by decide +kernel
theorem dX11_link_50 : decode cX11_link 50 = .ok (.getfield 20, 3) := by decide +kernel
theorem dX11_link_53 : decode cX11_link 53 = .ok (.iconst 0, 1) := by decide +kernel
theorem dX11_link_54 : decode cX11_link 54 = .ok (.dup2, 1) := by decide +kernel
theorem dX11_link_55 : decode cX11_link 55 = .ok (.iaload, 1) := by decide +kernel
theorem dX11_link_56 : decode cX11_link 56 = .ok (.iconst 1, 1) := by decide +kernel
theorem dX11_link_57 : decode cX11_link 57 = .ok (.iadd, 1) := by decide +kernel
theorem dX11_link_58 : decode cX11_link 58 = .ok (.iastore, 1) := by decide +kernel
theorem dX11_link_59 : decode cX11_link 59 = .ok (.iload_n 2, 1) := by decide +kernel
theorem dX11_link_60 : decode cX11_link 60 = .ok (.ireturn, 1) := by decide +kernel
theorem dX11_link_61 : decode cX11_link 61 = .ok (.aload_n 0, 1) := by decide +kernel
theorem dX11_link_62 : decode cX11_link 62 = .ok (.iconst (-1), 1) := by decide +kernel
theorem dX11_link_63 : decode cX11_link 63 = .ok (.putfield 17, 3) := by decide +kernel
theorem dX11_link_66 : decode cX11_link 66 = .ok (.aload_n 0, 1) := by decide +kernel
theorem dX11_link_67 : decode cX11_link 67 = .ok (.getfield 26, 3) := by decide +kernel
theorem dX11_link_70 : decode cX11_link 70 = .ok (.aload_n 0, 1) := by decide +kernel
theorem dX11_link_71 : decode cX11_link 71 = .ok (.getfield 30, 3) := by decide +kernel
theorem dX11_link_74 : decode cX11_link 74 = .ok (.invokevirtual 140, 3) := by decide +kernel
theorem dX11_link_77 : decode cX11_link 77 = .ok (.aload_n 0, 1) := by decide +kernel
theorem dX11_link_78 : decode cX11_link 78 = .ok (.getfield 47, 3) := by decide +kernel
theorem dX11_link_81 : decode cX11_link 81 = .ok (.invokevirtual 143, 3) := by decide +kernel
theorem dX11_link_84 : decode cX11_link 84 = .ok (.aload_n 0, 1) := by decide +kernel
theorem dX11_link_85 : decode cX11_link 85 = .ok (.getfield 54, 3) := by decide +kernel
theorem dX11_link_88 : decode cX11_link 88 = .ok (.invokevirtual 146, 3) := by decide +kernel
theorem dX11_link_91 : decode cX11_link 91 = .ok (.aload_n 0, 1) := by decide +kernel
theorem dX11_link_92 : decode cX11_link 92 = .ok (.getfield 61, 3) := by decide +kernel
theorem dX11_link_95 : decode cX11_link 95 = .ok (.invokevirtual 149, 3) := by decide +kernel
theorem dX11_link_98 : decode cX11_link 98 = .ok (.aload_n 0, 1) := by decide +kernel
theorem dX11_link_99 : decode cX11_link 99 = .ok (.iconst 0, 1) := by decide +kernel
theorem dX11_link_100 : decode cX11_link 100 = .ok (.putfield 65, 3) := by decide +kernel
theorem dX11_link_103 : decode cX11_link 103 = .ok (.iconst 0, 1) := by decide +kernel
theorem dX11_link_104 : decode cX11_link 104 = .ok (.ireturn, 1) := by decide +kernel
theorem dX11_count_0 : decode cX11_count 0 = .ok (.iload_n 1, 1) := by decide +kernel
theorem dX11_count_1 : decode cX11_count 1 = .ok (.tableswitch 231 0 17 #[87, 95, 103, 111, 119, 127, 138, 146, 154, 162, 173, 181, 189, 197, 205, 210, 217, 224], 87) := by decide +kernel
theorem dX11_count_88 : decode cX11_count 88 = .ok (.aload_n 0, 1) := by decide +kernel
theorem dX11_count_89 : decode cX11_count 89 = .ok (.getfield 26, 3) := by decide +kernel
theorem dX11_count_92 : decode cX11_count 92 = .ok (.getfield 150, 3) := by decide +kernel
theorem dX11_count_95 : decode cX11_count 95 = .ok (.ireturn, 1) := by decide +kernel
theorem dX11_count_96 : decode cX11_count 96 = .ok (.aload_n 0, 1) := by decide +kernel
theorem dX11_count_97 : decode cX11_count 97 = .ok (.getfield 26, 3) := by decide +kernel
theorem dX11_count_100 : decode cX11_count 100 = .ok (.getfield 153, 3) := by decide +kernel
theorem dX11_count_103 : decode cX11_count 103 = .ok (.ireturn, 1) := by decide +kernel
theorem dX11_count_104 : decode cX11_count 104 = .ok (.aload_n 0, 1) := by decide +kernel
theorem dX11_count_105 : decode cX11_count 105 = .ok (.getfield 47, 3) := by decide +kernel
theorem dX11_count_108 : decode cX11_count 108 = .ok (.getfield 156, 3) := by decide +kernel
theorem dX11_count_111 : decode cX11_count 111 = .ok (.ireturn, 1) := by decide +kernel
theorem dX11_count_112 : decode cX11_count 112 = .ok (.aload_n 0, 1) := by decide +kernel
theorem dX11_count_113 : decode cX11_count 113 = .ok (.getfield 47, 3) := by decide +kernel
theorem dX11_count_116 : decode cX11_count 116 = .ok (.getfield 159, 3) := by decide +kernel
theorem dX11_count_119 : decode cX11_count 119 = .ok (.ireturn, 1) := by decide +kernel
theorem dX11_count_120 : decode cX11_count 120 = .ok (.aload_n 0, 1) := by decide +kernel
theorem dX11_count_121 : decode cX11_count 121 = .ok (.getfield 47, 3) := by decide +kernel
theorem dX11_count_124 : decode cX11_count 124 = .ok (.invokevirtual 162, 3) := by decide +kernel
theorem dX11_count_127 : decode cX11_count 127 = .ok (.ireturn, 1) := by decide +kernel
theorem dX11_count_128 : decode cX11_count 128 = .ok (.aload_n 0, 1) := by decide +kernel
theorem dX11_count_129 : decode cX11_count 129 = .ok (.getfield 47, 3) := by decide +kernel
theorem dX11_count_132 : decode cX11_count 132 = .ok (.getfield 165, 3) := by decide +kernel
theorem dX11_count_135 : decode cX11_count 135 = .ok (.bipush 12, 2) := by decide +kernel
theorem dX11_count_137 : decode cX11_count 137 = .ok (.iaload, 1) := by decide +kernel
theorem dX11_count_138 : decode cX11_count 138 = .ok (.ireturn, 1) := by decide +kernel
theorem dX11_count_139 : decode cX11_count 139 = .ok (.aload_n 0, 1) := by decide +kernel
theorem dX11_count_140 : decode cX11_count 140 = .ok (.getfield 47, 3) := by decide +kernel
theorem dX11_count_143 : decode cX11_count 143 = .ok (.getfield 168, 3) := by decide +kernel
theorem dX11_count_146 : decode cX11_count 146 = .ok (.ireturn, 1) := by decide +kernel
theorem dX11_count_147 : decode cX11_count 147 = .ok (.aload_n 0, 1) := by decide +kernel
theorem dX11_count_148 : decode cX11_count 148 = .ok (.getfield 47, 3) := by decide +kernel
theorem dX11_count_151 : decode cX11_count 151 = .ok (.getfield 171, 3) := by decide +kernel
theorem dX11_count_154 : decode cX11_count 154 = .ok (.ireturn, 1) := by decide +kernel
theorem dX11_count_155 : decode cX11_count 155 = .ok (.aload_n 0, 1) := by decide +kernel
theorem dX11_count_156 : decode cX11_count 156 = .ok (.getfield 47, 3) := by decide +kernel
theorem dX11_count_159 : decode cX11_count 159 = .ok (.invokevirtual 174, 3) := by decide +kernel
theorem dX11_count_162 : decode cX11_count 162 = .ok (.ireturn, 1) := by decide +kernel
theorem dX11_count_163 : decode cX11_count 163 = .ok (.aload_n 0, 1) := by decide +kernel
theorem dX11_count_164 : decode cX11_count 164 = .ok (.getfield 47, 3) := by decide +kernel
theorem dX11_count_167 : decode cX11_count 167 = .ok (.getfield 177, 3) := by decide +kernel
theorem dX11_count_170 : decode cX11_count 170 = .ok (.bipush 12, 2) := by decide +kernel
theorem dX11_count_172 : decode cX11_count 172 = .ok (.iaload, 1) := by decide +kernel
theorem dX11_count_173 : decode cX11_count 173 = .ok (.ireturn, 1) := by decide +kernel
theorem dX11_count_174 : decode cX11_count 174 = .ok (.aload_n 0, 1) := by decide +kernel
theorem dX11_count_175 : decode cX11_count 175 = .ok (.getfield 47, 3) := by decide +kernel
theorem dX11_count_178 : decode cX11_count 178 = .ok (.invokevirtual 180, 3) := by decide +kernel
theorem dX11_count_181 : decode cX11_count 181 = .ok (.ireturn, 1) := by decide +kernel
theorem dX11_count_182 : decode cX11_count 182 = .ok (.aload_n 0, 1) := by decide +kernel
theorem dX11_count_183 : decode cX11_count 183 = .ok (.getfield 47, 3) := by decide +kernel
theorem dX11_count_186 : decode cX11_count 186 = .ok (.getfield 183, 3) := by decide +kernel
theorem dX11_count_189 : decode cX11_count 189 = .ok (.ireturn, 1) := by decide +kernel
theorem dX11_count_190 : decode cX11_count 190 = .ok (.aload_n 0, 1) := by decide +kernel
theorem dX11_count_191 : decode cX11_count 191 = .ok (.getfield 54, 3) := by decide +kernel
theorem dX11_count_194 : decode cX11_count 194 = .ok (.invokevirtual 186, 3) := by decide +kernel
theorem dX11_count_197 : decode cX11_count 197 = .ok (.ireturn, 1) := by decide +kernel
theorem dX11_count_198 : decode cX11_count 198 = .ok (.aload_n 0, 1) := by decide +kernel
theorem dX11_count_199 : decode cX11_count 199 = .ok (.getfield 61, 3) := by decide +kernel
theorem dX11_count_202 : decode cX11_count 202 = .ok (.getfield 189, 3) := by decide +kernel
theorem dX11_count_205 : decode cX11_count 205 = .ok (.ireturn, 1) := by decide +kernel
theorem dX11_count_206 : decode cX11_count 206 = .ok (.aload_n 0, 1) := by decide +kernel
theorem dX11_count_207 : decode cX11_count 207 = .ok (.getfield 13, 3) := by decide +kernel
theorem dX11_count_210 : decode cX11_count 210 = .ok (.ireturn, 1) := by decide +kernel
theorem dX11_count_211 : decode cX11_count 211 = .ok (.aload_n 0, 1) := by decide +kernel
theorem dX11_count_212 : decode cX11_count 212 = .ok (.getfield 20, 3) := by decide +kernel
theorem dX11_count_215 : decode cX11_count 215 = .ok (.iconst 0, 1) := by decide +kernel
theorem dX11_count_216 : decode cX11_count 216 = .ok (.iaload, 1) := by decide +kernel
theorem dX11_count_217 : decode cX11_count 217 = .ok (.ireturn, 1) := by decide +kernel
theorem dX11_count_218 : decode cX11_count 218 = .ok (.aload_n 0, 1) := by decide +kernel
theorem dX11_count_219 : decode cX11_count 219 = .ok (.getfield 20, 3) := by decide +kernel
theorem dX11_count_222 : decode cX11_count 222 = .ok (.iconst 1, 1) := by decide +kernel
theorem dX11_count_223 : decode cX11_count 223 = .ok (.iaload, 1) := by decide +kernel
theorem dX11_count_224 : decode cX11_count 224 = .ok (.ireturn, 1) := by decide +kernel
theorem dX11_count_225 : decode cX11_count 225 = .ok (.aload_n 0, 1) := by decide +kernel
theorem dX11_count_226 : decode cX11_count 226 = .ok (.getfield 20, 3) := by decide +kernel
theorem dX11_count_229 : decode cX11_count 229 = .ok (.iconst 2, 1) := by decide +kernel
theorem dX11_count_230 : decode cX11_count 230 = .ok (.iaload, 1) := by decide +kernel
theorem dX11_count_231 : decode cX11_count 231 = .ok (.ireturn, 1) := by decide +kernel
theorem dX11_count_232 : decode cX11_count 232 = .ok (.new 192, 3) := by decide +kernel
theorem dX11_count_235 : decode cX11_count 235 = .ok (.dup, 1) := by decide +kernel
theorem dX11_count_236 : decode cX11_count 236 = .ok (.invokespecial 194, 3) := by decide +kernel
theorem dX11_count_239 : decode cX11_count 239 = .ok (.athrow, 1) := by decide +kernel
theorem dX11_of_0 : decode cX11_of 0 = .ok (.aload_n 0, 1) := by decide +kernel
theorem dX11_of_1 : decode cX11_of 1 = .ok (.iload_n 1, 1) := by decide +kernel
theorem dX11_of_2 : decode cX11_of 2 = .ok (.invokevirtual 195, 3) := by decide +kernel
theorem dX11_of_5 : decode cX11_of 5 = .ok (.iload_n 2, 1) := by decide +kernel
theorem dX11_of_6 : decode cX11_of 6 = .ok (.tableswitch 184 0 9 #[54, 82, 99, 116, 126, 136, 146, 156, 166, 175], 54) := by decide +kernel
theorem dX11_of_60 : decode cX11_of 60 = .ok (.aload_n 0, 1) := by decide +kernel
theorem dX11_of_61 : decode cX11_of 61 = .ok (.getfield 26, 3) := by decide +kernel
theorem dX11_of_64 : decode cX11_of 64 = .ok (.getfield 198, 3) := by decide +kernel
theorem dX11_of_67 : decode cX11_of 67 = .ok (.iload_n 1, 1) := by decide +kernel
theorem dX11_of_68 : decode cX11_of 68 = .ok (.iaload, 1) := by decide +kernel
theorem dX11_of_69 : decode cX11_of 69 = .ok (.bipush 12, 2) := by decide +kernel
theorem dX11_of_71 : decode cX11_of 71 = .ok (.if_icmp .ne 7, 3) := by decide +kernel
theorem dX11_of_74 : decode cX11_of 74 = .ok (.iconst (-1), 1) := by decide +kernel
theorem dX11_of_75 : decode cX11_of 75 = .ok (.goto 12, 3) := by decide +kernel
theorem dX11_of_78 : decode cX11_of 78 = .ok (.aload_n 0, 1) := by decide +kernel
theorem dX11_of_79 : decode cX11_of 79 = .ok (.getfield 26, 3) := by decide +kernel
theorem dX11_of_82 : decode cX11_of 82 = .ok (.getfield 198, 3) := by decide +kernel
theorem dX11_of_85 : decode cX11_of 85 = .ok (.iload_n 1, 1) := by decide +kernel
theorem dX11_of_86 : decode cX11_of 86 = .ok (.iaload, 1) := by decide +kernel
theorem dX11_of_87 : decode cX11_of 87 = .ok (.ireturn, 1) := by decide +kernel
theorem dX11_of_88 : decode cX11_of 88 = .ok (.aload_n 0, 1) := by decide +kernel
theorem dX11_of_89 : decode cX11_of 89 = .ok (.getfield 26, 3) := by decide +kernel
theorem dX11_of_92 : decode cX11_of 92 = .ok (.iload_n 1, 1) := by decide +kernel
theorem dX11_of_93 : decode cX11_of 93 = .ok (.invokevirtual 201, 3) := by decide +kernel
theorem dX11_of_96 : decode cX11_of 96 = .ok (.ifCond .eq 7, 3) := by decide +kernel
theorem dX11_of_99 : decode cX11_of 99 = .ok (.iconst 1, 1) := by decide +kernel
theorem dX11_of_100 : decode cX11_of 100 = .ok (.goto 4, 3) := by decide +kernel
theorem dX11_of_103 : decode cX11_of 103 = .ok (.iconst 0, 1) := by decide +kernel
theorem dX11_of_104 : decode cX11_of 104 = .ok (.ireturn, 1) := by decide +kernel
theorem dX11_of_105 : decode cX11_of 105 = .ok (.aload_n 0, 1) := by decide +kernel
theorem dX11_of_106 : decode cX11_of 106 = .ok (.getfield 47, 3) := by decide +kernel
theorem dX11_of_109 : decode cX11_of 109 = .ok (.iload_n 1, 1) := by decide +kernel
theorem dX11_of_110 : decode cX11_of 110 = .ok (.invokevirtual 205, 3) := by decide +kernel
theorem dX11_of_113 : decode cX11_of 113 = .ok (.ifCond .eq 7, 3) := by decide +kernel
theorem dX11_of_116 : decode cX11_of 116 = .ok (.iconst 1, 1) := by decide +kernel
theorem dX11_of_117 : decode cX11_of 117 = .ok (.goto 4, 3) := by decide +kernel
theorem dX11_of_120 : decode cX11_of 120 = .ok (.iconst 0, 1) := by decide +kernel
theorem dX11_of_121 : decode cX11_of 121 = .ok (.ireturn, 1) := by decide +kernel
theorem dX11_of_122 : decode cX11_of 122 = .ok (.aload_n 0, 1) := by decide +kernel
theorem dX11_of_123 : decode cX11_of 123 = .ok (.getfield 47, 3) := by decide +kernel
theorem dX11_of_126 : decode cX11_of 126 = .ok (.getfield 208, 3) := by decide +kernel
theorem dX11_of_129 : decode cX11_of 129 = .ok (.iload_n 1, 1) := by decide +kernel
theorem dX11_of_130 : decode cX11_of 130 = .ok (.iaload, 1) := by decide +kernel
theorem dX11_of_131 : decode cX11_of 131 = .ok (.ireturn, 1) := by decide +kernel
theorem dX11_of_132 : decode cX11_of 132 = .ok (.aload_n 0, 1) := by decide +kernel
theorem dX11_of_133 : decode cX11_of 133 = .ok (.getfield 47, 3) := by decide +kernel
theorem dX11_of_136 : decode cX11_of 136 = .ok (.getfield 211, 3) := by decide +kernel
theorem dX11_of_139 : decode cX11_of 139 = .ok (.iload_n 1, 1) := by decide +kernel
theorem dX11_of_140 : decode cX11_of 140 = .ok (.iaload, 1) := by decide +kernel
theorem dX11_of_141 : decode cX11_of 141 = .ok (.ireturn, 1) := by decide +kernel
theorem dX11_of_142 : decode cX11_of 142 = .ok (.aload_n 0, 1) := by decide +kernel
theorem dX11_of_143 : decode cX11_of 143 = .ok (.getfield 47, 3) := by decide +kernel
theorem dX11_of_146 : decode cX11_of 146 = .ok (.getfield 214, 3) := by decide +kernel
theorem dX11_of_149 : decode cX11_of 149 = .ok (.iload_n 1, 1) := by decide +kernel
theorem dX11_of_150 : decode cX11_of 150 = .ok (.iaload, 1) := by decide +kernel
theorem dX11_of_151 : decode cX11_of 151 = .ok (.ireturn, 1) := by decide +kernel
theorem dX11_of_152 : decode cX11_of 152 = .ok (.aload_n 0, 1) := by decide +kernel
theorem dX11_of_153 : decode cX11_of 153 = .ok (.getfield 47, 3) := by decide +kernel
theorem dX11_of_156 : decode cX11_of 156 = .ok (.getfield 177, 3) := by decide +kernel
theorem dX11_of_159 : decode cX11_of 159 = .ok (.iload_n 1, 1) := by decide +kernel
theorem dX11_of_160 : decode cX11_of 160 = .ok (.iaload, 1) := by decide +kernel
theorem dX11_of_161 : decode cX11_of 161 = .ok (.ireturn, 1) := by decide +kernel
theorem dX11_of_162 : decode cX11_of 162 = .ok (.aload_n 0, 1) := by decide +kernel
theorem dX11_of_163 : decode cX11_of 163 = .ok (.getfield 47, 3) := by decide +kernel
theorem dX11_of_166 : decode cX11_of 166 = .ok (.getfield 217, 3) := by decide +kernel
theorem dX11_of_169 : decode cX11_of 169 = .ok (.iload_n 1, 1) := by decide +kernel
theorem dX11_of_170 : decode cX11_of 170 = .ok (.iaload, 1) := by decide +kernel
theorem dX11_of_171 : decode cX11_of 171 = .ok (.ireturn, 1) := by decide +kernel
theorem dX11_of_172 : decode cX11_of 172 = .ok (.aload_n 0, 1) := by decide +kernel
theorem dX11_of_173 : decode cX11_of 173 = .ok (.getfield 47, 3) := by decide +kernel
theorem dX11_of_176 : decode cX11_of 176 = .ok (.iload_n 1, 1) := by decide +kernel
theorem dX11_of_177 : decode cX11_of 177 = .ok (.invokevirtual 220, 3) := by decide +kernel
theorem dX11_of_180 : decode cX11_of 180 = .ok (.ireturn, 1) := by decide +kernel
theorem dX11_of_181 : decode cX11_of 181 = .ok (.aload_n 0, 1) := by decide +kernel
theorem dX11_of_182 : decode cX11_of 182 = .ok (.getfield 47, 3) := by decide +kernel
theorem dX11_of_185 : decode cX11_of 185 = .ok (.iload_n 1, 1) := by decide +kernel
theorem dX11_of_186 : decode cX11_of 186 = .ok (.invokevirtual 223, 3) := by decide +kernel
theorem dX11_of_189 : decode cX11_of 189 = .ok (.ireturn, 1) := by decide +kernel
theorem dX11_of_190 : decode cX11_of 190 = .ok (.new 192, 3) := by decide +kernel
theorem dX11_of_193 : decode cX11_of 193 = .ok (.dup, 1) := by decide +kernel
theorem dX11_of_194 : decode cX11_of 194 = .ok (.invokespecial 194, 3) := by decide +kernel
theorem dX11_of_197 : decode cX11_of 197 = .ok (.athrow, 1) := by decide +kernel
