theorem dX6_changeCurve_0 : decode cX6_changeCurve 0 = .ok (.iload_n 1, 1) := by decide +kernel
theorem dX6_changeCurve_1 : decode cX6_changeCurve 1 = .ok (.iconst 3, 1) := by decide +kernel
theorem dX6_changeCurve_2 : decode cX6_changeCurve 2 = .ok (.imul, 1) := by decide +kernel
theorem dX6_changeCurve_3 : decode cX6_changeCurve 3 = .ok (.iload_n 2, 1) := by decide +kernel
theorem dX6_changeCurve_4 : decode cX6_changeCurve 4 = .ok (.iadd, 1) := by decide +kernel
theorem dX6_changeCurve_5 : decode cX6_changeCurve 5 = .ok (.istore 6, 2) := by decide +kernel
theorem dX6_changeCurve_7 : decode cX6_changeCurve 7 = .ok (.aload_n 0, 1) := by decide +kernel
theorem dX6_changeCurve_8 : decode cX6_changeCurve 8 = .ok (.getfield 61, 3) := by decide +kernel
theorem dX6_changeCurve_11 : decode cX6_changeCurve 11 = .ok (.iload 6, 2) := by decide +kernel
theorem dX6_changeCurve_13 : decode cX6_changeCurve 13 = .ok (.iload_n 3, 1) := by decide +kernel
theorem dX6_changeCurve_14 : decode cX6_changeCurve 14 = .ok (.iload 4, 2) := by decide +kernel
theorem dX6_changeCurve_16 : decode cX6_changeCurve 16 = .ok (.iload 5, 2) := by decide +kernel
theorem dX6_changeCurve_18 : decode cX6_changeCurve 18 = .ok (.invokevirtual 182, 3) := by decide +kernel
theorem dX6_changeCurve_21 : decode cX6_changeCurve 21 = .ok (.aload_n 0, 1) := by decide +kernel
theorem dX6_changeCurve_22 : decode cX6_changeCurve 22 = .ok (.getfield 46, 3) := by decide +kernel
theorem dX6_changeCurve_25 : decode cX6_changeCurve 25 = .ok (.iload_n 1, 1) := by decide +kernel
theorem dX6_changeCurve_26 : decode cX6_changeCurve 26 = .ok (.iaload, 1) := by decide +kernel
theorem dX6_changeCurve_27 : decode cX6_changeCurve 27 = .ok (.ifCond .le 49, 3) := by decide +kernel
theorem dX6_changeCurve_30 : decode cX6_changeCurve 30 = .ok (.aload_n 0, 1) := by decide +kernel
theorem dX6_changeCurve_31 : decode cX6_changeCurve 31 = .ok (.getfield 61, 3) := by decide +kernel
theorem dX6_changeCurve_34 : decode cX6_changeCurve 34 = .ok (.iload 6, 2) := by decide +kernel
theorem dX6_changeCurve_36 : decode cX6_changeCurve 36 = .ok (.iload_n 2, 1) := by decide +kernel
theorem dX6_changeCurve_37 : decode cX6_changeCurve 37 = .ok (.iconst 1, 1) := by decide +kernel
theorem dX6_changeCurve_38 : decode cX6_changeCurve 38 = .ok (.if_icmp .ne 12, 3) := by decide +kernel
theorem dX6_changeCurve_41 : decode cX6_changeCurve 41 = .ok (.aload_n 0, 1) := by decide +kernel
theorem dX6_changeCurve_42 : decode cX6_changeCurve 42 = .ok (.getfield 37, 3) := by decide +kernel
theorem dX6_changeCurve_45 : decode cX6_changeCurve 45 = .ok (.iload_n 1, 1) := by decide +kernel
theorem dX6_changeCurve_46 : decode cX6_changeCurve 46 = .ok (.iaload, 1) := by decide +kernel
theorem dX6_changeCurve_47 : decode cX6_changeCurve 47 = .ok (.goto 7, 3) := by decide +kernel
theorem dX6_changeCurve_50 : decode cX6_changeCurve 50 = .ok (.aload_n 0, 1) := by decide +kernel
theorem dX6_changeCurve_51 : decode cX6_changeCurve 51 = .ok (.getfield 9, 3) := by decide +kernel
theorem dX6_changeCurve_54 : decode cX6_changeCurve 54 = .ok (.iload_n 2, 1) := by decide +kernel
theorem dX6_changeCurve_55 : decode cX6_changeCurve 55 = .ok (.ifCond .ne 12, 3) := by decide +kernel
theorem dX6_changeCurve_58 : decode cX6_changeCurve 58 = .ok (.aload_n 0, 1) := by decide +kernel
theorem dX6_changeCurve_59 : decode cX6_changeCurve 59 = .ok (.getfield 34, 3) := by decide +kernel
theorem dX6_changeCurve_62 : decode cX6_changeCurve 62 = .ok (.iload_n 1, 1) := by decide +kernel
theorem dX6_changeCurve_63 : decode cX6_changeCurve 63 = .ok (.iaload, 1) := by decide +kernel
theorem dX6_changeCurve_64 : decode cX6_changeCurve 64 = .ok (.goto 9, 3) := by decide +kernel
theorem dX6_changeCurve_67 : decode cX6_changeCurve 67 = .ok (.aload_n 0, 1) := by decide +kernel
theorem dX6_changeCurve_68 : decode cX6_changeCurve 68 = .ok (.getfield 30, 3) := by decide +kernel
theorem dX6_changeCurve_71 : decode cX6_changeCurve 71 = .ok (.iload_n 1, 1) := by decide +kernel
theorem dX6_changeCurve_72 : decode cX6_changeCurve 72 = .ok (.iaload, 1) := by decide +kernel
theorem dX6_changeCurve_73 : decode cX6_changeCurve 73 = .ok (.invokevirtual 145, 3) := by decide +kernel
theorem dX6_changeCurve_76 : decode cX6_changeCurve 76 = .ok (.return_, 1) := by decide +kernel
theorem dX6_emptyQueue_0 : decode cX6_emptyQueue 0 = .ok (.aload_n 0, 1) := by decide +kernel
theorem dX6_emptyQueue_1 : decode cX6_emptyQueue 1 = .ok (.getfield 46, 3) := by decide +kernel
theorem dX6_emptyQueue_4 : decode cX6_emptyQueue 4 = .ok (.iload_n 1, 1) := by decide +kernel
theorem dX6_emptyQueue_5 : decode cX6_emptyQueue 5 = .ok (.iaload, 1) := by decide +kernel
theorem dX6_emptyQueue_6 : decode cX6_emptyQueue 6 = .ok (.istore_n 2, 1) := by decide +kernel
theorem dX6_emptyQueue_7 : decode cX6_emptyQueue 7 = .ok (.iload_n 1, 1) := by decide +kernel
theorem dX6_emptyQueue_8 : decode cX6_emptyQueue 8 = .ok (.istore_n 3, 1) := by decide +kernel
theorem dX6_emptyQueue_9 : decode cX6_emptyQueue 9 = .ok (.iconst 0, 1) := by decide +kernel
theorem dX6_emptyQueue_10 : decode cX6_emptyQueue 10 = .ok (.istore 4, 2) := by decide +kernel
theorem dX6_emptyQueue_12 : decode cX6_emptyQueue 12 = .ok (.iload 4, 2) := by decide +kernel
theorem dX6_emptyQueue_14 : decode cX6_emptyQueue 14 = .ok (.bipush 12, 2) := by decide +kernel
theorem dX6_emptyQueue_16 : decode cX6_emptyQueue 16 = .ok (.if_icmp .ge 35, 3) := by decide +kernel
theorem dX6_emptyQueue_19 : decode cX6_emptyQueue 19 = .ok (.iload_n 3, 1) := by decide +kernel
theorem dX6_emptyQueue_20 : decode cX6_emptyQueue 20 = .ok (.bipush 12, 2) := by decide +kernel
theorem dX6_emptyQueue_22 : decode cX6_emptyQueue 22 = .ok (.if_icmp .eq 29, 3) := by decide +kernel
theorem dX6_emptyQueue_25 : decode cX6_emptyQueue 25 = .ok (.aload_n 0, 1) := by decide +kernel
theorem dX6_emptyQueue_26 : decode cX6_emptyQueue 26 = .ok (.getfield 46, 3) := by decide +kernel
theorem dX6_emptyQueue_29 : decode cX6_emptyQueue 29 = .ok (.iload_n 3, 1) := by decide +kernel
theorem dX6_emptyQueue_30 : decode cX6_emptyQueue 30 = .ok (.dup2, 1) := by decide +kernel
theorem dX6_emptyQueue_31 : decode cX6_emptyQueue 31 = .ok (.iaload, 1) := by decide +kernel
theorem dX6_emptyQueue_32 : decode cX6_emptyQueue 32 = .ok (.iload_n 2, 1) := by decide +kernel
theorem dX6_emptyQueue_33 : decode cX6_emptyQueue 33 = .ok (.isub, 1) := by decide +kernel
theorem dX6_emptyQueue_34 : decode cX6_emptyQueue 34 = .ok (.iastore, 1) := by decide +kernel
theorem dX6_emptyQueue_35 : decode cX6_emptyQueue 35 = .ok (.aload_n 0, 1) := by decide +kernel
theorem dX6_emptyQueue_36 : decode cX6_emptyQueue 36 = .ok (.getfield 68, 3) := by decide +kernel
theorem dX6_emptyQueue_39 : decode cX6_emptyQueue 39 = .ok (.getfield 137, 3) := by decide +kernel
theorem dX6_emptyQueue_42 : decode cX6_emptyQueue 42 = .ok (.iload_n 3, 1) := by decide +kernel
theorem dX6_emptyQueue_43 : decode cX6_emptyQueue 43 = .ok (.iaload, 1) := by decide +kernel
theorem dX6_emptyQueue_44 : decode cX6_emptyQueue 44 = .ok (.istore_n 3, 1) := by decide +kernel
theorem dX6_emptyQueue_45 : decode cX6_emptyQueue 45 = .ok (.iinc 4 1, 3) := by decide +kernel
theorem dX6_emptyQueue_48 : decode cX6_emptyQueue 48 = .ok (.goto (-36), 3) := by decide +kernel
theorem dX6_emptyQueue_51 : decode cX6_emptyQueue 51 = .ok (.aload_n 0, 1) := by decide +kernel
theorem dX6_emptyQueue_52 : decode cX6_emptyQueue 52 = .ok (.getfield 46, 3) := by decide +kernel
theorem dX6_emptyQueue_55 : decode cX6_emptyQueue 55 = .ok (.bipush 12, 2) := by decide +kernel
theorem dX6_emptyQueue_57 : decode cX6_emptyQueue 57 = .ok (.dup2, 1) := by decide +kernel
theorem dX6_emptyQueue_58 : decode cX6_emptyQueue 58 = .ok (.iaload, 1) := by decide +kernel
theorem dX6_emptyQueue_59 : decode cX6_emptyQueue 59 = .ok (.iload_n 2, 1) := by decide +kernel
theorem dX6_emptyQueue_60 : decode cX6_emptyQueue 60 = .ok (.isub, 1) := by decide +kernel
theorem dX6_emptyQueue_61 : decode cX6_emptyQueue 61 = .ok (.iastore, 1) := by decide +kernel
theorem dX6_emptyQueue_62 : decode cX6_emptyQueue 62 = .ok (.iload_n 2, 1) := by decide +kernel
theorem dX6_emptyQueue_63 : decode cX6_emptyQueue 63 = .ok (.ireturn, 1) := by decide +kernel
theorem dX6_toggleFlow_0 : decode cX6_toggleFlow 0 = .ok (.aload_n 0, 1) := by decide +kernel
theorem dX6_toggleFlow_1 : decode cX6_toggleFlow 1 = .ok (.dup, 1) := by decide +kernel
theorem dX6_toggleFlow_2 : decode cX6_toggleFlow 2 = .ok (.getfield 27, 3) := by decide +kernel
theorem dX6_toggleFlow_5 : decode cX6_toggleFlow 5 = .ok (.iconst 1, 1) := by decide +kernel
theorem dX6_toggleFlow_6 : decode cX6_toggleFlow 6 = .ok (.iload_n 1, 1) := by decide +kernel
theorem dX6_toggleFlow_7 : decode cX6_toggleFlow 7 = .ok (.ishl, 1) := by decide +kernel
theorem dX6_toggleFlow_8 : decode cX6_toggleFlow 8 = .ok (.ixor, 1) := by decide +kernel
theorem dX6_toggleFlow_9 : decode cX6_toggleFlow 9 = .ok (.putfield 27, 3) := by decide +kernel
theorem dX6_toggleFlow_12 : decode cX6_toggleFlow 12 = .ok (.return_, 1) := by decide +kernel
theorem dX6_spreadIn_0 : decode cX6_spreadIn 0 = .ok (.iconst 0, 1) := by decide +kernel
theorem dX6_spreadIn_1 : decode cX6_spreadIn 1 = .ok (.istore_n 2, 1) := by decide +kernel
theorem dX6_spreadIn_2 : decode cX6_spreadIn 2 = .ok (.iconst (-1), 1) := by decide +kernel
theorem dX6_spreadIn_3 : decode cX6_spreadIn 3 = .ok (.istore_n 3, 1) := by decide +kernel
theorem dX6_spreadIn_4 : decode cX6_spreadIn 4 = .ok (.iconst 0, 1) := by decide +kernel
theorem dX6_spreadIn_5 : decode cX6_spreadIn 5 = .ok (.istore 4, 2) := by decide +kernel
theorem dX6_spreadIn_7 : decode cX6_spreadIn 7 = .ok (.iload 4, 2) := by decide +kernel
theorem dX6_spreadIn_9 : decode cX6_spreadIn 9 = .ok (.aload_n 0, 1) := by decide +kernel
theorem dX6_spreadIn_10 : decode cX6_spreadIn 10 = .ok (.getfield 68, 3) := by decide +kernel
theorem dX6_spreadIn_13 : decode cX6_spreadIn 13 = .ok (.getfield 117, 3) := by decide +kernel
theorem dX6_spreadIn_16 : decode cX6_spreadIn 16 = .ok (.iload_n 1, 1) := by decide +kernel
theorem dX6_spreadIn_17 : decode cX6_spreadIn 17 = .ok (.iaload, 1) := by decide +kernel
theorem dX6_spreadIn_18 : decode cX6_spreadIn 18 = .ok (.if_icmp .ge 87, 3) := by decide +kernel
theorem dX6_spreadIn_21 : decode cX6_spreadIn 21 = .ok (.aload_n 0, 1) := by decide +kernel
theorem dX6_spreadIn_22 : decode cX6_spreadIn 22 = .ok (.getfield 68, 3) := by decide +kernel
theorem dX6_spreadIn_25 : decode cX6_spreadIn 25 = .ok (.getfield 120, 3) := by decide +kernel
theorem dX6_spreadIn_28 : decode cX6_spreadIn 28 = .ok (.iload_n 1, 1) := by decide +kernel
theorem dX6_spreadIn_29 : decode cX6_spreadIn 29 = .ok (.bipush 12, 2) := by decide +kernel
theorem dX6_spreadIn_31 : decode cX6_spreadIn 31 = .ok (.imul, 1) := by decide +kernel
theorem dX6_spreadIn_32 : decode cX6_spreadIn 32 = .ok (.iload 4, 2) := by decide +kernel
theorem dX6_spreadIn_34 : decode cX6_spreadIn 34 = .ok (.iadd, 1) := by decide +kernel
theorem dX6_spreadIn_35 : decode cX6_spreadIn 35 = .ok (.iaload, 1) := by decide +kernel
theorem dX6_spreadIn_36 : decode cX6_spreadIn 36 = .ok (.istore 5, 2) := by decide +kernel
theorem dX6_spreadIn_38 : decode cX6_spreadIn 38 = .ok (.aload_n 0, 1) := by decide +kernel
theorem dX6_spreadIn_39 : decode cX6_spreadIn 39 = .ok (.getfield 46, 3) := by decide +kernel
theorem dX6_spreadIn_42 : decode cX6_spreadIn 42 = .ok (.iload 5, 2) := by decide +kernel
theorem dX6_spreadIn_44 : decode cX6_spreadIn 44 = .ok (.iaload, 1) := by decide +kernel
theorem dX6_spreadIn_45 : decode cX6_spreadIn 45 = .ok (.ifCond .le 54, 3) := by decide +kernel
theorem dX6_spreadIn_48 : decode cX6_spreadIn 48 = .ok (.iload_n 3, 1) := by decide +kernel
theorem dX6_spreadIn_49 : decode cX6_spreadIn 49 = .ok (.iconst (-1), 1) := by decide +kernel
theorem dX6_spreadIn_50 : decode cX6_spreadIn 50 = .ok (.if_icmp .eq 14, 3) := by decide +kernel
theorem dX6_spreadIn_53 : decode cX6_spreadIn 53 = .ok (.aload_n 0, 1) := by decide +kernel
theorem dX6_spreadIn_54 : decode cX6_spreadIn 54 = .ok (.getfield 37, 3) := by decide +kernel
theorem dX6_spreadIn_57 : decode cX6_spreadIn 57 = .ok (.iload 5, 2) := by decide +kernel
theorem dX6_spreadIn_59 : decode cX6_spreadIn 59 = .ok (.iaload, 1) := by decide +kernel
theorem dX6_spreadIn_60 : decode cX6_spreadIn 60 = .ok (.iload_n 2, 1) := by decide +kernel
theorem dX6_spreadIn_61 : decode cX6_spreadIn 61 = .ok (.if_icmp .ge 13, 3) := by decide +kernel
theorem dX6_spreadIn_64 : decode cX6_spreadIn 64 = .ok (.aload_n 0, 1) := by decide +kernel
theorem dX6_spreadIn_65 : decode cX6_spreadIn 65 = .ok (.getfield 37, 3) := by decide +kernel
theorem dX6_spreadIn_68 : decode cX6_spreadIn 68 = .ok (.iload 5, 2) := by decide +kernel
theorem dX6_spreadIn_70 : decode cX6_spreadIn 70 = .ok (.iaload, 1) := by decide +kernel
theorem dX6_spreadIn_71 : decode cX6_spreadIn 71 = .ok (.goto 4, 3) := by decide +kernel
theorem dX6_spreadIn_74 : decode cX6_spreadIn 74 = .ok (.iload_n 2, 1) := by decide +kernel
theorem dX6_spreadIn_75 : decode cX6_spreadIn 75 = .ok (.istore_n 2, 1) := by decide +kernel
theorem dX6_spreadIn_76 : decode cX6_spreadIn 76 = .ok (.aload_n 0, 1) := by decide +kernel
theorem dX6_spreadIn_77 : decode cX6_spreadIn 77 = .ok (.getfield 37, 3) := by decide +kernel
theorem dX6_spreadIn_80 : decode cX6_spreadIn 80 = .ok (.iload 5, 2) := by decide +kernel
theorem dX6_spreadIn_82 : decode cX6_spreadIn 82 = .ok (.iaload, 1) := by decide +kernel
theorem dX6_spreadIn_83 : decode cX6_spreadIn 83 = .ok (.iload_n 3, 1) := by decide +kernel
theorem dX6_spreadIn_84 : decode cX6_spreadIn 84 = .ok (.if_icmp .le 13, 3) := by decide +kernel
theorem dX6_spreadIn_87 : decode cX6_spreadIn 87 = .ok (.aload_n 0, 1) := by decide +kernel
theorem dX6_spreadIn_88 : decode cX6_spreadIn 88 = .ok (.getfield 37, 3) := by decide +kernel
theorem dX6_spreadIn_91 : decode cX6_spreadIn 91 = .ok (.iload 5, 2) := by decide +kernel
theorem dX6_spreadIn_93 : decode cX6_spreadIn 93 = .ok (.iaload, 1) := by decide +kernel
theorem dX6_spreadIn_94 : decode cX6_spreadIn 94 = .ok (.goto 4, 3) := by decide +kernel
theorem dX6_spreadIn_97 : decode cX6_spreadIn 97 = .ok (.iload_n 3, 1) := by decide +kernel
theorem dX6_spreadIn_98 : decode cX6_spreadIn 98 = .ok (.istore_n 3, 1) := by decide +kernel
theorem dX6_spreadIn_99 : decode cX6_spreadIn 99 = .ok (.iinc 4 1, 3) := by decide +kernel
theorem dX6_spreadIn_102 : decode cX6_spreadIn 102 = .ok (.goto (-95), 3) := by decide +kernel
theorem dX6_spreadIn_105 : decode cX6_spreadIn 105 = .ok (.iload_n 3, 1) := by decide +kernel
theorem dX6_spreadIn_106 : decode cX6_spreadIn 106 = .ok (.iconst (-1), 1) := by decide +kernel
theorem dX6_spreadIn_107 : decode cX6_spreadIn 107 = .ok (.if_icmp .ne 7, 3) := by decide +kernel
theorem dX6_spreadIn_110 : decode cX6_spreadIn 110 = .ok (.iconst 0, 1) := by decide +kernel
theorem dX6_spreadIn_111 : decode cX6_spreadIn 111 = .ok (.goto 6, 3) := by decide +kernel
theorem dX6_spreadIn_114 : decode cX6_spreadIn 114 = .ok (.iload_n 3, 1) := by decide +kernel
theorem dX6_spreadIn_115 : decode cX6_spreadIn 115 = .ok (.iload_n 2, 1) := by decide +kernel
theorem dX6_spreadIn_116 : decode cX6_spreadIn 116 = .ok (.isub, 1) := by decide +kernel
theorem dX6_spreadIn_117 : decode cX6_spreadIn 117 = .ok (.ireturn, 1) := by decide +kernel
theorem dX7_init_0 : decode cX7_init 0 = .ok (.aload_n 0, 1) := by decide +kernel
theorem dX7_init_1 : decode cX7_init 1 = .ok (.invokespecial 3, 3) := by decide +kernel
theorem dX7_init_4 : decode cX7_init 4 = .ok (.aload_n 0, 1) := by decide +kernel
theorem dX7_init_5 : decode cX7_init 5 = .ok (.iconst 0, 1) := by decide +kernel
theorem dX7_init_6 : decode cX7_init 6 = .ok (.putfield 9, 3) := by decide +kernel
theorem dX7_init_9 : decode cX7_init 9 = .ok (.aload_n 0, 1) := by decide +kernel
theorem dX7_init_10 : decode cX7_init 10 = .ok (.bipush 8, 2) := by decide +kernel
theorem dX7_init_12 : decode cX7_init 12 = .ok (.newarray .int, 2) := by decide +kernel
theorem dX7_init_14 : decode cX7_init 14 = .ok (.putfield 15, 3) := by decide +kernel
theorem dX7_init_17 : decode cX7_init 17 = .ok (.aload_n 0, 1) := by decide +kernel
theorem dX7_init_18 : decode cX7_init 18 = .ok (.bipush 8, 2) := by decide +kernel
theorem dX7_init_20 : decode cX7_init 20 = .ok (.newarray .int, 2) := by decide +kernel
theorem dX7_init_22 : decode cX7_init 22 = .ok (.putfield 19, 3) := by decide +kernel
theorem dX7_init_25 : decode cX7_init 25 = .ok (.aload_n 0, 1) := by decide +kernel
theorem dX7_init_26 : decode cX7_init 26 = .ok (.bipush 8, 2) := by decide +kernel
theorem dX7_init_28 : decode cX7_init 28 = .ok (.newarray .int, 2) := by decide +kernel
theorem dX7_init_30 : decode cX7_init 30 = .ok (.putfield 22, 3) := by decide +kernel
theorem dX7_init_33 : decode cX7_init 33 = .ok (.return_, 1) := by decide +kernel
theorem dX7_clear_0 : decode cX7_clear 0 = .ok (.aload_n 0, 1) := by decide +kernel
theorem dX7_clear_1 : decode cX7_clear 1 = .ok (.iconst 0, 1) := by decide +kernel
theorem dX7_clear_2 : decode cX7_clear 2 = .ok (.putfield 9, 3) := by decide +kernel
theorem dX7_clear_5 : decode cX7_clear 5 = .ok (.return_, 1) := by decide +kernel
theorem dX7_add_0 : decode cX7_add 0 = .ok (.aload_n 0, 1) := by decide +kernel
theorem dX7_add_1 : decode cX7_add 1 = .ok (.getfield 9, 3) := by decide +kernel
theorem dX7_add_4 : decode cX7_add 4 = .ok (.bipush 8, 2) := by decide +kernel
theorem dX7_add_6 : decode cX7_add 6 = .ok (.if_icmp .lt 4, 3) := by decide +kernel
theorem dX7_add_9 : decode cX7_add 9 = .ok (.return_, 1) := by decide +kernel
theorem dX7_add_10 : decode cX7_add 10 = .ok (.aload_n 0, 1) := by decide +kernel
theorem dX7_add_11 : decode cX7_add 11 = .ok (.getfield 9, 3) := by decide +kernel
theorem dX7_add_14 : decode cX7_add 14 = .ok (.istore 4, 2) := by decide +kernel
theorem dX7_add_16 : decode cX7_add 16 = .ok (.aload_n 0, 1) := by decide +kernel
theorem dX7_add_17 : decode cX7_add 17 = .ok (.getfield 9, 3) := by decide +kernel
theorem dX7_add_20 : decode cX7_add 20 = .ok (.iconst 1, 1) := by decide +kernel
theorem dX7_add_21 : decode cX7_add 21 = .ok (.isub, 1) := by decide +kernel
theorem dX7_add_22 : decode cX7_add 22 = .ok (.istore 5, 2) := by decide +kernel
theorem dX7_add_24 : decode cX7_add 24 = .ok (.iload 5, 2) := by decide +kernel
theorem dX7_add_26 : decode cX7_add 26 = .ok (.ifCond .lt 72, 3) := by decide +kernel
theorem dX7_add_29 : decode cX7_add 29 = .ok (.aload_n 0, 1) := by decide +kernel
theorem dX7_add_30 : decode cX7_add 30 = .ok (.getfield 19, 3) := by decide +kernel
theorem dX7_add_33 : decode cX7_add 33 = .ok (.iload 5, 2) := by decide +kernel
theorem dX7_add_35 : decode cX7_add 35 = .ok (.iaload, 1) := by decide +kernel
theorem dX7_add_36 : decode cX7_add 36 = .ok (.iload_n 2, 1) := by decide +kernel
theorem dX7_add_37 : decode cX7_add 37 = .ok (.if_icmp .le 61, 3) := by decide +kernel
theorem dX7_add_40 : decode cX7_add 40 = .ok (.aload_n 0, 1) := by decide +kernel
theorem dX7_add_41 : decode cX7_add 41 = .ok (.getfield 15, 3) := by decide +kernel
theorem dX7_add_44 : decode cX7_add 44 = .ok (.iload 5, 2) := by decide +kernel
theorem dX7_add_46 : decode cX7_add 46 = .ok (.iconst 1, 1) := by decide +kernel
theorem dX7_add_47 : decode cX7_add 47 = .ok (.iadd, 1) := by decide +kernel
theorem dX7_add_48 : decode cX7_add 48 = .ok (.aload_n 0, 1) := by decide +kernel
theorem dX7_add_49 : decode cX7_add 49 = .ok (.getfield 15, 3) := by decide +kernel
theorem dX7_add_52 : decode cX7_add 52 = .ok (.iload 5, 2) := by decide +kernel
theorem dX7_add_54 : decode cX7_add 54 = .ok (.iaload, 1) := by decide +kernel
theorem dX7_add_55 : decode cX7_add 55 = .ok (.iastore, 1) := by decide +kernel
theorem dX7_add_56 : decode cX7_add 56 = .ok (.aload_n 0, 1) := by decide +kernel
theorem dX7_add_57 : decode cX7_add 57 = .ok (.getfield 19, 3) := by decide +kernel
theorem dX7_add_60 : decode cX7_add 60 = .ok (.iload 5, 2) := by decide +kernel
theorem dX7_add_62 : decode cX7_add 62 = .ok (.iconst 1, 1) := by decide +kernel
theorem dX7_add_63 : decode cX7_add 63 = .ok (.iadd, 1) := by decide +kernel
theorem dX7_add_64 : decode cX7_add 64 = .ok (.aload_n 0, 1) := by decide +kernel
theorem dX7_add_65 : decode cX7_add 65 = .ok (.getfield 19, 3) := by decide +kernel
theorem dX7_add_68 : decode cX7_add 68 = .ok (.iload 5, 2) := by decide +kernel
theorem dX7_add_70 : decode cX7_add 70 = .ok (.iaload, 1) := by decide +kernel
theorem dX7_add_71 : decode cX7_add 71 = .ok (.iastore, 1) := by decide +kernel
theorem dX7_add_72 : decode cX7_add 72 = .ok (.aload_n 0, 1) := by decide +kernel
theorem dX7_add_73 : decode cX7_add 73 = .ok (.getfield 22, 3) := by decide +kernel
theorem dX7_add_76 : decode cX7_add 76 = .ok (.iload 5, 2) := by decide +kernel
theorem dX7_add_78 : decode cX7_add 78 = .ok (.iconst 1, 1) := by decide +kernel
theorem dX7_add_79 : decode cX7_add 79 = .ok (.iadd, 1) := by decide +kernel
theorem dX7_add_80 : decode cX7_add 80 = .ok (.aload_n 0, 1) := by decide +kernel
theorem dX7_add_81 : decode cX7_add 81 = .ok (.getfield 22, 3) := by decide +kernel
theorem dX7_add_84 : decode cX7_add 84 = .ok (.iload 5, 2) := by decide +kernel
theorem dX7_add_86 : decode cX7_add 86 = .ok (.iaload, 1) := by decide +kernel
theorem dX7_add_87 : decode cX7_add 87 = .ok (.iastore, 1) := by decide +kernel
theorem dX7_add_88 : decode cX7_add 88 = .ok (.iload 5, 2) := by decide +kernel
theorem dX7_add_90 : decode cX7_add 90 = .ok (.istore 4, 2) := by decide +kernel
theorem dX7_add_92 : decode cX7_add 92 = .ok (.iinc 5 (-1), 3) := by decide +kernel
theorem dX7_add_95 : decode cX7_add 95 = .ok (.goto (-71), 3) := by decide +kernel
theorem dX7_add_98 : decode cX7_add 98 = .ok (.aload_n 0, 1) := by decide +kernel
theorem dX7_add_99 : decode cX7_add 99 = .ok (.getfield 15, 3) := by decide +kernel
theorem dX7_add_102 : decode cX7_add 102 = .ok (.iload 4, 2) := by decide +kernel
theorem dX7_add_104 : decode cX7_add 104 = .ok (.iload_n 1, 1) := by decide +kernel
theorem dX7_add_105 : decode cX7_add 105 = .ok (.iastore, 1) := by decide +kernel
theorem dX7_add_106 : decode cX7_add 106 = .ok (.aload_n 0, 1) := by decide +kernel
theorem dX7_add_107 : decode cX7_add 107 = .ok (.getfield 19, 3) := by decide +kernel
theorem dX7_add_110 : decode cX7_add 110 = .ok (.iload 4, 2) := by decide +kernel
theorem dX7_add_112 : decode cX7_add 112 = .ok (.iload_n 2, 1) := by decide +kernel
theorem dX7_add_113 : decode cX7_add 113 = .ok (.iastore, 1) := by decide +kernel
theorem dX7_add_114 : decode cX7_add 114 = .ok (.aload_n 0, 1) := by decide +kernel
theorem dX7_add_115 : decode cX7_add 115 = .ok (.getfield 22, 3) := by decide +kernel
theorem dX7_add_118 : decode cX7_add 118 = .ok (.iload 4, 2) := by decide +kernel
theorem dX7_add_120 : decode cX7_add 120 = .ok (.iload_n 3, 1) := by decide +kernel
theorem dX7_add_121 : decode cX7_add 121 = .ok (.iastore, 1) := by decide +kernel
theorem dX7_add_122 : decode cX7_add 122 = .ok (.aload_n 0, 1) := by decide +kernel
theorem dX7_add_123 : decode cX7_add 123 = .ok (.dup, 1) := by decide +kernel
theorem dX7_add_124 : decode cX7_add 124 = .ok (.getfield 9, 3) := by decide +kernel
theorem dX7_add_127 : decode cX7_add 127 = .ok (.iconst 1, 1) := by decide +kernel
theorem dX7_add_128 : decode cX7_add 128 = .ok (.iadd, 1) := by decide +kernel
theorem dX7_add_129 : decode cX7_add 129 = .ok (.putfield 9, 3) := by decide +kernel
theorem dX7_add_132 : decode cX7_add 132 = .ok (.return_, 1) := by decide +kernel
theorem dX7_copyFrom_0 : decode cX7_copyFrom 0 = .ok (.aload_n 0, 1) := by decide +kernel
theorem dX7_copyFrom_1 : decode cX7_copyFrom 1 = .ok (.aload_n 1, 1) := by decide +kernel
theorem dX7_copyFrom_2 : decode cX7_copyFrom 2 = .ok (.getfield 9, 3) := by decide +kernel
theorem dX7_copyFrom_5 : decode cX7_copyFrom 5 = .ok (.putfield 9, 3) := by decide +kernel
theorem dX7_copyFrom_8 : decode cX7_copyFrom 8 = .ok (.aload_n 1, 1) := by decide +kernel
theorem dX7_copyFrom_9 : decode cX7_copyFrom 9 = .ok (.getfield 15, 3) := by decide +kernel
theorem dX7_copyFrom_12 : decode cX7_copyFrom 12 = .ok (.iconst 0, 1) := by decide +kernel
theorem dX7_copyFrom_13 : decode cX7_copyFrom 13 = .ok (.aload_n 0, 1) := by decide +kernel
theorem dX7_copyFrom_14 : decode cX7_copyFrom 14 = .ok (.getfield 15, 3) := by decide +kernel
theorem dX7_copyFrom_17 : decode cX7_copyFrom 17 = .ok (.iconst 0, 1) := by decide +kernel
theorem dX7_copyFrom_18 : decode cX7_copyFrom 18 = .ok (.aload_n 0, 1) := by decide +kernel
theorem dX7_copyFrom_19 : decode cX7_copyFrom 19 = .ok (.getfield 9, 3) := by decide +kernel
theorem dX7_copyFrom_22 : decode cX7_copyFrom 22 = .ok (.invokestatic 25, 3) := by decide +kernel
theorem dX7_copyFrom_25 : decode cX7_copyFrom 25 = .ok (.aload_n 1, 1) := by decide +kernel
theorem dX7_copyFrom_26 : decode cX7_copyFrom 26 = .ok (.getfield 19, 3) := by decide +kernel
theorem dX7_copyFrom_29 : decode cX7_copyFrom 29 = .ok (.iconst 0, 1) := by decide +kernel
theorem dX7_copyFrom_30 : decode cX7_copyFrom 30 = .ok (.aload_n 0, 1) := by decide +kernel
theorem dX7_copyFrom_31 : decode cX7_copyFrom 31 = .ok (.getfield 19, 3) := by decide +kernel
theorem dX7_copyFrom_34 : decode cX7_copyFrom 34 = .ok (.iconst 0, 1) := by decide +kernel
theorem dX7_copyFrom_35 : decode cX7_copyFrom 35 = .ok (.aload_n 0, 1) := by decide +kernel
theorem dX7_copyFrom_36 : decode cX7_copyFrom 36 = .ok (.getfield 9, 3) := by decide +kernel
theorem dX7_copyFrom_39 : decode cX7_copyFrom 39 = .ok (.invokestatic 25, 3) := by decide +kernel
theorem dX7_copyFrom_42 : decode cX7_copyFrom 42 = .ok (.aload_n 1, 1) := by decide +kernel
theorem dX7_copyFrom_43 : decode cX7_copyFrom 43 = .ok (.getfield 22, 3) := by decide +kernel
theorem dX7_copyFrom_46 : decode cX7_copyFrom 46 = .ok (.iconst 0, 1) := by decide +kernel
theorem dX7_copyFrom_47 : decode cX7_copyFrom 47 = .ok (.aload_n 0, 1) := by decide +kernel
theorem dX7_copyFrom_48 : decode cX7_copyFrom 48 = .ok (.getfield 22, 3) := by decide +kernel
theorem dX7_copyFrom_51 : decode cX7_copyFrom 51 = .ok (.iconst 0, 1) := by decide +kernel
theorem dX7_copyFrom_52 : decode cX7_copyFrom 52 = .ok (.aload_n 0, 1) := by decide +kernel
theorem dX7_copyFrom_53 : decode cX7_copyFrom 53 = .ok (.getfield 9, 3) := by decide +kernel
theorem dX7_copyFrom_56 : decode cX7_copyFrom 56 = .ok (.invokestatic 25, 3) := by decide +kernel
theorem dX7_copyFrom_59 : decode cX7_copyFrom 59 = .ok (.return_, 1) := by decide +kernel
theorem dX8_init_0 : decode cX8_init 0 = .ok (.aload_n 0, 1) := by decide +kernel
theorem dX8_init_1 : decode cX8_init 1 = .ok (.invokespecial 3, 3) := by decide +kernel
theorem dX8_init_4 : decode cX8_init 4 = .ok (.aload_n 0, 1) := by decide +kernel
theorem dX8_init_5 : decode cX8_init 5 = .ok (.iconst 0, 1) := by decide +kernel
theorem dX8_init_6 : decode cX8_init 6 = .ok (.putfield 9, 3) := by decide +kernel
theorem dX8_init_9 : decode cX8_init 9 = .ok (.aload_n 0, 1) := by decide +kernel
theorem dX8_init_10 : decode cX8_init 10 = .ok (.iconst 0, 1) := by decide +kernel
theorem dX8_init_11 : decode cX8_init 11 = .ok (.putfield 15, 3) := by decide +kernel
theorem dX8_init_14 : decode cX8_init 14 = .ok (.aload_n 0, 1) := by decide +kernel
theorem dX8_init_15 : decode cX8_init 15 = .ok (.bipush 12, 2) := by decide +kernel
theorem dX8_init_17 : decode cX8_init 17 = .ok (.newarray .int, 2) := by decide +kernel
theorem dX8_init_19 : decode cX8_init 19 = .ok (.putfield 18, 3) := by decide +kernel
theorem dX8_init_22 : decode cX8_init 22 = .ok (.aload_n 0, 1) := by decide +kernel
theorem dX8_init_23 : decode cX8_init 23 = .ok (.bipush 13, 2) := by decide +kernel
theorem dX8_init_25 : decode cX8_init 25 = .ok (.newarray .int, 2) := by decide +kernel
theorem dX8_init_27 : decode cX8_init 27 = .ok (.putfield 22, 3) := by decide +kernel
theorem dX8_init_30 : decode cX8_init 30 = .ok (.aload_n 0, 1) := by decide +kernel
theorem dX8_init_31 : decode cX8_init 31 = .ok (.sipush 156, 3) := by decide +kernel
theorem dX8_init_34 : decode cX8_init 34 = .ok (.newarray .int, 2) := by decide +kernel
theorem dX8_init_36 : decode cX8_init 36 = .ok (.putfield 25, 3) := by decide +kernel
theorem dX8_init_39 : decode cX8_init 39 = .ok (.aload_n 0, 1) := by decide +kernel
theorem dX8_init_40 : decode cX8_init 40 = .ok (.bipush 8, 2) := by decide +kernel
theorem dX8_init_42 : decode cX8_init 42 = .ok (.newarray .int, 2) := by decide +kernel
theorem dX8_init_44 : decode cX8_init 44 = .ok (.putfield 28, 3) := by decide +kernel
theorem dX8_init_47 : decode cX8_init 47 = .ok (.aload_n 0, 1) := by decide +kernel
theorem dX8_init_48 : decode cX8_init 48 = .ok (.bipush 8, 2) := by decide +kernel
theorem dX8_init_50 : decode cX8_init 50 = .ok (.newarray .int, 2) := by decide +kernel
theorem dX8_init_52 : decode cX8_init 52 = .ok (.putfield 31, 3) := by decide +kernel
theorem dX8_init_55 : decode cX8_init 55 = .ok (.aload_n 0, 1) := by decide +kernel
theorem dX8_init_56 : decode cX8_init 56 = .ok (.bipush 8, 2) := by decide +kernel
theorem dX8_init_58 : decode cX8_init 58 = .ok (.newarray .int, 2) := by decide +kernel
theorem dX8_init_60 : decode cX8_init 60 = .ok (.putfield 34, 3) := by decide +kernel
theorem dX8_init_63 : decode cX8_init 63 = .ok (.aload_n 0, 1) := by decide +kernel
theorem dX8_init_64 : decode cX8_init 64 = .ok (.bipush 8, 2) := by decide +kernel
theorem dX8_init_66 : decode cX8_init 66 = .ok (.newarray .int, 2) := by decide +kernel
theorem dX8_init_68 : decode cX8_init 68 = .ok (.putfield 37, 3) := by decide +kernel
theorem dX8_init_71 : decode cX8_init 71 = .ok (.aload_n 0, 1) := by decide +kernel
theorem dX8_init_72 : decode cX8_init 72 = .ok (.new 40, 3) := by decide +kernel
theorem dX8_init_75 : decode cX8_init 75 = .ok (.dup, 1) := by decide +kernel
theorem dX8_init_76 : decode cX8_init 76 = .ok (.invokespecial 42, 3) := by decide +kernel
theorem dX8_init_79 : decode cX8_init 79 = .ok (.putfield 43, 3) := by decide +kernel
theorem dX8_init_82 : decode cX8_init 82 = .ok (.return_, 1) := by decide +kernel
theorem dX8_clear_0 : decode cX8_clear 0 = .ok (.aload_n 0, 1) := by decide +kernel
theorem dX8_clear_1 : decode cX8_clear 1 = .ok (.iconst 0, 1) := by decide +kernel
theorem dX8_clear_2 : decode cX8_clear 2 = .ok (.putfield 9, 3) := by decide +kernel
theorem dX8_clear_5 : decode cX8_clear 5 = .ok (.aload_n 0, 1) := by decide +kernel
theorem dX8_clear_6 : decode cX8_clear 6 = .ok (.iconst 0, 1) := by decide +kernel
theorem dX8_clear_7 : decode cX8_clear 7 = .ok (.putfield 15, 3) := by decide +kernel
theorem dX8_clear_10 : decode cX8_clear 10 = .ok (.aload_n 0, 1) := by decide +kernel
theorem dX8_clear_11 : decode cX8_clear 11 = .ok (.getfield 22, 3) := by decide +kernel
theorem dX8_clear_14 : decode cX8_clear 14 = .ok (.iconst 0, 1) := by decide +kernel
theorem dX8_clear_15 : decode cX8_clear 15 = .ok (.invokestatic 47, 3) := by decide +kernel
theorem dX8_clear_18 : decode cX8_clear 18 = .ok (.aload_n 0, 1) := by decide +kernel
theorem dX8_clear_19 : decode cX8_clear 19 = .ok (.getfield 43, 3) := by decide +kernel
theorem dX8_clear_22 : decode cX8_clear 22 = .ok (.invokevirtual 53, 3) := by decide +kernel
theorem dX8_clear_25 : decode cX8_clear 25 = .ok (.return_, 1) := by decide +kernel
theorem dX8_copyFrom_0 : decode cX8_copyFrom 0 = .ok (.aload_n 0, 1) := by decide +kernel
theorem dX8_copyFrom_1 : decode cX8_copyFrom 1 = .ok (.aload_n 1, 1) := by decide +kernel
theorem dX8_copyFrom_2 : decode cX8_copyFrom 2 = .ok (.getfield 9, 3) := by decide +kernel
theorem dX8_copyFrom_5 : decode cX8_copyFrom 5 = .ok (.putfield 9, 3) := by decide +kernel
theorem dX8_copyFrom_8 : decode cX8_copyFrom 8 = .ok (.aload_n 0, 1) := by decide +kernel
theorem dX8_copyFrom_9 : decode cX8_copyFrom 9 = .ok (.aload_n 1, 1) := by decide +kernel
theorem dX8_copyFrom_10 : decode cX8_copyFrom 10 = .ok (.getfield 15, 3) := by decide +kernel
theorem dX8_copyFrom_13 : decode cX8_copyFrom 13 = .ok (.putfield 15, 3) := by decide +kernel
theorem dX8_copyFrom_16 : decode cX8_copyFrom 16 = .ok (.aload_n 1, 1) := by decide +kernel
theorem dX8_copyFrom_17 : decode cX8_copyFrom 17 = .ok (.getfield 18, 3) := by decide +kernel
theorem dX8_copyFrom_20 : decode cX8_copyFrom 20 = .ok (.iconst 0, 1) := by decide +kernel
theorem dX8_copyFrom_21 : decode cX8_copyFrom 21 = .ok (.aload_n 0, 1) := by decide +kernel
theorem dX8_copyFrom_22 : decode cX8_copyFrom 22 = .ok (.getfield 18, 3) := by decide +kernel
theorem dX8_copyFrom_25 : decode cX8_copyFrom 25 = .ok (.iconst 0, 1) := by decide +kernel
theorem dX8_copyFrom_26 : decode cX8_copyFrom 26 = .ok (.aload_n 0, 1) := by decide +kernel
theorem dX8_copyFrom_27 : decode cX8_copyFrom 27 = .ok (.getfield 18, 3) := by decide +kernel
theorem dX8_copyFrom_30 : decode cX8_copyFrom 30 = .ok (.arraylength, 1) := by decide +kernel
theorem dX8_copyFrom_31 : decode cX8_copyFrom 31 = .ok (.invokestatic 56, 3) := by decide +kernel
theorem dX8_copyFrom_34 : decode cX8_copyFrom 34 = .ok (.aload_n 1, 1) := by decide +kernel
theorem dX8_copyFrom_35 : decode cX8_copyFrom 35 = .ok (.getfield 22, 3) := by decide +kernel
theorem dX8_copyFrom_38 : decode cX8_copyFrom 38 = .ok (.iconst 0, 1) := by decide +kernel
theorem dX8_copyFrom_39 : decode cX8_copyFrom 39 = .ok (.aload_n 0, 1) := by decide +kernel
theorem dX8_copyFrom_40 : decode cX8_copyFrom 40 = .ok (.getfield 22, 3) := by decide +kernel
theorem dX8_copyFrom_43 : decode cX8_copyFrom 43 = .ok (.iconst 0, 1) := by decide +kernel
theorem dX8_copyFrom_44 : decode cX8_copyFrom 44 = .ok (.aload_n 0, 1) := by decide +kernel
theorem dX8_copyFrom_45 : decode cX8_copyFrom 45 = .ok (.getfield 22, 3) := by decide +kernel
theorem dX8_copyFrom_48 : decode cX8_copyFrom 48 = .ok (.arraylength, 1) := by decide +kernel
theorem dX8_copyFrom_49 : decode cX8_copyFrom 49 = .ok (.invokestatic 56, 3) := by decide +kernel
theorem dX8_copyFrom_52 : decode cX8_copyFrom 52 = .ok (.aload_n 1, 1) := by decide +kernel
theorem dX8_copyFrom_53 : decode cX8_copyFrom 53 = .ok (.getfield 25, 3) := by decide +kernel
theorem dX8_copyFrom_56 : decode cX8_copyFrom 56 = .ok (.iconst 0, 1) := by decide +kernel
theorem dX8_copyFrom_57 : decode cX8_copyFrom 57 = .ok (.aload_n 0, 1) := by decide +kernel
theorem dX8_copyFrom_58 : decode cX8_copyFrom 58 = .ok (.getfield 25, 3) := by decide +kernel
theorem dX8_copyFrom_61 : decode cX8_copyFrom 61 = .ok (.iconst 0, 1) := by decide +kernel
theorem dX8_copyFrom_62 : decode cX8_copyFrom 62 = .ok (.aload_n 0, 1) := by decide +kernel
theorem dX8_copyFrom_63 : decode cX8_copyFrom 63 = .ok (.getfield 25, 3) := by decide +kernel
theorem dX8_copyFrom_66 : decode cX8_copyFrom 66 = .ok (.arraylength, 1) := by decide +kernel
theorem dX8_copyFrom_67 : decode cX8_copyFrom 67 = .ok (.invokestatic 56, 3) := by decide +kernel
theorem dX8_copyFrom_70 : decode cX8_copyFrom 70 = .ok (.aload_n 1, 1) := by decide +kernel
theorem dX8_copyFrom_71 : decode cX8_copyFrom 71 = .ok (.getfield 28, 3) := by decide +kernel
theorem dX8_copyFrom_74 : decode cX8_copyFrom 74 = .ok (.iconst 0, 1) := by decide +kernel
theorem dX8_copyFrom_75 : decode cX8_copyFrom 75 = .ok (.aload_n 0, 1) := by decide +kernel
theorem dX8_copyFrom_76 : decode cX8_copyFrom 76 = .ok (.getfield 28, 3) := by decide +kernel
theorem dX8_copyFrom_79 : decode cX8_copyFrom 79 = .ok (.iconst 0, 1) := by decide +kernel
theorem dX8_copyFrom_80 : decode cX8_copyFrom 80 = .ok (.aload_n 0, 1) := by decide +kernel
theorem dX8_copyFrom_81 : decode cX8_copyFrom 81 = .ok (.getfield 28, 3) := by decide +kernel
theorem dX8_copyFrom_84 : decode cX8_copyFrom 84 = .ok (.arraylength, 1) := by decide +kernel
theorem dX8_copyFrom_85 : decode cX8_copyFrom 85 = .ok (.invokestatic 56, 3) := by decide +kernel
theorem dX8_copyFrom_88 : decode cX8_copyFrom 88 = .ok (.aload_n 1, 1) := by decide +kernel
theorem dX8_copyFrom_89 : decode cX8_copyFrom 89 = .ok (.getfield 31, 3) := by decide +kernel
theorem dX8_copyFrom_92 : decode cX8_copyFrom 92 = .ok (.iconst 0, 1) := by decide +kernel
theorem dX8_copyFrom_93 : decode cX8_copyFrom 93 = .ok (.aload_n 0, 1) := by decide +kernel
theorem dX8_copyFrom_94 : decode cX8_copyFrom 94 = .ok (.getfield 31, 3) := by decide +kernel
theorem dX8_copyFrom_97 : decode cX8_copyFrom 97 = .ok (.iconst 0, 1) := by decide +kernel
theorem dX8_copyFrom_98 : decode cX8_copyFrom 98 = .ok (.aload_n 0, 1) := by decide +kernel
theorem dX8_copyFrom_99 : decode cX8_copyFrom 99 = .ok (.getfield 31, 3) := by decide +kernel
theorem dX8_copyFrom_102 : decode cX8_copyFrom 102 = .ok (.arraylength, 1) := by decide +kernel
theorem dX8_copyFrom_103 : decode cX8_copyFrom 103 = .ok (.invokestatic 56, 3) := by decide +kernel
theorem dX8_copyFrom_106 : decode cX8_copyFrom 106 = .ok (.aload_n 1, 1) := by decide +kernel
theorem dX8_copyFrom_107 : decode cX8_copyFrom 107 = .ok (.getfield 34, 3) := by decide +kernel
theorem dX8_copyFrom_110 : decode cX8_copyFrom 110 = .ok (.iconst 0, 1) := by decide +kernel
theorem dX8_copyFrom_111 : decode cX8_copyFrom 111 = .ok (.aload_n 0, 1) := by decide +kernel
theorem dX8_copyFrom_112 : decode cX8_copyFrom 112 = .ok (.getfield 34, 3) := by decide +kernel
theorem dX8_copyFrom_115 : decode cX8_copyFrom 115 = .ok (.iconst 0, 1) := by decide +kernel
theorem dX8_copyFrom_116 : decode cX8_copyFrom 116 = .ok (.aload_n 0, 1) := by decide +kernel
theorem dX8_copyFrom_117 : decode cX8_copyFrom 117 = .ok (.getfield 34, 3) := by decide +kernel
theorem dX8_copyFrom_120 : decode cX8_copyFrom 120 = .ok (.arraylength, 1) := by decide +kernel
theorem dX8_copyFrom_121 : decode cX8_copyFrom 121 = .ok (.invokestatic 56, 3) := by decide +kernel
theorem dX8_copyFrom_124 : decode cX8_copyFrom 124 = .ok (.aload_n 1, 1) := by decide +kernel
theorem dX8_copyFrom_125 : decode cX8_copyFrom 125 = .ok (.getfield 37, 3) := by decide +kernel
theorem dX8_copyFrom_128 : decode cX8_copyFrom 128 = .ok (.iconst 0, 1) := by decide +kernel
theorem dX8_copyFrom_129 : decode cX8_copyFrom 129 = .ok (.aload_n 0, 1) := by decide +kernel
theorem dX8_copyFrom_130 : decode cX8_copyFrom 130 = .ok (.getfield 37, 3) := by decide +kernel
theorem dX8_copyFrom_133 : decode cX8_copyFrom 133 = .ok (.iconst 0, 1) := by decide +kernel
theorem dX8_copyFrom_134 : decode cX8_copyFrom 134 = .ok (.aload_n 0, 1) := by decide +kernel
theorem dX8_copyFrom_135 : decode cX8_copyFrom 135 = .ok (.getfield 37, 3) := by decide +kernel
theorem dX8_copyFrom_138 : decode cX8_copyFrom 138 = .ok (.arraylength, 1) := by decide +kernel
theorem dX8_copyFrom_139 : decode cX8_copyFrom 139 = .ok (.invokestatic 56, 3) := by decide +kernel
theorem dX8_copyFrom_142 : decode cX8_copyFrom 142 = .ok (.aload_n 0, 1) := by decide +kernel
theorem dX8_copyFrom_143 : decode cX8_copyFrom 143 = .ok (.getfield 43, 3) := by decide +kernel
theorem dX8_copyFrom_146 : decode cX8_copyFrom 146 = .ok (.aload_n 1, 1) := by decide +kernel
theorem dX8_copyFrom_147 : decode cX8_copyFrom 147 = .ok (.getfield 43, 3) := by decide +kernel
theorem dX8_copyFrom_150 : decode cX8_copyFrom 150 = .ok (.bipush 12, 2) := by decide +kernel
theorem dX8_copyFrom_152 : decode cX8_copyFrom 152 = .ok (.invokevirtual 62, 3) := by decide +kernel
theorem dX8_copyFrom_155 : decode cX8_copyFrom 155 = .ok (.return_, 1) := by decide +kernel
theorem dX8_hasClass_0 : decode cX8_hasClass 0 = .ok (.iload_n 1, 1) := by decide +kernel
theorem dX8_hasClass_1 : decode cX8_hasClass 1 = .ok (.ifCond .lt 15, 3) := by decide +kernel
theorem dX8_hasClass_4 : decode cX8_hasClass 4 = .ok (.iload_n 1, 1) := by decide +kernel
theorem dX8_hasClass_5 : decode cX8_hasClass 5 = .ok (.aload_n 0, 1) := by decide +kernel
theorem dX8_hasClass_6 : decode cX8_hasClass 6 = .ok (.getfield 9, 3) := by decide +kernel
theorem dX8_hasClass_9 : decode cX8_hasClass 9 = .ok (.if_icmp .ge 7, 3) := by decide +kernel
theorem dX8_hasClass_12 : decode cX8_hasClass 12 = .ok (.iconst 1, 1) := by decide +kernel
theorem dX8_hasClass_13 : decode cX8_hasClass 13 = .ok (.goto 4, 3) := by decide +kernel
theorem dX8_hasClass_16 : decode cX8_hasClass 16 = .ok (.iconst 0, 1) := by decide +kernel
theorem dX8_hasClass_17 : decode cX8_hasClass 17 = .ok (.ireturn, 1) := by decide +kernel
theorem dX8_isLeaf_0 : decode cX8_isLeaf 0 = .ok (.aload_n 0, 1) := by decide +kernel
theorem dX8_isLeaf_1 : decode cX8_isLeaf 1 = .ok (.getfield 22, 3) := by decide +kernel
theorem dX8_isLeaf_4 : decode cX8_isLeaf 4 = .ok (.iload_n 1, 1) := by decide +kernel
theorem dX8_isLeaf_5 : decode cX8_isLeaf 5 = .ok (.iaload, 1) := by decide +kernel
theorem dX8_isLeaf_6 : decode cX8_isLeaf 6 = .ok (.ifCond .ne 7, 3) := by decide +kernel
theorem dX8_isLeaf_9 : decode cX8_isLeaf 9 = .ok (.iconst 1, 1) := by decide +kernel
theorem dX8_isLeaf_10 : decode cX8_isLeaf 10 = .ok (.goto 4, 3) := by decide +kernel
theorem dX8_isLeaf_13 : decode cX8_isLeaf 13 = .ok (.iconst 0, 1) := by decide +kernel
theorem dX8_isLeaf_14 : decode cX8_isLeaf 14 = .ok (.ireturn, 1) := by decide +kernel
theorem dX8_hasLeaf_0 : decode cX8_hasLeaf 0 = .ok (.aload_n 0, 1) := by decide +kernel
theorem dX8_hasLeaf_1 : decode cX8_hasLeaf 1 = .ok (.iload_n 1, 1) := by decide +kernel
theorem dX8_hasLeaf_2 : decode cX8_hasLeaf 2 = .ok (.invokevirtual 66, 3) := by decide +kernel
theorem dX8_hasLeaf_5 : decode cX8_hasLeaf 5 = .ok (.ifCond .eq 15, 3) := by decide +kernel
theorem dX8_hasLeaf_8 : decode cX8_hasLeaf 8 = .ok (.aload_n 0, 1) := by decide +kernel
theorem dX8_hasLeaf_9 : decode cX8_hasLeaf 9 = .ok (.iload_n 1, 1) := by decide +kernel
theorem dX8_hasLeaf_10 : decode cX8_hasLeaf 10 = .ok (.invokevirtual 70, 3) := by decide +kernel
theorem dX8_hasLeaf_13 : decode cX8_hasLeaf 13 = .ok (.ifCond .eq 7, 3) := by decide +kernel
theorem dX8_hasLeaf_16 : decode cX8_hasLeaf 16 = .ok (.iconst 1, 1) := by decide +kernel
theorem dX8_hasLeaf_17 : decode cX8_hasLeaf 17 = .ok (.goto 4, 3) := by decide +kernel
theorem dX8_hasLeaf_20 : decode cX8_hasLeaf 20 = .ok (.iconst 0, 1) := by decide +kernel
theorem dX8_hasLeaf_21 : decode cX8_hasLeaf 21 = .ok (.ireturn, 1) := by decide +kernel
theorem dX8_hasFlow_0 : decode cX8_hasFlow 0 = .ok (.iload_n 1, 1) := by decide +kernel
theorem dX8_hasFlow_1 : decode cX8_hasFlow 1 = .ok (.ifCond .lt 15, 3) := by decide +kernel
theorem dX8_hasFlow_4 : decode cX8_hasFlow 4 = .ok (.iload_n 1, 1) := by decide +kernel
theorem dX8_hasFlow_5 : decode cX8_hasFlow 5 = .ok (.aload_n 0, 1) := by decide +kernel
theorem dX8_hasFlow_6 : decode cX8_hasFlow 6 = .ok (.getfield 15, 3) := by decide +kernel
theorem dX8_hasFlow_9 : decode cX8_hasFlow 9 = .ok (.if_icmp .ge 7, 3) := by decide +kernel
theorem dX8_hasFlow_12 : decode cX8_hasFlow 12 = .ok (.iconst 1, 1) := by decide +kernel
theorem dX8_hasFlow_13 : decode cX8_hasFlow 13 = .ok (.goto 4, 3) := by decide +kernel
theorem dX8_hasFlow_16 : decode cX8_hasFlow 16 = .ok (.iconst 0, 1) := by decide +kernel
theorem dX8_hasFlow_17 : decode cX8_hasFlow 17 = .ok (.ireturn, 1) := by decide +kernel
theorem dX8_mayHoldClass_0 : decode cX8_mayHoldClass 0 = .ok (.aload_n 0, 1) := by decide +kernel
theorem dX8_mayHoldClass_1 : decode cX8_mayHoldClass 1 = .ok (.iload_n 1, 1) := by decide +kernel
theorem dX8_mayHoldClass_2 : decode cX8_mayHoldClass 2 = .ok (.invokevirtual 66, 3) := by decide +kernel
theorem dX8_mayHoldClass_5 : decode cX8_mayHoldClass 5 = .ok (.ifCond .eq 18, 3) := by decide +kernel
theorem dX8_mayHoldClass_8 : decode cX8_mayHoldClass 8 = .ok (.aload_n 0, 1) := by decide +kernel
theorem dX8_mayHoldClass_9 : decode cX8_mayHoldClass 9 = .ok (.getfield 43, 3) := by decide +kernel
theorem dX8_mayHoldClass_12 : decode cX8_mayHoldClass 12 = .ok (.iload_n 1, 1) := by decide +kernel
theorem dX8_mayHoldClass_13 : decode cX8_mayHoldClass 13 = .ok (.iconst 3, 1) := by decide +kernel
theorem dX8_mayHoldClass_14 : decode cX8_mayHoldClass 14 = .ok (.imul, 1) := by decide +kernel
theorem dX8_mayHoldClass_15 : decode cX8_mayHoldClass 15 = .ok (.iconst 0, 1) := by decide +kernel
theorem dX8_mayHoldClass_16 : decode cX8_mayHoldClass 16 = .ok (.iadd, 1) := by decide +kernel
theorem dX8_mayHoldClass_17 : decode cX8_mayHoldClass 17 = .ok (.invokevirtual 73, 3) := by decide +kernel
theorem dX8_mayHoldClass_20 : decode cX8_mayHoldClass 20 = .ok (.ifCond .eq 5, 3) := by decide +kernel
theorem dX8_mayHoldClass_23 : decode cX8_mayHoldClass 23 = .ok (.iconst 0, 1) := by decide +kernel
theorem dX8_mayHoldClass_24 : decode cX8_mayHoldClass 24 = .ok (.ireturn, 1) := by decide +kernel
theorem dX8_mayHoldClass_25 : decode cX8_mayHoldClass 25 = .ok (.iconst 0, 1) := by decide +kernel
theorem dX8_mayHoldClass_26 : decode cX8_mayHoldClass 26 = .ok (.istore_n 2, 1) := by decide +kernel
theorem dX8_mayHoldClass_27 : decode cX8_mayHoldClass 27 = .ok (.iload_n 2, 1) := by decide +kernel
theorem dX8_mayHoldClass_28 : decode cX8_mayHoldClass 28 = .ok (.aload_n 0, 1) := by decide +kernel
theorem dX8_mayHoldClass_29 : decode cX8_mayHoldClass 29 = .ok (.getfield 15, 3) := by decide +kernel
theorem dX8_mayHoldClass_32 : decode cX8_mayHoldClass 32 = .ok (.if_icmp .ge 21, 3) := by decide +kernel
theorem dX8_mayHoldClass_35 : decode cX8_mayHoldClass 35 = .ok (.aload_n 0, 1) := by decide +kernel
theorem dX8_mayHoldClass_36 : decode cX8_mayHoldClass 36 = .ok (.getfield 28, 3) := by decide +kernel
theorem dX8_mayHoldClass_39 : decode cX8_mayHoldClass 39 = .ok (.iload_n 2, 1) := by decide +kernel
theorem dX8_mayHoldClass_40 : decode cX8_mayHoldClass 40 = .ok (.iaload, 1) := by decide +kernel
theorem dX8_mayHoldClass_41 : decode cX8_mayHoldClass 41 = .ok (.iload_n 1, 1) := by decide +kernel
theorem dX8_mayHoldClass_42 : decode cX8_mayHoldClass 42 = .ok (.if_icmp .ne 5, 3) := by decide +kernel
theorem dX8_mayHoldClass_45 : decode cX8_mayHoldClass 45 = .ok (.iconst 0, 1) := by decide +kernel
theorem dX8_mayHoldClass_46 : decode cX8_mayHoldClass 46 = .ok (.ireturn, 1) := by decide +kernel
theorem dX8_mayHoldClass_47 : decode cX8_mayHoldClass 47 = .ok (.iinc 2 1, 3) := by decide +kernel
theorem dX8_mayHoldClass_50 : decode cX8_mayHoldClass 50 = .ok (.goto (-23), 3) := by decide +kernel
theorem dX8_mayHoldClass_53 : decode cX8_mayHoldClass 53 = .ok (.iconst 1, 1) := by decide +kernel
theorem dX8_mayHoldClass_54 : decode cX8_mayHoldClass 54 = .ok (.ireturn, 1) := by decide +kernel
theorem dX8_addClass_0 : decode cX8_addClass 0 = .ok (.aload_n 0, 1) := by decide +kernel
theorem dX8_addClass_1 : decode cX8_addClass 1 = .ok (.getfield 18, 3) := by decide +kernel
theorem dX8_addClass_4 : decode cX8_addClass 4 = .ok (.aload_n 0, 1) := by decide +kernel
theorem dX8_addClass_5 : decode cX8_addClass 5 = .ok (.getfield 9, 3) := by decide +kernel
theorem dX8_addClass_8 : decode cX8_addClass 8 = .ok (.iload_n 1, 1) := by decide +kernel
theorem dX8_addClass_9 : decode cX8_addClass 9 = .ok (.iastore, 1) := by decide +kernel
theorem dX8_addClass_10 : decode cX8_addClass 10 = .ok (.aload_n 0, 1) := by decide +kernel
theorem dX8_addClass_11 : decode cX8_addClass 11 = .ok (.getfield 25, 3) := by decide +kernel
theorem dX8_addClass_14 : decode cX8_addClass 14 = .ok (.iload_n 1, 1) := by decide +kernel
theorem dX8_addClass_15 : decode cX8_addClass 15 = .ok (.bipush 12, 2) := by decide +kernel
theorem dX8_addClass_17 : decode cX8_addClass 17 = .ok (.imul, 1) := by decide +kernel
theorem dX8_addClass_18 : decode cX8_addClass 18 = .ok (.aload_n 0, 1) := by decide +kernel
theorem dX8_addClass_19 : decode cX8_addClass 19 = .ok (.getfield 22, 3) := by decide +kernel
theorem dX8_addClass_22 : decode cX8_addClass 22 = .ok (.iload_n 1, 1) := by decide +kernel
theorem dX8_addClass_23 : decode cX8_addClass 23 = .ok (.iaload, 1) := by decide +kernel
theorem dX8_addClass_24 : decode cX8_addClass 24 = .ok (.iadd, 1) := by decide +kernel
theorem dX8_addClass_25 : decode cX8_addClass 25 = .ok (.aload_n 0, 1) := by decide +kernel
theorem dX8_addClass_26 : decode cX8_addClass 26 = .ok (.getfield 9, 3) := by decide +kernel
theorem dX8_addClass_29 : decode cX8_addClass 29 = .ok (.iastore, 1) := by decide +kernel
theorem dX8_addClass_30 : decode cX8_addClass 30 = .ok (.aload_n 0, 1) := by decide +kernel
theorem dX8_addClass_31 : decode cX8_addClass 31 = .ok (.getfield 22, 3) := by decide +kernel
theorem dX8_addClass_34 : decode cX8_addClass 34 = .ok (.iload_n 1, 1) := by decide +kernel
theorem dX8_addClass_35 : decode cX8_addClass 35 = .ok (.dup2, 1) := by decide +kernel
theorem dX8_addClass_36 : decode cX8_addClass 36 = .ok (.iaload, 1) := by decide +kernel
theorem dX8_addClass_37 : decode cX8_addClass 37 = .ok (.iconst 1, 1) := by decide +kernel
theorem dX8_addClass_38 : decode cX8_addClass 38 = .ok (.iadd, 1) := by decide +kernel
theorem dX8_addClass_39 : decode cX8_addClass 39 = .ok (.iastore, 1) := by decide +kernel
theorem dX8_addClass_40 : decode cX8_addClass 40 = .ok (.aload_n 0, 1) := by decide +kernel
theorem dX8_addClass_41 : decode cX8_addClass 41 = .ok (.getfield 43, 3) := by decide +kernel
theorem dX8_addClass_44 : decode cX8_addClass 44 = .ok (.aload_n 0, 1) := by decide +kernel
theorem dX8_addClass_45 : decode cX8_addClass 45 = .ok (.getfield 9, 3) := by decide +kernel
theorem dX8_addClass_48 : decode cX8_addClass 48 = .ok (.iconst 3, 1) := by decide +kernel
theorem dX8_addClass_49 : decode cX8_addClass 49 = .ok (.imul, 1) := by decide +kernel
theorem dX8_addClass_50 : decode cX8_addClass 50 = .ok (.iconst 1, 1) := by decide +kernel
theorem dX8_addClass_51 : decode cX8_addClass 51 = .ok (.iadd, 1) := by decide +kernel
theorem dX8_addClass_52 : decode cX8_addClass 52 = .ok (.bipush 10, 2) := by decide +kernel
theorem dX8_addClass_54 : decode cX8_addClass 54 = .ok (.iconst 0, 1) := by decide +kernel
theorem dX8_addClass_55 : decode cX8_addClass 55 = .ok (.bipush 10, 2) := by decide +kernel
theorem dX8_addClass_57 : decode cX8_addClass 57 = .ok (.invokevirtual 76, 3) := by decide +kernel
theorem dX8_addClass_60 : decode cX8_addClass 60 = .ok (.aload_n 0, 1) := by decide +kernel
theorem dX8_addClass_61 : decode cX8_addClass 61 = .ok (.dup, 1) := by decide +kernel
theorem dX8_addClass_62 : decode cX8_addClass 62 = .ok (.getfield 9, 3) := by decide +kernel
theorem dX8_addClass_65 : decode cX8_addClass 65 = .ok (.iconst 1, 1) := by decide +kernel
theorem dX8_addClass_66 : decode cX8_addClass 66 = .ok (.iadd, 1) := by decide +kernel
theorem dX8_addClass_67 : decode cX8_addClass 67 = .ok (.putfield 9, 3) := by decide +kernel
theorem dX8_addClass_70 : decode cX8_addClass 70 = .ok (.return_, 1) := by decide +kernel
theorem dX8_addFlow_0 : decode cX8_addFlow 0 = .ok (.aload_n 0, 1) := by decide +kernel
theorem dX8_addFlow_1 : decode cX8_addFlow 1 = .ok (.getfield 28, 3) := by decide +kernel
theorem dX8_addFlow_4 : decode cX8_addFlow 4 = .ok (.aload_n 0, 1) := by decide +kernel
theorem dX8_addFlow_5 : decode cX8_addFlow 5 = .ok (.getfield 15, 3) := by decide +kernel
theorem dX8_addFlow_8 : decode cX8_addFlow 8 = .ok (.iload_n 1, 1) := by decide +kernel
theorem dX8_addFlow_9 : decode cX8_addFlow 9 = .ok (.iastore, 1) := by decide +kernel
theorem dX8_addFlow_10 : decode cX8_addFlow 10 = .ok (.aload_n 0, 1) := by decide +kernel
theorem dX8_addFlow_11 : decode cX8_addFlow 11 = .ok (.getfield 31, 3) := by decide +kernel
theorem dX8_addFlow_14 : decode cX8_addFlow 14 = .ok (.aload_n 0, 1) := by decide +kernel
theorem dX8_addFlow_15 : decode cX8_addFlow 15 = .ok (.getfield 15, 3) := by decide +kernel
theorem dX8_addFlow_18 : decode cX8_addFlow 18 = .ok (.iload_n 2, 1) := by decide +kernel
theorem dX8_addFlow_19 : decode cX8_addFlow 19 = .ok (.iastore, 1) := by decide +kernel
theorem dX8_addFlow_20 : decode cX8_addFlow 20 = .ok (.aload_n 0, 1) := by decide +kernel
theorem dX8_addFlow_21 : decode cX8_addFlow 21 = .ok (.getfield 34, 3) := by decide +kernel
theorem dX8_addFlow_24 : decode cX8_addFlow 24 = .ok (.aload_n 0, 1) := by decide +kernel
theorem dX8_addFlow_25 : decode cX8_addFlow 25 = .ok (.getfield 15, 3) := by decide +kernel
theorem dX8_addFlow_28 : decode cX8_addFlow 28 = .ok (.iload_n 3, 1) := by decide +kernel
theorem dX8_addFlow_29 : decode cX8_addFlow 29 = .ok (.iastore, 1) := by decide +kernel
theorem dX8_addFlow_30 : decode cX8_addFlow 30 = .ok (.aload_n 0, 1) := by decide +kernel
theorem dX8_addFlow_31 : decode cX8_addFlow 31 = .ok (.getfield 37, 3) := by decide +kernel
theorem dX8_addFlow_34 : decode cX8_addFlow 34 = .ok (.aload_n 0, 1) := by decide +kernel
theorem dX8_addFlow_35 : decode cX8_addFlow 35 = .ok (.getfield 15, 3) := by decide +kernel
theorem dX8_addFlow_38 : decode cX8_addFlow 38 = .ok (.iload 4, 2) := by decide +kernel
theorem dX8_addFlow_40 : decode cX8_addFlow 40 = .ok (.iastore, 1) := by decide +kernel
theorem dX8_addFlow_41 : decode cX8_addFlow 41 = .ok (.aload_n 0, 1) := by decide +kernel
theorem dX8_addFlow_42 : decode cX8_addFlow 42 = .ok (.dup, 1) := by decide +kernel
theorem dX8_addFlow_43 : decode cX8_addFlow 43 = .ok (.getfield 15, 3) := by decide +kernel
theorem dX8_addFlow_46 : decode cX8_addFlow 46 = .ok (.iconst 1, 1) := by decide +kernel
theorem dX8_addFlow_47 : decode cX8_addFlow 47 = .ok (.iadd, 1) := by decide +kernel
theorem dX8_addFlow_48 : decode cX8_addFlow 48 = .ok (.putfield 15, 3) := by decide +kernel
theorem dX8_addFlow_51 : decode cX8_addFlow 51 = .ok (.return_, 1) := by decide +kernel
theorem dX8_untilTold_0 : decode cX8_untilTold 0 = .ok (.aload_n 0, 1) := by decide +kernel
theorem dX8_untilTold_1 : decode cX8_untilTold 1 = .ok (.getfield 31, 3) := by decide +kernel
theorem dX8_untilTold_4 : decode cX8_untilTold 4 = .ok (.iload_n 1, 1) := by decide +kernel
theorem dX8_untilTold_5 : decode cX8_untilTold 5 = .ok (.iaload, 1) := by decide +kernel
theorem dX8_untilTold_6 : decode cX8_untilTold 6 = .ok (.iconst 1, 1) := by decide +kernel
theorem dX8_untilTold_7 : decode cX8_untilTold 7 = .ok (.if_icmp .lt 18, 3) := by decide +kernel
theorem dX8_untilTold_10 : decode cX8_untilTold 10 = .ok (.aload_n 0, 1) := by decide +kernel
theorem dX8_untilTold_11 : decode cX8_untilTold 11 = .ok (.getfield 34, 3) := by decide +kernel
theorem dX8_untilTold_14 : decode cX8_untilTold 14 = .ok (.iload_n 1, 1) := by decide +kernel
theorem dX8_untilTold_15 : decode cX8_untilTold 15 = .ok (.iaload, 1) := by decide +kernel
theorem dX8_untilTold_16 : decode cX8_untilTold 16 = .ok (.aload_n 0, 1) := by decide +kernel
theorem dX8_untilTold_17 : decode cX8_untilTold 17 = .ok (.getfield 31, 3) := by decide +kernel
theorem dX8_untilTold_20 : decode cX8_untilTold 20 = .ok (.iload_n 1, 1) := by decide +kernel
theorem dX8_untilTold_21 : decode cX8_untilTold 21 = .ok (.iaload, 1) := by decide +kernel
theorem dX8_untilTold_22 : decode cX8_untilTold 22 = .ok (.if_icmp .lt 6, 3) := by decide +kernel
theorem dX8_untilTold_25 : decode cX8_untilTold 25 = .ok (.ldc 80, 2) := by decide +kernel
theorem dX8_untilTold_27 : decode cX8_untilTold 27 = .ok (.ireturn, 1) := by decide +kernel
theorem dX8_untilTold_28 : decode cX8_untilTold 28 = .ok (.iload_n 2, 1) := by decide +kernel
theorem dX8_untilTold_29 : decode cX8_untilTold 29 = .ok (.aload_n 0, 1) := by decide +kernel
theorem dX8_untilTold_30 : decode cX8_untilTold 30 = .ok (.getfield 31, 3) := by decide +kernel
theorem dX8_untilTold_33 : decode cX8_untilTold 33 = .ok (.iload_n 1, 1) := by decide +kernel
theorem dX8_untilTold_34 : decode cX8_untilTold 34 = .ok (.iaload, 1) := by decide +kernel
theorem dX8_untilTold_35 : decode cX8_untilTold 35 = .ok (.irem, 1) := by decide +kernel
theorem dX8_untilTold_36 : decode cX8_untilTold 36 = .ok (.istore_n 3, 1) := by decide +kernel
theorem dX8_untilTold_37 : decode cX8_untilTold 37 = .ok (.iload_n 3, 1) := by decide +kernel
theorem dX8_untilTold_38 : decode cX8_untilTold 38 = .ok (.aload_n 0, 1) := by decide +kernel
theorem dX8_untilTold_39 : decode cX8_untilTold 39 = .ok (.getfield 34, 3) := by decide +kernel
theorem dX8_untilTold_42 : decode cX8_untilTold 42 = .ok (.iload_n 1, 1) := by decide +kernel
theorem dX8_untilTold_43 : decode cX8_untilTold 43 = .ok (.iaload, 1) := by decide +kernel
theorem dX8_untilTold_44 : decode cX8_untilTold 44 = .ok (.if_icmp .gt 14, 3) := by decide +kernel
theorem dX8_untilTold_47 : decode cX8_untilTold 47 = .ok (.aload_n 0, 1) := by decide +kernel
theorem dX8_untilTold_48 : decode cX8_untilTold 48 = .ok (.getfield 34, 3) := by decide +kernel
theorem dX8_untilTold_51 : decode cX8_untilTold 51 = .ok (.iload_n 1, 1) := by decide +kernel
theorem dX8_untilTold_52 : decode cX8_untilTold 52 = .ok (.iaload, 1) := by decide +kernel
theorem dX8_untilTold_53 : decode cX8_untilTold 53 = .ok (.iload_n 3, 1) := by decide +kernel
theorem dX8_untilTold_54 : decode cX8_untilTold 54 = .ok (.isub, 1) := by decide +kernel
theorem dX8_untilTold_55 : decode cX8_untilTold 55 = .ok (.goto 18, 3) := by decide +kernel
theorem dX8_untilTold_58 : decode cX8_untilTold 58 = .ok (.aload_n 0, 1) := by decide +kernel
theorem dX8_untilTold_59 : decode cX8_untilTold 59 = .ok (.getfield 34, 3) := by decide +kernel
theorem dX8_untilTold_62 : decode cX8_untilTold 62 = .ok (.iload_n 1, 1) := by decide +kernel
theorem dX8_untilTold_63 : decode cX8_untilTold 63 = .ok (.iaload, 1) := by decide +kernel
theorem dX8_untilTold_64 : decode cX8_untilTold 64 = .ok (.iload_n 3, 1) := by decide +kernel
theorem dX8_untilTold_65 : decode cX8_untilTold 65 = .ok (.isub, 1) := by decide +kernel
theorem dX8_untilTold_66 : decode cX8_untilTold 66 = .ok (.aload_n 0, 1) := by decide +kernel
theorem dX8_untilTold_67 : decode cX8_untilTold 67 = .ok (.getfield 31, 3) := by decide +kernel
theorem dX8_untilTold_70 : decode cX8_untilTold 70 = .ok (.iload_n 1, 1) := by decide +kernel
theorem dX8_untilTold_71 : decode cX8_untilTold 71 = .ok (.iaload, 1) := by decide +kernel
theorem dX8_untilTold_72 : decode cX8_untilTold 72 = .ok (.iadd, 1) := by decide +kernel
theorem dX8_untilTold_73 : decode cX8_untilTold 73 = .ok (.ireturn, 1) := by decide +kernel
theorem dX9_init_0 : decode cX9_init 0 = .ok (.aload_n 0, 1) := by decide +kernel
theorem dX9_init_1 : decode cX9_init 1 = .ok (.invokespecial 3, 3) := by decide +kernel
theorem dX9_init_4 : decode cX9_init 4 = .ok (.aload_n 0, 1) := by decide +kernel
theorem dX9_init_5 : decode cX9_init 5 = .ok (.iconst 0, 1) := by decide +kernel
theorem dX9_init_6 : decode cX9_init 6 = .ok (.putfield 9, 3) := by decide +kernel
theorem dX9_init_9 : decode cX9_init 9 = .ok (.aload_n 0, 1) := by decide +kernel
theorem dX9_init_10 : decode cX9_init 10 = .ok (.iconst 0, 1) := by decide +kernel
theorem dX9_init_11 : decode cX9_init 11 = .ok (.putfield 15, 3) := by decide +kernel
theorem dX9_init_14 : decode cX9_init 14 = .ok (.aload_n 0, 1) := by decide +kernel
theorem dX9_init_15 : decode cX9_init 15 = .ok (.iconst 0, 1) := by decide +kernel
theorem dX9_init_16 : decode cX9_init 16 = .ok (.putfield 18, 3) := by decide +kernel
theorem dX9_init_19 : decode cX9_init 19 = .ok (.aload_n 0, 1) := by decide +kernel
theorem dX9_init_20 : decode cX9_init 20 = .ok (.iconst 0, 1) := by decide +kernel
theorem dX9_init_21 : decode cX9_init 21 = .ok (.putfield 21, 3) := by decide +kernel
theorem dX9_init_24 : decode cX9_init 24 = .ok (.aload_n 0, 1) := by decide +kernel
theorem dX9_init_25 : decode cX9_init 25 = .ok (.iconst 0, 1) := by decide +kernel
theorem dX9_init_26 : decode cX9_init 26 = .ok (.putfield 24, 3) := by decide +kernel
theorem dX9_init_29 : decode cX9_init 29 = .ok (.aload_n 0, 1) := by decide +kernel
theorem dX9_init_30 : decode cX9_init 30 = .ok (.aload_n 1, 1) := by decide +kernel
theorem dX9_init_31 : decode cX9_init 31 = .ok (.putfield 27, 3) := by decide +kernel
theorem dX9_init_34 : decode cX9_init 34 = .ok (.aload_n 0, 1) := by decide +kernel
theorem dX9_init_35 : decode cX9_init 35 = .ok (.aload_n 2, 1) := by decide +kernel
theorem dX9_init_36 : decode cX9_init 36 = .ok (.putfield 31, 3) := by decide +kernel
theorem dX9_init_39 : decode cX9_init 39 = .ok (.return_, 1) := by decide +kernel
theorem dX9_place_0 : decode cX9_place 0 = .ok (.aload_n 0, 1) := by decide +kernel
theorem dX9_place_1 : decode cX9_place 1 = .ok (.getfield 15, 3) := by decide +kernel
theorem dX9_place_4 : decode cX9_place 4 = .ok (.ireturn, 1) := by decide +kernel
theorem dX9_read_0 : decode cX9_read 0 = .ok (.aload_n 0, 1) := by decide +kernel
theorem dX9_read_1 : decode cX9_read 1 = .ok (.iload_n 1, 1) := by decide +kernel
theorem dX9_read_2 : decode cX9_read 2 = .ok (.putfield 9, 3) := by decide +kernel
theorem dX9_read_5 : decode cX9_read 5 = .ok (.aload_n 0, 1) := by decide +kernel
theorem dX9_read_6 : decode cX9_read 6 = .ok (.iconst 0, 1) := by decide +kernel
theorem dX9_read_7 : decode cX9_read 7 = .ok (.putfield 18, 3) := by decide +kernel
theorem dX9_read_10 : decode cX9_read 10 = .ok (.aload_n 0, 1) := by decide +kernel
theorem dX9_read_11 : decode cX9_read 11 = .ok (.getfield 31, 3) := by decide +kernel
theorem dX9_read_14 : decode cX9_read 14 = .ok (.invokevirtual 35, 3) := by decide +kernel
theorem dX9_read_17 : decode cX9_read 17 = .ok (.aload_n 0, 1) := by decide +kernel
theorem dX9_read_18 : decode cX9_read 18 = .ok (.invokevirtual 40, 3) := by decide +kernel
theorem dX9_read_21 : decode cX9_read 21 = .ok (.iconst 0, 1) := by decide +kernel
theorem dX9_read_22 : decode cX9_read 22 = .ok (.istore_n 2, 1) := by decide +kernel
theorem dX9_read_23 : decode cX9_read 23 = .ok (.iload_n 2, 1) := by decide +kernel
theorem dX9_read_24 : decode cX9_read 24 = .ok (.aload_n 0, 1) := by decide +kernel
theorem dX9_read_25 : decode cX9_read 25 = .ok (.getfield 9, 3) := by decide +kernel
theorem dX9_read_28 : decode cX9_read 28 = .ok (.if_icmp .gt 81, 3) := by decide +kernel
theorem dX9_read_31 : decode cX9_read 31 = .ok (.aload_n 0, 1) := by decide +kernel
theorem dX9_read_32 : decode cX9_read 32 = .ok (.getfield 21, 3) := by decide +kernel
theorem dX9_read_35 : decode cX9_read 35 = .ok (.ifCond .eq 74, 3) := by decide +kernel
theorem dX9_read_38 : decode cX9_read 38 = .ok (.iconst 1, 1) := by decide +kernel
theorem dX9_read_39 : decode cX9_read 39 = .ok (.istore_n 3, 1) := by decide +kernel
theorem dX9_read_40 : decode cX9_read 40 = .ok (.aload_n 0, 1) := by decide +kernel
theorem dX9_read_41 : decode cX9_read 41 = .ok (.getfield 21, 3) := by decide +kernel
theorem dX9_read_44 : decode cX9_read 44 = .ok (.iconst 4, 1) := by decide +kernel
theorem dX9_read_45 : decode cX9_read 45 = .ok (.if_icmp .ne 35, 3) := by decide +kernel
theorem dX9_read_48 : decode cX9_read 48 = .ok (.aload_n 0, 1) := by decide +kernel
theorem dX9_read_49 : decode cX9_read 49 = .ok (.invokevirtual 43, 3) := by decide +kernel
theorem dX9_read_52 : decode cX9_read 52 = .ok (.istore_n 3, 1) := by decide +kernel
theorem dX9_read_53 : decode cX9_read 53 = .ok (.iload_n 3, 1) := by decide +kernel
theorem dX9_read_54 : decode cX9_read 54 = .ok (.ifCond .ne 21, 3) := by decide +kernel
theorem dX9_read_57 : decode cX9_read 57 = .ok (.aload_n 0, 1) := by decide +kernel
theorem dX9_read_58 : decode cX9_read 58 = .ok (.aload_n 0, 1) := by decide +kernel
theorem dX9_read_59 : decode cX9_read 59 = .ok (.getfield 31, 3) := by decide +kernel
theorem dX9_read_62 : decode cX9_read 62 = .ok (.getfield 47, 3) := by decide +kernel
theorem dX9_read_65 : decode cX9_read 65 = .ok (.iconst 1, 1) := by decide +kernel
theorem dX9_read_66 : decode cX9_read 66 = .ok (.isub, 1) := by decide +kernel
theorem dX9_read_67 : decode cX9_read 67 = .ok (.iconst 3, 1) := by decide +kernel
theorem dX9_read_68 : decode cX9_read 68 = .ok (.imul, 1) := by decide +kernel
theorem dX9_read_69 : decode cX9_read 69 = .ok (.invokevirtual 50, 3) := by decide +kernel
theorem dX9_read_72 : decode cX9_read 72 = .ok (.goto 4, 3) := by decide +kernel
theorem dX9_read_75 : decode cX9_read 75 = .ok (.iload_n 3, 1) := by decide +kernel
theorem dX9_read_76 : decode cX9_read 76 = .ok (.istore_n 3, 1) := by decide +kernel
theorem dX9_read_77 : decode cX9_read 77 = .ok (.goto 16, 3) := by decide +kernel
theorem dX9_read_80 : decode cX9_read 80 = .ok (.aload_n 0, 1) := by decide +kernel
theorem dX9_read_81 : decode cX9_read 81 = .ok (.getfield 21, 3) := by decide +kernel
theorem dX9_read_84 : decode cX9_read 84 = .ok (.iconst 5, 1) := by decide +kernel
theorem dX9_read_85 : decode cX9_read 85 = .ok (.if_icmp .ne 8, 3) := by decide +kernel
theorem dX9_read_88 : decode cX9_read 88 = .ok (.aload_n 0, 1) := by decide +kernel
theorem dX9_read_89 : decode cX9_read 89 = .ok (.invokevirtual 54, 3) := by decide +kernel
theorem dX9_read_92 : decode cX9_read 92 = .ok (.istore_n 3, 1) := by decide +kernel
theorem dX9_read_93 : decode cX9_read 93 = .ok (.iload_n 3, 1) := by decide +kernel
theorem dX9_read_94 : decode cX9_read 94 = .ok (.ifCond .eq 5, 3) := by decide +kernel
theorem dX9_read_97 : decode cX9_read 97 = .ok (.iload_n 3, 1) := by decide +kernel
theorem dX9_read_98 : decode cX9_read 98 = .ok (.ireturn, 1) := by decide +kernel
theorem dX9_read_99 : decode cX9_read 99 = .ok (.aload_n 0, 1) := by decide +kernel
theorem dX9_read_100 : decode cX9_read 100 = .ok (.invokevirtual 40, 3) := by decide +kernel
theorem dX9_read_103 : decode cX9_read 103 = .ok (.iinc 2 1, 3) := by decide +kernel
theorem dX9_read_106 : decode cX9_read 106 = .ok (.goto (-83), 3) := by decide +kernel
theorem dX9_read_109 : decode cX9_read 109 = .ok (.iconst 0, 1) := by decide +kernel
theorem dX9_read_110 : decode cX9_read 110 = .ok (.ireturn, 1) := by decide +kernel
theorem dX9_readClass_0 : decode cX9_readClass 0 = .ok (.aload_n 0, 1) := by decide +kernel
theorem dX9_readClass_1 : decode cX9_readClass 1 = .ok (.getfield 31, 3) := by decide +kernel
theorem dX9_readClass_4 : decode cX9_readClass 4 = .ok (.getfield 47, 3) := by decide +kernel
theorem dX9_readClass_7 : decode cX9_readClass 7 = .ok (.bipush 12, 2) := by decide +kernel
theorem dX9_readClass_9 : decode cX9_readClass 9 = .ok (.if_icmp .lt 5, 3) := by decide +kernel
theorem dX9_readClass_12 : decode cX9_readClass 12 = .ok (.iconst 2, 1) := by decide +kernel
theorem dX9_readClass_13 : decode cX9_readClass 13 = .ok (.ireturn, 1) := by decide +kernel
theorem dX9_readClass_14 : decode cX9_readClass 14 = .ok (.bipush 12, 2) := by decide +kernel
theorem dX9_readClass_16 : decode cX9_readClass 16 = .ok (.istore_n 1, 1) := by decide +kernel
theorem dX9_readClass_17 : decode cX9_readClass 17 = .ok (.aload_n 0, 1) := by decide +kernel
theorem dX9_readClass_18 : decode cX9_readClass 18 = .ok (.invokevirtual 40, 3) := by decide +kernel
theorem dX9_readClass_21 : decode cX9_readClass 21 = .ok (.aload_n 0, 1) := by decide +kernel
theorem dX9_readClass_22 : decode cX9_readClass 22 = .ok (.getfield 21, 3) := by decide +kernel
theorem dX9_readClass_25 : decode cX9_readClass 25 = .ok (.bipush 6, 2) := by decide +kernel
theorem dX9_readClass_27 : decode cX9_readClass 27 = .ok (.if_icmp .ne 42, 3) := by decide +kernel
theorem dX9_readClass_30 : decode cX9_readClass 30 = .ok (.aload_n 0, 1) := by decide +kernel
theorem dX9_readClass_31 : decode cX9_readClass 31 = .ok (.iconst 0, 1) := by decide +kernel
theorem dX9_readClass_32 : decode cX9_readClass 32 = .ok (.bipush 11, 2) := by decide +kernel
theorem dX9_readClass_34 : decode cX9_readClass 34 = .ok (.invokevirtual 57, 3) := by decide +kernel
theorem dX9_readClass_37 : decode cX9_readClass 37 = .ok (.istore_n 2, 1) := by decide +kernel
theorem dX9_readClass_38 : decode cX9_readClass 38 = .ok (.iload_n 2, 1) := by decide +kernel
theorem dX9_readClass_39 : decode cX9_readClass 39 = .ok (.ifCond .eq 5, 3) := by decide +kernel
theorem dX9_readClass_42 : decode cX9_readClass 42 = .ok (.iload_n 2, 1) := by decide +kernel
theorem dX9_readClass_43 : decode cX9_readClass 43 = .ok (.ireturn, 1) := by decide +kernel
theorem dX9_readClass_44 : decode cX9_readClass 44 = .ok (.aload_n 0, 1) := by decide +kernel
theorem dX9_readClass_45 : decode cX9_readClass 45 = .ok (.getfield 31, 3) := by decide +kernel
theorem dX9_readClass_48 : decode cX9_readClass 48 = .ok (.aload_n 0, 1) := by decide +kernel
theorem dX9_readClass_49 : decode cX9_readClass 49 = .ok (.getfield 24, 3) := by decide +kernel
theorem dX9_readClass_52 : decode cX9_readClass 52 = .ok (.invokevirtual 61, 3) := by decide +kernel
theorem dX9_readClass_55 : decode cX9_readClass 55 = .ok (.ifCond .ne 5, 3) := by decide +kernel
theorem dX9_readClass_58 : decode cX9_readClass 58 = .ok (.iconst 3, 1) := by decide +kernel
theorem dX9_readClass_59 : decode cX9_readClass 59 = .ok (.ireturn, 1) := by decide +kernel
theorem dX9_readClass_60 : decode cX9_readClass 60 = .ok (.aload_n 0, 1) := by decide +kernel
theorem dX9_readClass_61 : decode cX9_readClass 61 = .ok (.getfield 24, 3) := by decide +kernel
theorem dX9_readClass_64 : decode cX9_readClass 64 = .ok (.istore_n 1, 1) := by decide +kernel
theorem dX9_readClass_65 : decode cX9_readClass 65 = .ok (.aload_n 0, 1) := by decide +kernel
theorem dX9_readClass_66 : decode cX9_readClass 66 = .ok (.invokevirtual 40, 3) := by decide +kernel
theorem dX9_readClass_69 : decode cX9_readClass 69 = .ok (.aload_n 0, 1) := by decide +kernel
theorem dX9_readClass_70 : decode cX9_readClass 70 = .ok (.getfield 31, 3) := by decide +kernel
theorem dX9_readClass_73 : decode cX9_readClass 73 = .ok (.iload_n 1, 1) := by decide +kernel
theorem dX9_readClass_74 : decode cX9_readClass 74 = .ok (.invokevirtual 65, 3) := by decide +kernel
theorem dX9_readClass_77 : decode cX9_readClass 77 = .ok (.iconst 0, 1) := by decide +kernel
theorem dX9_readClass_78 : decode cX9_readClass 78 = .ok (.ireturn, 1) := by decide +kernel
theorem dX9_readCurves_0 : decode cX9_readCurves 0 = .ok (.iconst 0, 1) := by decide +kernel
theorem dX9_readCurves_1 : decode cX9_readCurves 1 = .ok (.istore_n 2, 1) := by decide +kernel
theorem dX9_readCurves_2 : decode cX9_readCurves 2 = .ok (.iconst 0, 1) := by decide +kernel
theorem dX9_readCurves_3 : decode cX9_readCurves 3 = .ok (.istore_n 3, 1) := by decide +kernel
theorem dX9_readCurves_4 : decode cX9_readCurves 4 = .ok (.iload_n 3, 1) := by decide +kernel
theorem dX9_readCurves_5 : decode cX9_readCurves 5 = .ok (.iconst 3, 1) := by decide +kernel
theorem dX9_readCurves_6 : decode cX9_readCurves 6 = .ok (.if_icmp .gt 73, 3) := by decide +kernel
theorem dX9_readCurves_9 : decode cX9_readCurves 9 = .ok (.aload_n 0, 1) := by decide +kernel
theorem dX9_readCurves_10 : decode cX9_readCurves 10 = .ok (.getfield 21, 3) := by decide +kernel
theorem dX9_readCurves_13 : decode cX9_readCurves 13 = .ok (.iconst 3, 1) := by decide +kernel
theorem dX9_readCurves_14 : decode cX9_readCurves 14 = .ok (.if_icmp .eq 65, 3) := by decide +kernel
theorem dX9_readCurves_17 : decode cX9_readCurves 17 = .ok (.aload_n 0, 1) := by decide +kernel
theorem dX9_readCurves_18 : decode cX9_readCurves 18 = .ok (.getfield 21, 3) := by decide +kernel
theorem dX9_readCurves_21 : decode cX9_readCurves 21 = .ok (.bipush 7, 2) := by decide +kernel
theorem dX9_readCurves_23 : decode cX9_readCurves 23 = .ok (.isub, 1) := by decide +kernel
theorem dX9_readCurves_24 : decode cX9_readCurves 24 = .ok (.istore 4, 2) := by decide +kernel
theorem dX9_readCurves_26 : decode cX9_readCurves 26 = .ok (.iload 4, 2) := by decide +kernel
theorem dX9_readCurves_28 : decode cX9_readCurves 28 = .ok (.ifCond .ge 5, 3) := by decide +kernel
theorem dX9_readCurves_31 : decode cX9_readCurves 31 = .ok (.iconst 1, 1) := by decide +kernel
theorem dX9_readCurves_32 : decode cX9_readCurves 32 = .ok (.ireturn, 1) := by decide +kernel
theorem dX9_readCurves_33 : decode cX9_readCurves 33 = .ok (.iload_n 2, 1) := by decide +kernel
theorem dX9_readCurves_34 : decode cX9_readCurves 34 = .ok (.iload 4, 2) := by decide +kernel
theorem dX9_readCurves_36 : decode cX9_readCurves 36 = .ok (.ishr, 1) := by decide +kernel
theorem dX9_readCurves_37 : decode cX9_readCurves 37 = .ok (.iconst 1, 1) := by decide +kernel
theorem dX9_readCurves_38 : decode cX9_readCurves 38 = .ok (.iand, 1) := by decide +kernel
theorem dX9_readCurves_39 : decode cX9_readCurves 39 = .ok (.ifCond .eq 5, 3) := by decide +kernel
theorem dX9_readCurves_42 : decode cX9_readCurves 42 = .ok (.iconst 5, 1) := by decide +kernel
theorem dX9_readCurves_43 : decode cX9_readCurves 43 = .ok (.ireturn, 1) := by decide +kernel
theorem dX9_readCurves_44 : decode cX9_readCurves 44 = .ok (.iload_n 2, 1) := by decide +kernel
theorem dX9_readCurves_45 : decode cX9_readCurves 45 = .ok (.iconst 1, 1) := by decide +kernel
theorem dX9_readCurves_46 : decode cX9_readCurves 46 = .ok (.iload 4, 2) := by decide +kernel
theorem dX9_readCurves_48 : decode cX9_readCurves 48 = .ok (.ishl, 1) := by decide +kernel
theorem dX9_readCurves_49 : decode cX9_readCurves 49 = .ok (.ior, 1) := by decide +kernel
theorem dX9_readCurves_50 : decode cX9_readCurves 50 = .ok (.istore_n 2, 1) := by decide +kernel
theorem dX9_readCurves_51 : decode cX9_readCurves 51 = .ok (.aload_n 0, 1) := by decide +kernel
theorem dX9_readCurves_52 : decode cX9_readCurves 52 = .ok (.iload_n 1, 1) := by decide +kernel
theorem dX9_readCurves_53 : decode cX9_readCurves 53 = .ok (.iload 4, 2) := by decide +kernel
theorem dX9_readCurves_55 : decode cX9_readCurves 55 = .ok (.iadd, 1) := by decide +kernel
theorem dX9_readCurves_56 : decode cX9_readCurves 56 = .ok (.invokevirtual 69, 3) := by decide +kernel
theorem dX9_readCurves_59 : decode cX9_readCurves 59 = .ok (.istore 5, 2) := by decide +kernel
theorem dX9_readCurves_61 : decode cX9_readCurves 61 = .ok (.iload 5, 2) := by decide +kernel
theorem dX9_readCurves_63 : decode cX9_readCurves 63 = .ok (.ifCond .eq 6, 3) := by decide +kernel
theorem dX9_readCurves_66 : decode cX9_readCurves 66 = .ok (.iload 5, 2) := by decide +kernel
theorem dX9_readCurves_68 : decode cX9_readCurves 68 = .ok (.ireturn, 1) := by decide +kernel
theorem dX9_readCurves_69 : decode cX9_readCurves 69 = .ok (.aload_n 0, 1) := by decide +kernel
theorem dX9_readCurves_70 : decode cX9_readCurves 70 = .ok (.invokevirtual 40, 3) := by decide +kernel
theorem dX9_readCurves_73 : decode cX9_readCurves 73 = .ok (.iinc 3 1, 3) := by decide +kernel
theorem dX9_readCurves_76 : decode cX9_readCurves 76 = .ok (.goto (-72), 3) := by decide +kernel
theorem dX9_readCurves_79 : decode cX9_readCurves 79 = .ok (.iconst 0, 1) := by decide +kernel
theorem dX9_readCurves_80 : decode cX9_readCurves 80 = .ok (.ireturn, 1) := by decide +kernel
theorem dX9_readCurve_0 : decode cX9_readCurve 0 = .ok (.aload_n 0, 1) := by decide +kernel
theorem dX9_readCurve_1 : decode cX9_readCurve 1 = .ok (.iconst 0, 1) := by decide +kernel
theorem dX9_readCurve_2 : decode cX9_readCurve 2 = .ok (.bipush 100, 2) := by decide +kernel
theorem dX9_readCurve_4 : decode cX9_readCurve 4 = .ok (.invokevirtual 57, 3) := by decide +kernel
theorem dX9_readCurve_7 : decode cX9_readCurve 7 = .ok (.istore_n 2, 1) := by decide +kernel
theorem dX9_readCurve_8 : decode cX9_readCurve 8 = .ok (.aload_n 0, 1) := by decide +kernel
theorem dX9_readCurve_9 : decode cX9_readCurve 9 = .ok (.getfield 24, 3) := by decide +kernel
theorem dX9_readCurve_12 : decode cX9_readCurve 12 = .ok (.istore_n 3, 1) := by decide +kernel
theorem dX9_readCurve_13 : decode cX9_readCurve 13 = .ok (.iload_n 2, 1) := by decide +kernel
theorem dX9_readCurve_14 : decode cX9_readCurve 14 = .ok (.ifCond .ne 11, 3) := by decide +kernel
theorem dX9_readCurve_17 : decode cX9_readCurve 17 = .ok (.aload_n 0, 1) := by decide +kernel
theorem dX9_readCurve_18 : decode cX9_readCurve 18 = .ok (.iconst 0, 1) := by decide +kernel
theorem dX9_readCurve_19 : decode cX9_readCurve 19 = .ok (.bipush 30, 2) := by decide +kernel
theorem dX9_readCurve_21 : decode cX9_readCurve 21 = .ok (.invokevirtual 57, 3) := by decide +kernel
theorem dX9_readCurve_24 : decode cX9_readCurve 24 = .ok (.istore_n 2, 1) := by decide +kernel
theorem dX9_readCurve_25 : decode cX9_readCurve 25 = .ok (.aload_n 0, 1) := by decide +kernel
theorem dX9_readCurve_26 : decode cX9_readCurve 26 = .ok (.getfield 24, 3) := by decide +kernel
theorem dX9_readCurve_29 : decode cX9_readCurve 29 = .ok (.istore 4, 2) := by decide +kernel
theorem dX9_readCurve_31 : decode cX9_readCurve 31 = .ok (.iload_n 2, 1) := by decide +kernel
theorem dX9_readCurve_32 : decode cX9_readCurve 32 = .ok (.ifCond .ne 11, 3) := by decide +kernel
theorem dX9_readCurve_35 : decode cX9_readCurve 35 = .ok (.aload_n 0, 1) := by decide +kernel
theorem dX9_readCurve_36 : decode cX9_readCurve 36 = .ok (.iconst 1, 1) := by decide +kernel
theorem dX9_readCurve_37 : decode cX9_readCurve 37 = .ok (.bipush 100, 2) := by decide +kernel
theorem dX9_readCurve_39 : decode cX9_readCurve 39 = .ok (.invokevirtual 57, 3) := by decide +kernel
theorem dX9_readCurve_42 : decode cX9_readCurve 42 = .ok (.istore_n 2, 1) := by decide +kernel
theorem dX9_readCurve_43 : decode cX9_readCurve 43 = .ok (.iload_n 2, 1) := by decide +kernel
theorem dX9_readCurve_44 : decode cX9_readCurve 44 = .ok (.ifCond .ne 21, 3) := by decide +kernel
theorem dX9_readCurve_47 : decode cX9_readCurve 47 = .ok (.aload_n 0, 1) := by decide +kernel
theorem dX9_readCurve_48 : decode cX9_readCurve 48 = .ok (.getfield 31, 3) := by decide +kernel
theorem dX9_readCurve_51 : decode cX9_readCurve 51 = .ok (.getfield 74, 3) := by decide +kernel
theorem dX9_readCurve_54 : decode cX9_readCurve 54 = .ok (.iload_n 1, 1) := by decide +kernel
theorem dX9_readCurve_55 : decode cX9_readCurve 55 = .ok (.iload_n 3, 1) := by decide +kernel
theorem dX9_readCurve_56 : decode cX9_readCurve 56 = .ok (.iload 4, 2) := by decide +kernel
theorem dX9_readCurve_58 : decode cX9_readCurve 58 = .ok (.aload_n 0, 1) := by decide +kernel
theorem dX9_readCurve_59 : decode cX9_readCurve 59 = .ok (.getfield 24, 3) := by decide +kernel
theorem dX9_readCurve_62 : decode cX9_readCurve 62 = .ok (.invokevirtual 78, 3) := by decide +kernel
theorem dX9_readCurve_65 : decode cX9_readCurve 65 = .ok (.iload_n 2, 1) := by decide +kernel
theorem dX9_readCurve_66 : decode cX9_readCurve 66 = .ok (.ireturn, 1) := by decide +kernel
theorem dX9_readFlow_0 : decode cX9_readFlow 0 = .ok (.aload_n 0, 1) := by decide +kernel
theorem dX9_readFlow_1 : decode cX9_readFlow 1 = .ok (.getfield 31, 3) := by decide +kernel
theorem dX9_readFlow_4 : decode cX9_readFlow 4 = .ok (.getfield 82, 3) := by decide +kernel
theorem dX9_readFlow_7 : decode cX9_readFlow 7 = .ok (.bipush 8, 2) := by decide +kernel
theorem dX9_readFlow_9 : decode cX9_readFlow 9 = .ok (.if_icmp .lt 5, 3) := by decide +kernel
theorem dX9_readFlow_12 : decode cX9_readFlow 12 = .ok (.iconst 2, 1) := by decide +kernel
theorem dX9_readFlow_13 : decode cX9_readFlow 13 = .ok (.ireturn, 1) := by decide +kernel
theorem dX9_readFlow_14 : decode cX9_readFlow 14 = .ok (.aload_n 0, 1) := by decide +kernel
theorem dX9_readFlow_15 : decode cX9_readFlow 15 = .ok (.iconst 0, 1) := by decide +kernel
theorem dX9_readFlow_16 : decode cX9_readFlow 16 = .ok (.bipush 11, 2) := by decide +kernel
theorem dX9_readFlow_18 : decode cX9_readFlow 18 = .ok (.invokevirtual 57, 3) := by decide +kernel
theorem dX9_readFlow_21 : decode cX9_readFlow 21 = .ok (.istore_n 1, 1) := by decide +kernel
theorem dX9_readFlow_22 : decode cX9_readFlow 22 = .ok (.aload_n 0, 1) := by decide +kernel
theorem dX9_readFlow_23 : decode cX9_readFlow 23 = .ok (.getfield 24, 3) := by decide +kernel
theorem dX9_readFlow_26 : decode cX9_readFlow 26 = .ok (.istore_n 2, 1) := by decide +kernel
theorem dX9_readFlow_27 : decode cX9_readFlow 27 = .ok (.iload_n 1, 1) := by decide +kernel
theorem dX9_readFlow_28 : decode cX9_readFlow 28 = .ok (.ifCond .ne 16, 3) := by decide +kernel
theorem dX9_readFlow_31 : decode cX9_readFlow 31 = .ok (.aload_n 0, 1) := by decide +kernel
theorem dX9_readFlow_32 : decode cX9_readFlow 32 = .ok (.getfield 31, 3) := by decide +kernel
theorem dX9_readFlow_35 : decode cX9_readFlow 35 = .ok (.iload_n 2, 1) := by decide +kernel
theorem dX9_readFlow_36 : decode cX9_readFlow 36 = .ok (.invokevirtual 85, 3) := by decide +kernel
theorem dX9_readFlow_39 : decode cX9_readFlow 39 = .ok (.ifCond .ne 5, 3) := by decide +kernel
theorem dX9_readFlow_42 : decode cX9_readFlow 42 = .ok (.iconst 3, 1) := by decide +kernel
theorem dX9_readFlow_43 : decode cX9_readFlow 43 = .ok (.istore_n 1, 1) := by decide +kernel
theorem dX9_readFlow_44 : decode cX9_readFlow 44 = .ok (.iload_n 1, 1) := by decide +kernel
theorem dX9_readFlow_45 : decode cX9_readFlow 45 = .ok (.ifCond .ne 12, 3) := by decide +kernel
theorem dX9_readFlow_48 : decode cX9_readFlow 48 = .ok (.aload_n 0, 1) := by decide +kernel
theorem dX9_readFlow_49 : decode cX9_readFlow 49 = .ok (.iconst 1, 1) := by decide +kernel
theorem dX9_readFlow_50 : decode cX9_readFlow 50 = .ok (.sipush 200, 3) := by decide +kernel
theorem dX9_readFlow_53 : decode cX9_readFlow 53 = .ok (.invokevirtual 57, 3) := by decide +kernel
theorem dX9_readFlow_56 : decode cX9_readFlow 56 = .ok (.istore_n 1, 1) := by decide +kernel
theorem dX9_readFlow_57 : decode cX9_readFlow 57 = .ok (.aload_n 0, 1) := by decide +kernel
theorem dX9_readFlow_58 : decode cX9_readFlow 58 = .ok (.getfield 24, 3) := by decide +kernel
theorem dX9_readFlow_61 : decode cX9_readFlow 61 = .ok (.istore_n 3, 1) := by decide +kernel
theorem dX9_readFlow_62 : decode cX9_readFlow 62 = .ok (.iload_n 1, 1) := by decide +kernel
theorem dX9_readFlow_63 : decode cX9_readFlow 63 = .ok (.ifCond .ne 12, 3) := by decide +kernel
theorem dX9_readFlow_66 : decode cX9_readFlow 66 = .ok (.aload_n 0, 1) := by decide +kernel
theorem dX9_readFlow_67 : decode cX9_readFlow 67 = .ok (.iconst 0, 1) := by decide +kernel
theorem dX9_readFlow_68 : decode cX9_readFlow 68 = .ok (.sipush 199, 3) := by decide +kernel
theorem dX9_readFlow_71 : decode cX9_readFlow 71 = .ok (.invokevirtual 57, 3) := by decide +kernel
theorem dX9_readFlow_74 : decode cX9_readFlow 74 = .ok (.istore_n 1, 1) := by decide +kernel
theorem dX9_readFlow_75 : decode cX9_readFlow 75 = .ok (.aload_n 0, 1) := by decide +kernel
theorem dX9_readFlow_76 : decode cX9_readFlow 76 = .ok (.getfield 24, 3) := by decide +kernel
theorem dX9_readFlow_79 : decode cX9_readFlow 79 = .ok (.istore 4, 2) := by decide +kernel
theorem dX9_readFlow_81 : decode cX9_readFlow 81 = .ok (.iload_n 1, 1) := by decide +kernel
theorem dX9_readFlow_82 : decode cX9_readFlow 82 = .ok (.ifCond .ne 11, 3) := by decide +kernel
theorem dX9_readFlow_85 : decode cX9_readFlow 85 = .ok (.aload_n 0, 1) := by decide +kernel
theorem dX9_readFlow_86 : decode cX9_readFlow 86 = .ok (.iconst 1, 1) := by decide +kernel
theorem dX9_readFlow_87 : decode cX9_readFlow 87 = .ok (.bipush 64, 2) := by decide +kernel
theorem dX9_readFlow_89 : decode cX9_readFlow 89 = .ok (.invokevirtual 57, 3) := by decide +kernel
theorem dX9_readFlow_92 : decode cX9_readFlow 92 = .ok (.istore_n 1, 1) := by decide +kernel
theorem dX9_readFlow_93 : decode cX9_readFlow 93 = .ok (.iload_n 1, 1) := by decide +kernel
theorem dX9_readFlow_94 : decode cX9_readFlow 94 = .ok (.ifCond .eq 5, 3) := by decide +kernel
theorem dX9_readFlow_97 : decode cX9_readFlow 97 = .ok (.iload_n 1, 1) := by decide +kernel
theorem dX9_readFlow_98 : decode cX9_readFlow 98 = .ok (.ireturn, 1) := by decide +kernel
theorem dX9_readFlow_99 : decode cX9_readFlow 99 = .ok (.aload_n 0, 1) := by decide +kernel
theorem dX9_readFlow_100 : decode cX9_readFlow 100 = .ok (.getfield 31, 3) := by decide +kernel
theorem dX9_readFlow_103 : decode cX9_readFlow 103 = .ok (.iload_n 2, 1) := by decide +kernel
theorem dX9_readFlow_104 : decode cX9_readFlow 104 = .ok (.iload_n 3, 1) := by decide +kernel
theorem dX9_readFlow_105 : decode cX9_readFlow 105 = .ok (.iload 4, 2) := by decide +kernel
theorem dX9_readFlow_107 : decode cX9_readFlow 107 = .ok (.aload_n 0, 1) := by decide +kernel
theorem dX9_readFlow_108 : decode cX9_readFlow 108 = .ok (.getfield 24, 3) := by decide +kernel
theorem dX9_readFlow_111 : decode cX9_readFlow 111 = .ok (.invokevirtual 88, 3) := by decide +kernel
theorem dX9_readFlow_114 : decode cX9_readFlow 114 = .ok (.aload_n 0, 1) := by decide +kernel
theorem dX9_readFlow_115 : decode cX9_readFlow 115 = .ok (.invokevirtual 40, 3) := by decide +kernel
theorem dX9_readFlow_118 : decode cX9_readFlow 118 = .ok (.aload_n 0, 1) := by decide +kernel
theorem dX9_readFlow_119 : decode cX9_readFlow 119 = .ok (.getfield 21, 3) := by decide +kernel
theorem dX9_readFlow_122 : decode cX9_readFlow 122 = .ok (.iconst 3, 1) := by decide +kernel
theorem dX9_readFlow_123 : decode cX9_readFlow 123 = .ok (.if_icmp .ne 7, 3) := by decide +kernel
theorem dX9_readFlow_126 : decode cX9_readFlow 126 = .ok (.iconst 0, 1) := by decide +kernel
theorem dX9_readFlow_127 : decode cX9_readFlow 127 = .ok (.goto 4, 3) := by decide +kernel
theorem dX9_readFlow_130 : decode cX9_readFlow 130 = .ok (.iconst 1, 1) := by decide +kernel
theorem dX9_readFlow_131 : decode cX9_readFlow 131 = .ok (.ireturn, 1) := by decide +kernel
theorem dX9_readNumber_0 : decode cX9_readNumber 0 = .ok (.aload_n 0, 1) := by decide +kernel
theorem dX9_readNumber_1 : decode cX9_readNumber 1 = .ok (.invokevirtual 40, 3) := by decide +kernel
theorem dX9_readNumber_4 : decode cX9_readNumber 4 = .ok (.aload_n 0, 1) := by decide +kernel
theorem dX9_readNumber_5 : decode cX9_readNumber 5 = .ok (.getfield 21, 3) := by decide +kernel
theorem dX9_readNumber_8 : decode cX9_readNumber 8 = .ok (.iconst 2, 1) := by decide +kernel
theorem dX9_readNumber_9 : decode cX9_readNumber 9 = .ok (.if_icmp .eq 5, 3) := by decide +kernel
theorem dX9_readNumber_12 : decode cX9_readNumber 12 = .ok (.iconst 1, 1) := by decide +kernel
theorem dX9_readNumber_13 : decode cX9_readNumber 13 = .ok (.ireturn, 1) := by decide +kernel
theorem dX9_readNumber_14 : decode cX9_readNumber 14 = .ok (.aload_n 0, 1) := by decide +kernel
theorem dX9_readNumber_15 : decode cX9_readNumber 15 = .ok (.getfield 24, 3) := by decide +kernel
theorem dX9_readNumber_18 : decode cX9_readNumber 18 = .ok (.iload_n 1, 1) := by decide +kernel
theorem dX9_readNumber_19 : decode cX9_readNumber 19 = .ok (.if_icmp .lt 11, 3) := by decide +kernel
theorem dX9_readNumber_22 : decode cX9_readNumber 22 = .ok (.aload_n 0, 1) := by decide +kernel
theorem dX9_readNumber_23 : decode cX9_readNumber 23 = .ok (.getfield 24, 3) := by decide +kernel
theorem dX9_readNumber_26 : decode cX9_readNumber 26 = .ok (.iload_n 2, 1) := by decide +kernel
theorem dX9_readNumber_27 : decode cX9_readNumber 27 = .ok (.if_icmp .le 7, 3) := by decide +kernel
theorem dX9_readNumber_30 : decode cX9_readNumber 30 = .ok (.iconst 2, 1) := by decide +kernel
theorem dX9_readNumber_31 : decode cX9_readNumber 31 = .ok (.goto 4, 3) := by decide +kernel
theorem dX9_readNumber_34 : decode cX9_readNumber 34 = .ok (.iconst 0, 1) := by decide +kernel
theorem dX9_readNumber_35 : decode cX9_readNumber 35 = .ok (.ireturn, 1) := by decide +kernel
theorem dX9_takeToken_0 : decode cX9_takeToken 0 = .ok (.aload_n 0, 1) := by decide +kernel
theorem dX9_takeToken_1 : decode cX9_takeToken 1 = .ok (.aload_n 0, 1) := by decide +kernel
theorem dX9_takeToken_2 : decode cX9_takeToken 2 = .ok (.getfield 18, 3) := by decide +kernel
theorem dX9_takeToken_5 : decode cX9_takeToken 5 = .ok (.putfield 15, 3) := by decide +kernel
theorem dX9_takeToken_8 : decode cX9_takeToken 8 = .ok (.aload_n 0, 1) := by decide +kernel
theorem dX9_takeToken_9 : decode cX9_takeToken 9 = .ok (.getfield 15, 3) := by decide +kernel
theorem dX9_takeToken_12 : decode cX9_takeToken 12 = .ok (.aload_n 0, 1) := by decide +kernel
theorem dX9_takeToken_13 : decode cX9_takeToken 13 = .ok (.getfield 9, 3) := by decide +kernel
theorem dX9_takeToken_16 : decode cX9_takeToken 16 = .ok (.if_icmp .ge 44, 3) := by decide +kernel
theorem dX9_takeToken_19 : decode cX9_takeToken 19 = .ok (.aload_n 0, 1) := by decide +kernel
theorem dX9_takeToken_20 : decode cX9_takeToken 20 = .ok (.getfield 27, 3) := by decide +kernel
theorem dX9_takeToken_23 : decode cX9_takeToken 23 = .ok (.aload_n 0, 1) := by decide +kernel
theorem dX9_takeToken_24 : decode cX9_takeToken 24 = .ok (.getfield 15, 3) := by decide +kernel
theorem dX9_takeToken_27 : decode cX9_takeToken 27 = .ok (.iaload, 1) := by decide +kernel
theorem dX9_takeToken_28 : decode cX9_takeToken 28 = .ok (.bipush 32, 2) := by decide +kernel
theorem dX9_takeToken_30 : decode cX9_takeToken 30 = .ok (.if_icmp .eq 17, 3) := by decide +kernel
theorem dX9_takeToken_33 : decode cX9_takeToken 33 = .ok (.aload_n 0, 1) := by decide +kernel
theorem dX9_takeToken_34 : decode cX9_takeToken 34 = .ok (.getfield 27, 3) := by decide +kernel
theorem dX9_takeToken_37 : decode cX9_takeToken 37 = .ok (.aload_n 0, 1) := by decide +kernel
theorem dX9_takeToken_38 : decode cX9_takeToken 38 = .ok (.getfield 15, 3) := by decide +kernel
theorem dX9_takeToken_41 : decode cX9_takeToken 41 = .ok (.iaload, 1) := by decide +kernel
theorem dX9_takeToken_42 : decode cX9_takeToken 42 = .ok (.bipush 10, 2) := by decide +kernel
theorem dX9_takeToken_44 : decode cX9_takeToken 44 = .ok (.if_icmp .ne 16, 3) := by decide +kernel
theorem dX9_takeToken_47 : decode cX9_takeToken 47 = .ok (.aload_n 0, 1) := by decide +kernel
theorem dX9_takeToken_48 : decode cX9_takeToken 48 = .ok (.dup, 1) := by decide +kernel
theorem dX9_takeToken_49 : decode cX9_takeToken 49 = .ok (.getfield 15, 3) := by decide +kernel
theorem dX9_takeToken_52 : decode cX9_takeToken 52 = .ok (.iconst 1, 1) := by decide +kernel
theorem dX9_takeToken_53 : decode cX9_takeToken 53 = .ok (.iadd, 1) := by decide +kernel
theorem dX9_takeToken_54 : decode cX9_takeToken 54 = .ok (.putfield 15, 3) := by decide +kernel
theorem dX9_takeToken_57 : decode cX9_takeToken 57 = .ok (.goto (-49), 3) := by decide +kernel
theorem dX9_takeToken_60 : decode cX9_takeToken 60 = .ok (.aload_n 0, 1) := by decide +kernel
theorem dX9_takeToken_61 : decode cX9_takeToken 61 = .ok (.aload_n 0, 1) := by decide +kernel
theorem dX9_takeToken_62 : decode cX9_takeToken 62 = .ok (.getfield 15, 3) := by decide +kernel
theorem dX9_takeToken_65 : decode cX9_takeToken 65 = .ok (.putfield 18, 3) := by decide +kernel
theorem dX9_takeToken_68 : decode cX9_takeToken 68 = .ok (.aload_n 0, 1) := by decide +kernel
theorem dX9_takeToken_69 : decode cX9_takeToken 69 = .ok (.getfield 15, 3) := by decide +kernel
theorem dX9_takeToken_72 : decode cX9_takeToken 72 = .ok (.aload_n 0, 1) := by decide +kernel
theorem dX9_takeToken_73 : decode cX9_takeToken 73 = .ok (.getfield 9, 3) := by decide +kernel
theorem dX9_takeToken_76 : decode cX9_takeToken 76 = .ok (.if_icmp .lt 11, 3) := by decide +kernel
theorem dX9_takeToken_79 : decode cX9_takeToken 79 = .ok (.aload_n 0, 1) := by decide +kernel
theorem dX9_takeToken_80 : decode cX9_takeToken 80 = .ok (.iconst 0, 1) := by decide +kernel
theorem dX9_takeToken_81 : decode cX9_takeToken 81 = .ok (.putfield 21, 3) := by decide +kernel
theorem dX9_takeToken_84 : decode cX9_takeToken 84 = .ok (.goto 72, 3) := by decide +kernel
theorem dX9_takeToken_87 : decode cX9_takeToken 87 = .ok (.aload_n 0, 1) := by decide +kernel
theorem dX9_takeToken_88 : decode cX9_takeToken 88 = .ok (.aload_n 0, 1) := by decide +kernel
theorem dX9_takeToken_89 : decode cX9_takeToken 89 = .ok (.getfield 15, 3) := by decide +kernel
theorem dX9_takeToken_92 : decode cX9_takeToken 92 = .ok (.invokevirtual 91, 3) := by decide +kernel
theorem dX9_takeToken_95 : decode cX9_takeToken 95 = .ok (.ifCond .eq 10, 3) := by decide +kernel
theorem dX9_takeToken_98 : decode cX9_takeToken 98 = .ok (.aload_n 0, 1) := by decide +kernel
theorem dX9_takeToken_99 : decode cX9_takeToken 99 = .ok (.invokevirtual 94, 3) := by decide +kernel
theorem dX9_takeToken_102 : decode cX9_takeToken 102 = .ok (.goto 54, 3) := by decide +kernel
theorem dX9_takeToken_105 : decode cX9_takeToken 105 = .ok (.aload_n 0, 1) := by decide +kernel
theorem dX9_takeToken_106 : decode cX9_takeToken 106 = .ok (.aload_n 0, 1) := by decide +kernel
theorem dX9_takeToken_107 : decode cX9_takeToken 107 = .ok (.getfield 15, 3) := by decide +kernel
theorem dX9_takeToken_110 : decode cX9_takeToken 110 = .ok (.invokevirtual 97, 3) := by decide +kernel
theorem dX9_takeToken_113 : decode cX9_takeToken 113 = .ok (.ifCond .eq 10, 3) := by decide +kernel
theorem dX9_takeToken_116 : decode cX9_takeToken 116 = .ok (.aload_n 0, 1) := by decide +kernel
theorem dX9_takeToken_117 : decode cX9_takeToken 117 = .ok (.invokevirtual 100, 3) := by decide +kernel
theorem dX9_takeToken_120 : decode cX9_takeToken 120 = .ok (.goto 36, 3) := by decide +kernel
theorem dX9_takeToken_123 : decode cX9_takeToken 123 = .ok (.aload_n 0, 1) := by decide +kernel
theorem dX9_takeToken_124 : decode cX9_takeToken 124 = .ok (.aload_n 0, 1) := by decide +kernel
theorem dX9_takeToken_125 : decode cX9_takeToken 125 = .ok (.getfield 27, 3) := by decide +kernel
theorem dX9_takeToken_128 : decode cX9_takeToken 128 = .ok (.aload_n 0, 1) := by decide +kernel
theorem dX9_takeToken_129 : decode cX9_takeToken 129 = .ok (.getfield 15, 3) := by decide +kernel
theorem dX9_takeToken_132 : decode cX9_takeToken 132 = .ok (.iaload, 1) := by decide +kernel
theorem dX9_takeToken_133 : decode cX9_takeToken 133 = .ok (.bipush 59, 2) := by decide +kernel
theorem dX9_takeToken_135 : decode cX9_takeToken 135 = .ok (.if_icmp .ne 7, 3) := by decide +kernel
theorem dX9_takeToken_138 : decode cX9_takeToken 138 = .ok (.iconst 3, 1) := by decide +kernel
theorem dX9_takeToken_139 : decode cX9_takeToken 139 = .ok (.goto 4, 3) := by decide +kernel
theorem dX9_takeToken_142 : decode cX9_takeToken 142 = .ok (.iconst 1, 1) := by decide +kernel
theorem dX9_takeToken_143 : decode cX9_takeToken 143 = .ok (.putfield 21, 3) := by decide +kernel
theorem dX9_takeToken_146 : decode cX9_takeToken 146 = .ok (.aload_n 0, 1) := by decide +kernel
theorem dX9_takeToken_147 : decode cX9_takeToken 147 = .ok (.aload_n 0, 1) := by decide +kernel
theorem dX9_takeToken_148 : decode cX9_takeToken 148 = .ok (.getfield 15, 3) := by decide +kernel
theorem dX9_takeToken_151 : decode cX9_takeToken 151 = .ok (.iconst 1, 1) := by decide +kernel
theorem dX9_takeToken_152 : decode cX9_takeToken 152 = .ok (.iadd, 1) := by decide +kernel
theorem dX9_takeToken_153 : decode cX9_takeToken 153 = .ok (.putfield 18, 3) := by decide +kernel
theorem dX9_takeToken_156 : decode cX9_takeToken 156 = .ok (.return_, 1) := by decide +kernel
theorem dX9_takeWord_0 : decode cX9_takeWord 0 = .ok (.aload_n 0, 1) := by decide +kernel
theorem dX9_takeWord_1 : decode cX9_takeWord 1 = .ok (.getfield 18, 3) := by decide +kernel
theorem dX9_takeWord_4 : decode cX9_takeWord 4 = .ok (.aload_n 0, 1) := by decide +kernel
theorem dX9_takeWord_5 : decode cX9_takeWord 5 = .ok (.getfield 9, 3) := by decide +kernel
theorem dX9_takeWord_8 : decode cX9_takeWord 8 = .ok (.if_icmp .ge 27, 3) := by decide +kernel
theorem dX9_takeWord_11 : decode cX9_takeWord 11 = .ok (.aload_n 0, 1) := by decide +kernel
theorem dX9_takeWord_12 : decode cX9_takeWord 12 = .ok (.aload_n 0, 1) := by decide +kernel
theorem dX9_takeWord_13 : decode cX9_takeWord 13 = .ok (.getfield 18, 3) := by decide +kernel
theorem dX9_takeWord_16 : decode cX9_takeWord 16 = .ok (.invokevirtual 91, 3) := by decide +kernel
theorem dX9_takeWord_19 : decode cX9_takeWord 19 = .ok (.ifCond .eq 16, 3) := by decide +kernel
theorem dX9_takeWord_22 : decode cX9_takeWord 22 = .ok (.aload_n 0, 1) := by decide +kernel
theorem dX9_takeWord_23 : decode cX9_takeWord 23 = .ok (.dup, 1) := by decide +kernel
theorem dX9_takeWord_24 : decode cX9_takeWord 24 = .ok (.getfield 18, 3) := by decide +kernel
theorem dX9_takeWord_27 : decode cX9_takeWord 27 = .ok (.iconst 1, 1) := by decide +kernel
theorem dX9_takeWord_28 : decode cX9_takeWord 28 = .ok (.iadd, 1) := by decide +kernel
theorem dX9_takeWord_29 : decode cX9_takeWord 29 = .ok (.putfield 18, 3) := by decide +kernel
theorem dX9_takeWord_32 : decode cX9_takeWord 32 = .ok (.goto (-32), 3) := by decide +kernel
theorem dX9_takeWord_35 : decode cX9_takeWord 35 = .ok (.aload_n 0, 1) := by decide +kernel
theorem dX9_takeWord_36 : decode cX9_takeWord 36 = .ok (.iconst 1, 1) := by decide +kernel
theorem dX9_takeWord_37 : decode cX9_takeWord 37 = .ok (.putfield 21, 3) := by decide +kernel
theorem dX9_takeWord_40 : decode cX9_takeWord 40 = .ok (.aload_n 0, 1) := by decide +kernel
theorem dX9_takeWord_41 : decode cX9_takeWord 41 = .ok (.aload_n 0, 1) := by decide +kernel
theorem dX9_takeWord_42 : decode cX9_takeWord 42 = .ok (.ldc 103, 2) := by decide +kernel
theorem dX9_takeWord_44 : decode cX9_takeWord 44 = .ok (.invokevirtual 105, 3) := by decide +kernel
theorem dX9_takeWord_47 : decode cX9_takeWord 47 = .ok (.ifCond .eq 7, 3) := by decide +kernel
theorem dX9_takeWord_50 : decode cX9_takeWord 50 = .ok (.iconst 4, 1) := by decide +kernel
theorem dX9_takeWord_51 : decode cX9_takeWord 51 = .ok (.goto 7, 3) := by decide +kernel
theorem dX9_takeWord_54 : decode cX9_takeWord 54 = .ok (.aload_n 0, 1) := by decide +kernel
theorem dX9_takeWord_55 : decode cX9_takeWord 55 = .ok (.getfield 21, 3) := by decide +kernel
theorem dX9_takeWord_58 : decode cX9_takeWord 58 = .ok (.putfield 21, 3) := by decide +kernel
theorem dX9_takeWord_61 : decode cX9_takeWord 61 = .ok (.aload_n 0, 1) := by decide +kernel
theorem dX9_takeWord_62 : decode cX9_takeWord 62 = .ok (.aload_n 0, 1) := by decide +kernel
theorem dX9_takeWord_63 : decode cX9_takeWord 63 = .ok (.ldc 109, 2) := by decide +kernel
theorem dX9_takeWord_65 : decode cX9_takeWord 65 = .ok (.invokevirtual 105, 3) := by decide +kernel
theorem dX9_takeWord_68 : decode cX9_takeWord 68 = .ok (.ifCond .eq 7, 3) := by decide +kernel
theorem dX9_takeWord_71 : decode cX9_takeWord 71 = .ok (.iconst 5, 1) := by decide +kernel
theorem dX9_takeWord_72 : decode cX9_takeWord 72 = .ok (.goto 7, 3) := by decide +kernel
theorem dX9_takeWord_75 : decode cX9_takeWord 75 = .ok (.aload_n 0, 1) := by decide +kernel
theorem dX9_takeWord_76 : decode cX9_takeWord 76 = .ok (.getfield 21, 3) := by decide +kernel
theorem dX9_takeWord_79 : decode cX9_takeWord 79 = .ok (.putfield 21, 3) := by decide +kernel
theorem dX9_takeWord_82 : decode cX9_takeWord 82 = .ok (.aload_n 0, 1) := by decide +kernel
theorem dX9_takeWord_83 : decode cX9_takeWord 83 = .ok (.aload_n 0, 1) := by decide +kernel
theorem dX9_takeWord_84 : decode cX9_takeWord 84 = .ok (.ldc 111, 2) := by decide +kernel
theorem dX9_takeWord_86 : decode cX9_takeWord 86 = .ok (.invokevirtual 105, 3) := by decide +kernel
theorem dX9_takeWord_89 : decode cX9_takeWord 89 = .ok (.ifCond .eq 8, 3) := by decide +kernel
theorem dX9_takeWord_92 : decode cX9_takeWord 92 = .ok (.bipush 6, 2) := by decide +kernel
theorem dX9_takeWord_94 : decode cX9_takeWord 94 = .ok (.goto 7, 3) := by decide +kernel
theorem dX9_takeWord_97 : decode cX9_takeWord 97 = .ok (.aload_n 0, 1) := by decide +kernel
theorem dX9_takeWord_98 : decode cX9_takeWord 98 = .ok (.getfield 21, 3) := by decide +kernel
theorem dX9_takeWord_101 : decode cX9_takeWord 101 = .ok (.putfield 21, 3) := by decide +kernel
theorem dX9_takeWord_104 : decode cX9_takeWord 104 = .ok (.aload_n 0, 1) := by decide +kernel
theorem dX9_takeWord_105 : decode cX9_takeWord 105 = .ok (.aload_n 0, 1) := by decide +kernel
theorem dX9_takeWord_106 : decode cX9_takeWord 106 = .ok (.ldc 113, 2) := by decide +kernel
theorem dX9_takeWord_108 : decode cX9_takeWord 108 = .ok (.invokevirtual 105, 3) := by decide +kernel
theorem dX9_takeWord_111 : decode cX9_takeWord 111 = .ok (.ifCond .eq 8, 3) := by decide +kernel
theorem dX9_takeWord_114 : decode cX9_takeWord 114 = .ok (.bipush 7, 2) := by decide +kernel
theorem dX9_takeWord_116 : decode cX9_takeWord 116 = .ok (.goto 7, 3) := by decide +kernel
theorem dX9_takeWord_119 : decode cX9_takeWord 119 = .ok (.aload_n 0, 1) := by decide +kernel
theorem dX9_takeWord_120 : decode cX9_takeWord 120 = .ok (.getfield 21, 3) := by decide +kernel
theorem dX9_takeWord_123 : decode cX9_takeWord 123 = .ok (.putfield 21, 3) := by decide +kernel
theorem dX9_takeWord_126 : decode cX9_takeWord 126 = .ok (.aload_n 0, 1) := by decide +kernel
theorem dX9_takeWord_127 : decode cX9_takeWord 127 = .ok (.aload_n 0, 1) := by decide +kernel
theorem dX9_takeWord_128 : decode cX9_takeWord 128 = .ok (.ldc 115, 2) := by decide +kernel
theorem dX9_takeWord_130 : decode cX9_takeWord 130 = .ok (.invokevirtual 105, 3) := by decide +kernel
theorem dX9_takeWord_133 : decode cX9_takeWord 133 = .ok (.ifCond .eq 8, 3) := by decide +kernel
theorem dX9_takeWord_136 : decode cX9_takeWord 136 = .ok (.bipush 8, 2) := by decide +kernel
theorem dX9_takeWord_138 : decode cX9_takeWord 138 = .ok (.goto 7, 3) := by decide +kernel
theorem dX9_takeWord_141 : decode cX9_takeWord 141 = .ok (.aload_n 0, 1) := by decide +kernel
theorem dX9_takeWord_142 : decode cX9_takeWord 142 = .ok (.getfield 21, 3) := by decide +kernel
theorem dX9_takeWord_145 : decode cX9_takeWord 145 = .ok (.putfield 21, 3) := by decide +kernel
theorem dX9_takeWord_148 : decode cX9_takeWord 148 = .ok (.aload_n 0, 1) := by decide +kernel
theorem dX9_takeWord_149 : decode cX9_takeWord 149 = .ok (.aload_n 0, 1) := by decide +kernel
theorem dX9_takeWord_150 : decode cX9_takeWord 150 = .ok (.ldc 117, 2) := by decide +kernel
theorem dX9_takeWord_152 : decode cX9_takeWord 152 = .ok (.invokevirtual 105, 3) := by decide +kernel
theorem dX9_takeWord_155 : decode cX9_takeWord 155 = .ok (.ifCond .eq 8, 3) := by decide +kernel
theorem dX9_takeWord_158 : decode cX9_takeWord 158 = .ok (.bipush 9, 2) := by decide +kernel
theorem dX9_takeWord_160 : decode cX9_takeWord 160 = .ok (.goto 7, 3) := by decide +kernel
theorem dX9_takeWord_163 : decode cX9_takeWord 163 = .ok (.aload_n 0, 1) := by decide +kernel
theorem dX9_takeWord_164 : decode cX9_takeWord 164 = .ok (.getfield 21, 3) := by decide +kernel
theorem dX9_takeWord_167 : decode cX9_takeWord 167 = .ok (.putfield 21, 3) := by decide +kernel
theorem dX9_takeWord_170 : decode cX9_takeWord 170 = .ok (.return_, 1) := by decide +kernel
theorem dX9_takeNumber_0 : decode cX9_takeNumber 0 = .ok (.aload_n 0, 1) := by decide +kernel
theorem dX9_takeNumber_1 : decode cX9_takeNumber 1 = .ok (.iconst 2, 1) := by decide +kernel
theorem dX9_takeNumber_2 : decode cX9_takeNumber 2 = .ok (.putfield 21, 3) := by decide +kernel
theorem dX9_takeNumber_5 : decode cX9_takeNumber 5 = .ok (.aload_n 0, 1) := by decide +kernel
theorem dX9_takeNumber_6 : decode cX9_takeNumber 6 = .ok (.iconst 0, 1) := by decide +kernel
theorem dX9_takeNumber_7 : decode cX9_takeNumber 7 = .ok (.putfield 24, 3) := by decide +kernel
theorem dX9_takeNumber_10 : decode cX9_takeNumber 10 = .ok (.aload_n 0, 1) := by decide +kernel
theorem dX9_takeNumber_11 : decode cX9_takeNumber 11 = .ok (.getfield 18, 3) := by decide +kernel
theorem dX9_takeNumber_14 : decode cX9_takeNumber 14 = .ok (.aload_n 0, 1) := by decide +kernel
theorem dX9_takeNumber_15 : decode cX9_takeNumber 15 = .ok (.getfield 9, 3) := by decide +kernel
theorem dX9_takeNumber_18 : decode cX9_takeNumber 18 = .ok (.if_icmp .ge 77, 3) := by decide +kernel
theorem dX9_takeNumber_21 : decode cX9_takeNumber 21 = .ok (.aload_n 0, 1) := by decide +kernel
theorem dX9_takeNumber_22 : decode cX9_takeNumber 22 = .ok (.aload_n 0, 1) := by decide +kernel
theorem dX9_takeNumber_23 : decode cX9_takeNumber 23 = .ok (.getfield 18, 3) := by decide +kernel
theorem dX9_takeNumber_26 : decode cX9_takeNumber 26 = .ok (.invokevirtual 97, 3) := by decide +kernel
theorem dX9_takeNumber_29 : decode cX9_takeNumber 29 = .ok (.ifCond .eq 66, 3) := by decide +kernel
theorem dX9_takeNumber_32 : decode cX9_takeNumber 32 = .ok (.aload_n 0, 1) := by decide +kernel
theorem dX9_takeNumber_33 : decode cX9_takeNumber 33 = .ok (.aload_n 0, 1) := by decide +kernel
theorem dX9_takeNumber_34 : decode cX9_takeNumber 34 = .ok (.getfield 24, 3) := by decide +kernel
theorem dX9_takeNumber_37 : decode cX9_takeNumber 37 = .ok (.bipush 10, 2) := by decide +kernel
theorem dX9_takeNumber_39 : decode cX9_takeNumber 39 = .ok (.imul, 1) := by decide +kernel
theorem dX9_takeNumber_40 : decode cX9_takeNumber 40 = .ok (.aload_n 0, 1) := by decide +kernel
theorem dX9_takeNumber_41 : decode cX9_takeNumber 41 = .ok (.getfield 27, 3) := by decide +kernel
theorem dX9_takeNumber_44 : decode cX9_takeNumber 44 = .ok (.aload_n 0, 1) := by decide +kernel
theorem dX9_takeNumber_45 : decode cX9_takeNumber 45 = .ok (.getfield 18, 3) := by decide +kernel
theorem dX9_takeNumber_48 : decode cX9_takeNumber 48 = .ok (.iaload, 1) := by decide +kernel
theorem dX9_takeNumber_49 : decode cX9_takeNumber 49 = .ok (.iadd, 1) := by decide +kernel
theorem dX9_takeNumber_50 : decode cX9_takeNumber 50 = .ok (.bipush 48, 2) := by decide +kernel
theorem dX9_takeNumber_52 : decode cX9_takeNumber 52 = .ok (.isub, 1) := by decide +kernel
theorem dX9_takeNumber_53 : decode cX9_takeNumber 53 = .ok (.putfield 24, 3) := by decide +kernel
theorem dX9_takeNumber_56 : decode cX9_takeNumber 56 = .ok (.aload_n 0, 1) := by decide +kernel
theorem dX9_takeNumber_57 : decode cX9_takeNumber 57 = .ok (.aload_n 0, 1) := by decide +kernel
theorem dX9_takeNumber_58 : decode cX9_takeNumber 58 = .ok (.getfield 18, 3) := by decide +kernel
theorem dX9_takeNumber_61 : decode cX9_takeNumber 61 = .ok (.aload_n 0, 1) := by decide +kernel
theorem dX9_takeNumber_62 : decode cX9_takeNumber 62 = .ok (.getfield 15, 3) := by decide +kernel
theorem dX9_takeNumber_65 : decode cX9_takeNumber 65 = .ok (.isub, 1) := by decide +kernel
theorem dX9_takeNumber_66 : decode cX9_takeNumber 66 = .ok (.iconst 3, 1) := by decide +kernel
theorem dX9_takeNumber_67 : decode cX9_takeNumber 67 = .ok (.if_icmp .lt 8, 3) := by decide +kernel
theorem dX9_takeNumber_70 : decode cX9_takeNumber 70 = .ok (.ldc 119, 2) := by decide +kernel
theorem dX9_takeNumber_72 : decode cX9_takeNumber 72 = .ok (.goto 7, 3) := by decide +kernel
theorem dX9_takeNumber_75 : decode cX9_takeNumber 75 = .ok (.aload_n 0, 1) := by decide +kernel
theorem dX9_takeNumber_76 : decode cX9_takeNumber 76 = .ok (.getfield 24, 3) := by decide +kernel
theorem dX9_takeNumber_79 : decode cX9_takeNumber 79 = .ok (.putfield 24, 3) := by decide +kernel
theorem dX9_takeNumber_82 : decode cX9_takeNumber 82 = .ok (.aload_n 0, 1) := by decide +kernel
theorem dX9_takeNumber_83 : decode cX9_takeNumber 83 = .ok (.dup, 1) := by decide +kernel
theorem dX9_takeNumber_84 : decode cX9_takeNumber 84 = .ok (.getfield 18, 3) := by decide +kernel
theorem dX9_takeNumber_87 : decode cX9_takeNumber 87 = .ok (.iconst 1, 1) := by decide +kernel
theorem dX9_takeNumber_88 : decode cX9_takeNumber 88 = .ok (.iadd, 1) := by decide +kernel
theorem dX9_takeNumber_89 : decode cX9_takeNumber 89 = .ok (.putfield 18, 3) := by decide +kernel
theorem dX9_takeNumber_92 : decode cX9_takeNumber 92 = .ok (.goto (-82), 3) := by decide +kernel
theorem dX9_takeNumber_95 : decode cX9_takeNumber 95 = .ok (.return_, 1) := by decide +kernel
theorem dX9_isLetter_0 : decode cX9_isLetter 0 = .ok (.aload_n 0, 1) := by decide +kernel
theorem dX9_isLetter_1 : decode cX9_isLetter 1 = .ok (.getfield 27, 3) := by decide +kernel
theorem dX9_isLetter_4 : decode cX9_isLetter 4 = .ok (.iload_n 1, 1) := by decide +kernel
theorem dX9_isLetter_5 : decode cX9_isLetter 5 = .ok (.iaload, 1) := by decide +kernel
theorem dX9_isLetter_6 : decode cX9_isLetter 6 = .ok (.bipush 97, 2) := by decide +kernel
theorem dX9_isLetter_8 : decode cX9_isLetter 8 = .ok (.if_icmp .lt 18, 3) := by decide +kernel
theorem dX9_isLetter_11 : decode cX9_isLetter 11 = .ok (.aload_n 0, 1) := by decide +kernel
theorem dX9_isLetter_12 : decode cX9_isLetter 12 = .ok (.getfield 27, 3) := by decide +kernel
theorem dX9_isLetter_15 : decode cX9_isLetter 15 = .ok (.iload_n 1, 1) := by decide +kernel
theorem dX9_isLetter_16 : decode cX9_isLetter 16 = .ok (.iaload, 1) := by decide +kernel
theorem dX9_isLetter_17 : decode cX9_isLetter 17 = .ok (.bipush 122, 2) := by decide +kernel
theorem dX9_isLetter_19 : decode cX9_isLetter 19 = .ok (.if_icmp .gt 7, 3) := by decide +kernel
theorem dX9_isLetter_22 : decode cX9_isLetter 22 = .ok (.iconst 1, 1) := by decide +kernel
theorem dX9_isLetter_23 : decode cX9_isLetter 23 = .ok (.goto 4, 3) := by decide +kernel
theorem dX9_isLetter_26 : decode cX9_isLetter 26 = .ok (.iconst 0, 1) := by decide +kernel
theorem dX9_isLetter_27 : decode cX9_isLetter 27 = .ok (.ireturn, 1) := by decide +kernel
theorem dX9_isDigit_0 : decode cX9_isDigit 0 = .ok (.aload_n 0, 1) := by decide +kernel
theorem dX9_isDigit_1 : decode cX9_isDigit 1 = .ok (.getfield 27, 3) := by decide +kernel
theorem dX9_isDigit_4 : decode cX9_isDigit 4 = .ok (.iload_n 1, 1) := by decide +kernel
theorem dX9_isDigit_5 : decode cX9_isDigit 5 = .ok (.iaload, 1) := by decide +kernel
theorem dX9_isDigit_6 : decode cX9_isDigit 6 = .ok (.bipush 48, 2) := by decide +kernel
theorem dX9_isDigit_8 : decode cX9_isDigit 8 = .ok (.if_icmp .lt 18, 3) := by decide +kernel
theorem dX9_isDigit_11 : decode cX9_isDigit 11 = .ok (.aload_n 0, 1) := by decide +kernel
theorem dX9_isDigit_12 : decode cX9_isDigit 12 = .ok (.getfield 27, 3) := by decide +kernel
theorem dX9_isDigit_15 : decode cX9_isDigit 15 = .ok (.iload_n 1, 1) := by decide +kernel
theorem dX9_isDigit_16 : decode cX9_isDigit 16 = .ok (.iaload, 1) := by decide +kernel
theorem dX9_isDigit_17 : decode cX9_isDigit 17 = .ok (.bipush 57, 2) := by decide +kernel
theorem dX9_isDigit_19 : decode cX9_isDigit 19 = .ok (.if_icmp .gt 7, 3) := by decide +kernel
theorem dX9_isDigit_22 : decode cX9_isDigit 22 = .ok (.iconst 1, 1) := by decide +kernel
theorem dX9_isDigit_23 : decode cX9_isDigit 23 = .ok (.goto 4, 3) := by decide +kernel
theorem dX9_isDigit_26 : decode cX9_isDigit 26 = .ok (.iconst 0, 1) := by decide +kernel
theorem dX9_isDigit_27 : decode cX9_isDigit 27 = .ok (.ireturn, 1) := by decide +kernel
theorem dX9_isWord_0 : decode cX9_isWord 0 = .ok (.aload_n 1, 1) := by decide +kernel
theorem dX9_isWord_1 : decode cX9_isWord 1 = .ok (.invokevirtual 120, 3) := by decide +kernel
theorem dX9_isWord_4 : decode cX9_isWord 4 = .ok (.aload_n 0, 1) := by decide +kernel
theorem dX9_isWord_5 : decode cX9_isWord 5 = .ok (.getfield 18, 3) := by decide +kernel
theorem dX9_isWord_8 : decode cX9_isWord 8 = .ok (.aload_n 0, 1) := by decide +kernel
theorem dX9_isWord_9 : decode cX9_isWord 9 = .ok (.getfield 15, 3) := by decide +kernel
theorem dX9_isWord_12 : decode cX9_isWord 12 = .ok (.isub, 1) := by decide +kernel
theorem dX9_isWord_13 : decode cX9_isWord 13 = .ok (.if_icmp .eq 5, 3) := by decide +kernel
theorem dX9_isWord_16 : decode cX9_isWord 16 = .ok (.iconst 0, 1) := by decide +kernel
theorem dX9_isWord_17 : decode cX9_isWord 17 = .ok (.ireturn, 1) := by decide +kernel
theorem dX9_isWord_18 : decode cX9_isWord 18 = .ok (.iconst 0, 1) := by decide +kernel
theorem dX9_isWord_19 : decode cX9_isWord 19 = .ok (.istore_n 2, 1) := by decide +kernel
theorem dX9_isWord_20 : decode cX9_isWord 20 = .ok (.iload_n 2, 1) := by decide +kernel
theorem dX9_isWord_21 : decode cX9_isWord 21 = .ok (.aload_n 1, 1) := by decide +kernel
theorem dX9_isWord_22 : decode cX9_isWord 22 = .ok (.invokevirtual 120, 3) := by decide +kernel
theorem dX9_isWord_25 : decode cX9_isWord 25 = .ok (.if_icmp .ge 30, 3) := by decide +kernel
theorem dX9_isWord_28 : decode cX9_isWord 28 = .ok (.aload_n 0, 1) := by decide +kernel
theorem dX9_isWord_29 : decode cX9_isWord 29 = .ok (.getfield 27, 3) := by decide +kernel
theorem dX9_isWord_32 : decode cX9_isWord 32 = .ok (.aload_n 0, 1) := by decide +kernel
theorem dX9_isWord_33 : decode cX9_isWord 33 = .ok (.getfield 15, 3) := by decide +kernel
theorem dX9_isWord_36 : decode cX9_isWord 36 = .ok (.iload_n 2, 1) := by decide +kernel
theorem dX9_isWord_37 : decode cX9_isWord 37 = .ok (.iadd, 1) := by decide +kernel
theorem dX9_isWord_38 : decode cX9_isWord 38 = .ok (.iaload, 1) := by decide +kernel
theorem dX9_isWord_39 : decode cX9_isWord 39 = .ok (.aload_n 1, 1) := by decide +kernel
theorem dX9_isWord_40 : decode cX9_isWord 40 = .ok (.iload_n 2, 1) := by decide +kernel
theorem dX9_isWord_41 : decode cX9_isWord 41 = .ok (.invokevirtual 125, 3) := by decide +kernel
theorem dX9_isWord_44 : decode cX9_isWord 44 = .ok (.if_icmp .eq 5, 3) := by decide +kernel
theorem dX9_isWord_47 : decode cX9_isWord 47 = .ok (.iconst 0, 1) := by decide +kernel
theorem dX9_isWord_48 : decode cX9_isWord 48 = .ok (.ireturn, 1) := by decide +kernel
theorem dX9_isWord_49 : decode cX9_isWord 49 = .ok (.iinc 2 1, 3) := by decide +kernel
theorem dX9_isWord_52 : decode cX9_isWord 52 = .ok (.goto (-32), 3) := by decide +kernel
theorem dX9_isWord_55 : decode cX9_isWord 55 = .ok (.iconst 1, 1) := by decide +kernel
theorem dX9_isWord_56 : decode cX9_isWord 56 = .ok (.ireturn, 1) := by decide +kernel
theorem dX10_init_0 : decode cX10_init 0 = .ok (.aload_n 0, 1) := by decide +kernel
theorem dX10_init_1 : decode cX10_init 1 = .ok (.invokespecial 3, 3) := by decide +kernel
theorem dX10_init_4 : decode cX10_init 4 = .ok (.aload_n 0, 1) := by decide +kernel
theorem dX10_init_5 : decode cX10_init 5 = .ok (.bipush 96, 2) := by decide +kernel
theorem dX10_init_7 : decode cX10_init 7 = .ok (.newarray .int, 2) := by decide +kernel
theorem dX10_init_9 : decode cX10_init 9 = .ok (.putfield 11, 3) := by decide +kernel
theorem dX10_init_12 : decode cX10_init 12 = .ok (.aload_n 0, 1) := by decide +kernel
theorem dX10_init_13 : decode cX10_init 13 = .ok (.iconst 0, 1) := by decide +kernel
theorem dX10_init_14 : decode cX10_init 14 = .ok (.putfield 15, 3) := by decide +kernel
theorem dX10_init_17 : decode cX10_init 17 = .ok (.return_, 1) := by decide +kernel
theorem dX10_tell_0 : decode cX10_tell 0 = .ok (.aload_n 0, 1) := by decide +kernel
theorem dX10_tell_1 : decode cX10_tell 1 = .ok (.iconst 0, 1) := by decide +kernel
theorem dX10_tell_2 : decode cX10_tell 2 = .ok (.putfield 15, 3) := by decide +kernel
theorem dX10_tell_5 : decode cX10_tell 5 = .ok (.aload_n 0, 1) := by decide +kernel
theorem dX10_tell_6 : decode cX10_tell 6 = .ok (.ldc 19, 2) := by decide +kernel
theorem dX10_tell_8 : decode cX10_tell 8 = .ok (.invokevirtual 21, 3) := by decide +kernel
theorem dX10_tell_11 : decode cX10_tell 11 = .ok (.aload_n 2, 1) := by decide +kernel
theorem dX10_tell_12 : decode cX10_tell 12 = .ok (.getfield 25, 3) := by decide +kernel
theorem dX10_tell_15 : decode cX10_tell 15 = .ok (.iload_n 1, 1) := by decide +kernel
theorem dX10_tell_16 : decode cX10_tell 16 = .ok (.iaload, 1) := by decide +kernel
theorem dX10_tell_17 : decode cX10_tell 17 = .ok (.bipush 12, 2) := by decide +kernel
theorem dX10_tell_19 : decode cX10_tell 19 = .ok (.if_icmp .eq 19, 3) := by decide +kernel
theorem dX10_tell_22 : decode cX10_tell 22 = .ok (.aload_n 0, 1) := by decide +kernel
theorem dX10_tell_23 : decode cX10_tell 23 = .ok (.ldc 30, 2) := by decide +kernel
theorem dX10_tell_25 : decode cX10_tell 25 = .ok (.invokevirtual 21, 3) := by decide +kernel
theorem dX10_tell_28 : decode cX10_tell 28 = .ok (.aload_n 0, 1) := by decide +kernel
theorem dX10_tell_29 : decode cX10_tell 29 = .ok (.aload_n 2, 1) := by decide +kernel
theorem dX10_tell_30 : decode cX10_tell 30 = .ok (.getfield 25, 3) := by decide +kernel
theorem dX10_tell_33 : decode cX10_tell 33 = .ok (.iload_n 1, 1) := by decide +kernel
theorem dX10_tell_34 : decode cX10_tell 34 = .ok (.iaload, 1) := by decide +kernel
theorem dX10_tell_35 : decode cX10_tell 35 = .ok (.invokevirtual 32, 3) := by decide +kernel
theorem dX10_tell_38 : decode cX10_tell 38 = .ok (.iconst 0, 1) := by decide +kernel
theorem dX10_tell_39 : decode cX10_tell 39 = .ok (.istore 4, 2) := by decide +kernel
theorem dX10_tell_41 : decode cX10_tell 41 = .ok (.iload 4, 2) := by decide +kernel
theorem dX10_tell_43 : decode cX10_tell 43 = .ok (.iconst 3, 1) := by decide +kernel
theorem dX10_tell_44 : decode cX10_tell 44 = .ok (.if_icmp .ge 86, 3) := by decide +kernel
theorem dX10_tell_47 : decode cX10_tell 47 = .ok (.iload_n 1, 1) := by decide +kernel
theorem dX10_tell_48 : decode cX10_tell 48 = .ok (.iconst 3, 1) := by decide +kernel
theorem dX10_tell_49 : decode cX10_tell 49 = .ok (.imul, 1) := by decide +kernel
theorem dX10_tell_50 : decode cX10_tell 50 = .ok (.iload 4, 2) := by decide +kernel
theorem dX10_tell_52 : decode cX10_tell 52 = .ok (.iadd, 1) := by decide +kernel
theorem dX10_tell_53 : decode cX10_tell 53 = .ok (.istore 5, 2) := by decide +kernel
theorem dX10_tell_55 : decode cX10_tell 55 = .ok (.aload_n 3, 1) := by decide +kernel
theorem dX10_tell_56 : decode cX10_tell 56 = .ok (.iload 5, 2) := by decide +kernel
theorem dX10_tell_58 : decode cX10_tell 58 = .ok (.invokevirtual 36, 3) := by decide +kernel
theorem dX10_tell_61 : decode cX10_tell 61 = .ok (.ifCond .eq 63, 3) := by decide +kernel
theorem dX10_tell_64 : decode cX10_tell 64 = .ok (.aload_n 0, 1) := by decide +kernel
theorem dX10_tell_65 : decode cX10_tell 65 = .ok (.iload 4, 2) := by decide +kernel
theorem dX10_tell_67 : decode cX10_tell 67 = .ok (.ifCond .ne 8, 3) := by decide +kernel
theorem dX10_tell_70 : decode cX10_tell 70 = .ok (.ldc 42, 2) := by decide +kernel
theorem dX10_tell_72 : decode cX10_tell 72 = .ok (.goto 16, 3) := by decide +kernel
theorem dX10_tell_75 : decode cX10_tell 75 = .ok (.iload 4, 2) := by decide +kernel
theorem dX10_tell_77 : decode cX10_tell 77 = .ok (.iconst 1, 1) := by decide +kernel
theorem dX10_tell_78 : decode cX10_tell 78 = .ok (.if_icmp .ne 8, 3) := by decide +kernel
theorem dX10_tell_81 : decode cX10_tell 81 = .ok (.ldc 44, 2) := by decide +kernel
theorem dX10_tell_83 : decode cX10_tell 83 = .ok (.goto 5, 3) := by decide +kernel
theorem dX10_tell_86 : decode cX10_tell 86 = .ok (.ldc 46, 2) := by decide +kernel
theorem dX10_tell_88 : decode cX10_tell 88 = .ok (.invokevirtual 21, 3) := by decide +kernel
theorem dX10_tell_91 : decode cX10_tell 91 = .ok (.aload_n 0, 1) := by decide +kernel
theorem dX10_tell_92 : decode cX10_tell 92 = .ok (.aload_n 3, 1) := by decide +kernel
theorem dX10_tell_93 : decode cX10_tell 93 = .ok (.getfield 48, 3) := by decide +kernel
theorem dX10_tell_96 : decode cX10_tell 96 = .ok (.iload 5, 2) := by decide +kernel
theorem dX10_tell_98 : decode cX10_tell 98 = .ok (.iaload, 1) := by decide +kernel
theorem dX10_tell_99 : decode cX10_tell 99 = .ok (.invokevirtual 32, 3) := by decide +kernel
theorem dX10_tell_102 : decode cX10_tell 102 = .ok (.aload_n 0, 1) := by decide +kernel
theorem dX10_tell_103 : decode cX10_tell 103 = .ok (.aload_n 3, 1) := by decide +kernel
theorem dX10_tell_104 : decode cX10_tell 104 = .ok (.getfield 51, 3) := by decide +kernel
theorem dX10_tell_107 : decode cX10_tell 107 = .ok (.iload 5, 2) := by decide +kernel
theorem dX10_tell_109 : decode cX10_tell 109 = .ok (.iaload, 1) := by decide +kernel
theorem dX10_tell_110 : decode cX10_tell 110 = .ok (.invokevirtual 32, 3) := by decide +kernel
theorem dX10_tell_113 : decode cX10_tell 113 = .ok (.aload_n 0, 1) := by decide +kernel
theorem dX10_tell_114 : decode cX10_tell 114 = .ok (.aload_n 3, 1) := by decide +kernel
theorem dX10_tell_115 : decode cX10_tell 115 = .ok (.getfield 54, 3) := by decide +kernel
theorem dX10_tell_118 : decode cX10_tell 118 = .ok (.iload 5, 2) := by decide +kernel
theorem dX10_tell_120 : decode cX10_tell 120 = .ok (.iaload, 1) := by decide +kernel
theorem dX10_tell_121 : decode cX10_tell 121 = .ok (.invokevirtual 32, 3) := by decide +kernel
theorem dX10_tell_124 : decode cX10_tell 124 = .ok (.iinc 4 1, 3) := by decide +kernel
theorem dX10_tell_127 : decode cX10_tell 127 = .ok (.goto (-86), 3) := by decide +kernel
theorem dX10_tell_130 : decode cX10_tell 130 = .ok (.aload_n 0, 1) := by decide +kernel
theorem dX10_tell_131 : decode cX10_tell 131 = .ok (.ldc 57, 2) := by decide +kernel
theorem dX10_tell_133 : decode cX10_tell 133 = .ok (.invokevirtual 21, 3) := by decide +kernel
theorem dX10_tell_136 : decode cX10_tell 136 = .ok (.return_, 1) := by decide +kernel
theorem dX10_putText_0 : decode cX10_putText 0 = .ok (.iconst 0, 1) := by decide +kernel
theorem dX10_putText_1 : decode cX10_putText 1 = .ok (.istore_n 2, 1) := by decide +kernel
theorem dX10_putText_2 : decode cX10_putText 2 = .ok (.iload_n 2, 1) := by decide +kernel
theorem dX10_putText_3 : decode cX10_putText 3 = .ok (.aload_n 1, 1) := by decide +kernel
theorem dX10_putText_4 : decode cX10_putText 4 = .ok (.invokevirtual 59, 3) := by decide +kernel
theorem dX10_putText_7 : decode cX10_putText 7 = .ok (.if_icmp .ge 18, 3) := by decide +kernel
theorem dX10_putText_10 : decode cX10_putText 10 = .ok (.aload_n 0, 1) := by decide +kernel
theorem dX10_putText_11 : decode cX10_putText 11 = .ok (.aload_n 1, 1) := by decide +kernel
theorem dX10_putText_12 : decode cX10_putText 12 = .ok (.iload_n 2, 1) := by decide +kernel
theorem dX10_putText_13 : decode cX10_putText 13 = .ok (.invokevirtual 64, 3) := by decide +kernel
theorem dX10_putText_16 : decode cX10_putText 16 = .ok (.invokevirtual 68, 3) := by decide +kernel
theorem dX10_putText_19 : decode cX10_putText 19 = .ok (.iinc 2 1, 3) := by decide +kernel
theorem dX10_putText_22 : decode cX10_putText 22 = .ok (.goto (-20), 3) := by decide +kernel
theorem dX10_putText_25 : decode cX10_putText 25 = .ok (.return_, 1) := by decide +kernel
theorem dX10_putNumber_0 : decode cX10_putNumber 0 = .ok (.aload_n 0, 1) := by decide +kernel
theorem dX10_putNumber_1 : decode cX10_putNumber 1 = .ok (.bipush 32, 2) := by decide +kernel
theorem dX10_putNumber_3 : decode cX10_putNumber 3 = .ok (.invokevirtual 68, 3) := by decide +kernel
theorem dX10_putNumber_6 : decode cX10_putNumber 6 = .ok (.iload_n 1, 1) := by decide +kernel
theorem dX10_putNumber_7 : decode cX10_putNumber 7 = .ok (.bipush 100, 2) := by decide +kernel
theorem dX10_putNumber_9 : decode cX10_putNumber 9 = .ok (.if_icmp .lt 17, 3) := by decide +kernel
theorem dX10_putNumber_12 : decode cX10_putNumber 12 = .ok (.aload_n 0, 1) := by decide +kernel
theorem dX10_putNumber_13 : decode cX10_putNumber 13 = .ok (.bipush 48, 2) := by decide +kernel
theorem dX10_putNumber_15 : decode cX10_putNumber 15 = .ok (.iload_n 1, 1) := by decide +kernel
theorem dX10_putNumber_16 : decode cX10_putNumber 16 = .ok (.bipush 100, 2) := by decide +kernel
theorem dX10_putNumber_18 : decode cX10_putNumber 18 = .ok (.idiv, 1) := by decide +kernel
theorem dX10_putNumber_19 : decode cX10_putNumber 19 = .ok (.bipush 10, 2) := by decide +kernel
theorem dX10_putNumber_21 : decode cX10_putNumber 21 = .ok (.irem, 1) := by decide +kernel
theorem dX10_putNumber_22 : decode cX10_putNumber 22 = .ok (.iadd, 1) := by decide +kernel
theorem dX10_putNumber_23 : decode cX10_putNumber 23 = .ok (.invokevirtual 68, 3) := by decide +kernel
theorem dX10_putNumber_26 : decode cX10_putNumber 26 = .ok (.iload_n 1, 1) := by decide +kernel
theorem dX10_putNumber_27 : decode cX10_putNumber 27 = .ok (.bipush 10, 2) := by decide +kernel
theorem dX10_putNumber_29 : decode cX10_putNumber 29 = .ok (.if_icmp .lt 17, 3) := by decide +kernel
theorem dX10_putNumber_32 : decode cX10_putNumber 32 = .ok (.aload_n 0, 1) := by decide +kernel
theorem dX10_putNumber_33 : decode cX10_putNumber 33 = .ok (.bipush 48, 2) := by decide +kernel
theorem dX10_putNumber_35 : decode cX10_putNumber 35 = .ok (.iload_n 1, 1) := by decide +kernel
theorem dX10_putNumber_36 : decode cX10_putNumber 36 = .ok (.bipush 10, 2) := by decide +kernel
theorem dX10_putNumber_38 : decode cX10_putNumber 38 = .ok (.idiv, 1) := by decide +kernel
theorem dX10_putNumber_39 : decode cX10_putNumber 39 = .ok (.bipush 10, 2) := by decide +kernel
theorem dX10_putNumber_41 : decode cX10_putNumber 41 = .ok (.irem, 1) := by decide +kernel
theorem dX10_putNumber_42 : decode cX10_putNumber 42 = .ok (.iadd, 1) := by decide +kernel
theorem dX10_putNumber_43 : decode cX10_putNumber 43 = .ok (.invokevirtual 68, 3) := by decide +kernel
theorem dX10_putNumber_46 : decode cX10_putNumber 46 = .ok (.aload_n 0, 1) := by decide +kernel
theorem dX10_putNumber_47 : decode cX10_putNumber 47 = .ok (.bipush 48, 2) := by decide +kernel
theorem dX10_putNumber_49 : decode cX10_putNumber 49 = .ok (.iload_n 1, 1) := by decide +kernel
theorem dX10_putNumber_50 : decode cX10_putNumber 50 = .ok (.bipush 10, 2) := by decide +kernel
theorem dX10_putNumber_52 : decode cX10_putNumber 52 = .ok (.irem, 1) := by decide +kernel
theorem dX10_putNumber_53 : decode cX10_putNumber 53 = .ok (.iadd, 1) := by decide +kernel
theorem dX10_putNumber_54 : decode cX10_putNumber 54 = .ok (.invokevirtual 68, 3) := by decide +kernel
theorem dX10_putNumber_57 : decode cX10_putNumber 57 = .ok (.return_, 1) := by decide +kernel
theorem dX10_putSign_0 : decode cX10_putSign 0 = .ok (.aload_n 0, 1) := by decide +kernel
theorem dX10_putSign_1 : decode cX10_putSign 1 = .ok (.getfield 15, 3) := by decide +kernel
theorem dX10_putSign_4 : decode cX10_putSign 4 = .ok (.bipush 96, 2) := by decide +kernel
theorem dX10_putSign_6 : decode cX10_putSign 6 = .ok (.if_icmp .ge 23, 3) := by decide +kernel
theorem dX10_putSign_9 : decode cX10_putSign 9 = .ok (.aload_n 0, 1) := by decide +kernel
theorem dX10_putSign_10 : decode cX10_putSign 10 = .ok (.getfield 11, 3) := by decide +kernel
theorem dX10_putSign_13 : decode cX10_putSign 13 = .ok (.aload_n 0, 1) := by decide +kernel
theorem dX10_putSign_14 : decode cX10_putSign 14 = .ok (.getfield 15, 3) := by decide +kernel
theorem dX10_putSign_17 : decode cX10_putSign 17 = .ok (.iload_n 1, 1) := by decide +kernel
theorem dX10_putSign_18 : decode cX10_putSign 18 = .ok (.iastore, 1) := by decide +kernel
theorem dX10_putSign_19 : decode cX10_putSign 19 = .ok (.aload_n 0, 1) := by decide +kernel
theorem dX10_putSign_20 : decode cX10_putSign 20 = .ok (.dup, 1) := by decide +kernel
theorem dX10_putSign_21 : decode cX10_putSign 21 = .ok (.getfield 15, 3) := by decide +kernel
theorem dX10_putSign_24 : decode cX10_putSign 24 = .ok (.iconst 1, 1) := by decide +kernel
theorem dX10_putSign_25 : decode cX10_putSign 25 = .ok (.iadd, 1) := by decide +kernel
theorem dX10_putSign_26 : decode cX10_putSign 26 = .ok (.putfield 15, 3) := by decide +kernel
theorem dX10_putSign_29 : decode cX10_putSign 29 = .ok (.return_, 1) := by decide +kernel
theorem dX11_init_0 : decode cX11_init 0 = .ok (.aload_n 0, 1) := by decide +kernel
theorem dX11_init_1 : decode cX11_init 1 = .ok (.invokespecial 3, 3) := by decide +kernel
theorem dX11_init_4 : decode cX11_init 4 = .ok (.aload_n 0, 1) := by decide +kernel
theorem dX11_init_5 : decode cX11_init 5 = .ok (.sipush 700, 3) := by decide +kernel
theorem dX11_init_8 : decode cX11_init 8 = .ok (.newarray .int, 2) := by decide +kernel
theorem dX11_init_10 : decode cX11_init 10 = .ok (.putfield 9, 3) := by decide +kernel
theorem dX11_init_13 : decode cX11_init 13 = .ok (.aload_n 0, 1) := by decide +kernel
theorem dX11_init_14 : decode cX11_init 14 = .ok (.iconst 0, 1) := by decide +kernel
theorem dX11_init_15 : decode cX11_init 15 = .ok (.putfield 13, 3) := by decide +kernel
theorem dX11_init_18 : decode cX11_init 18 = .ok (.aload_n 0, 1) := by decide +kernel
theorem dX11_init_19 : decode cX11_init 19 = .ok (.iconst (-1), 1) := by decide +kernel
theorem dX11_init_20 : decode cX11_init 20 = .ok (.putfield 17, 3) := by decide +kernel
theorem dX11_init_23 : decode cX11_init 23 = .ok (.aload_n 0, 1) := by decide +kernel
theorem dX11_init_24 : decode cX11_init 24 = .ok (.iconst 3, 1) := by decide +kernel
theorem dX11_init_25 : decode cX11_init 25 = .ok (.newarray .int, 2) := by decide +kernel
theorem dX11_init_27 : decode cX11_init 27 = .ok (.putfield 20, 3) := by decide +kernel
theorem dX11_init_30 : decode cX11_init 30 = .ok (.aload_n 0, 1) := by decide +kernel
theorem dX11_init_31 : decode cX11_init 31 = .ok (.new 23, 3) := by decide +kernel
theorem dX11_init_34 : decode cX11_init 34 = .ok (.dup, 1) := by decide +kernel
theorem dX11_init_35 : decode cX11_init 35 = .ok (.invokespecial 25, 3) := by decide +kernel
theorem dX11_init_38 : decode cX11_init 38 = .ok (.putfield 26, 3) := by decide +kernel
theorem dX11_init_41 : decode cX11_init 41 = .ok (.aload_n 0, 1) := by decide +kernel
theorem dX11_init_42 : decode cX11_init 42 = .ok (.new 23, 3) := by decide +kernel
theorem dX11_init_45 : decode cX11_init 45 = .ok (.dup, 1) := by decide +kernel
theorem dX11_init_46 : decode cX11_init 46 = .ok (.invokespecial 25, 3) := by decide +kernel
theorem dX11_init_49 : decode cX11_init 49 = .ok (.putfield 30, 3) := by decide +kernel
theorem dX11_init_52 : decode cX11_init 52 = .ok (.aload_n 0, 1) := by decide +kernel
theorem dX11_init_53 : decode cX11_init 53 = .ok (.new 33, 3) := by decide +kernel
theorem dX11_init_56 : decode cX11_init 56 = .ok (.dup, 1) := by decide +kernel
theorem dX11_init_57 : decode cX11_init 57 = .ok (.aload_n 0, 1) := by decide +kernel
theorem dX11_init_58 : decode cX11_init 58 = .ok (.getfield 9, 3) := by decide +kernel
theorem dX11_init_61 : decode cX11_init 61 = .ok (.aload_n 0, 1) := by decide +kernel
theorem dX11_init_62 : decode cX11_init 62 = .ok (.getfield 30, 3) := by decide +kernel
theorem dX11_init_65 : decode cX11_init 65 = .ok (.invokespecial 35, 3) := by decide +kernel
theorem dX11_init_68 : decode cX11_init 68 = .ok (.putfield 38, 3) := by decide +kernel
theorem dX11_init_71 : decode cX11_init 71 = .ok (.aload_n 0, 1) := by decide +kernel
theorem dX11_init_72 : decode cX11_init 72 = .ok (.new 42, 3) := by decide +kernel
theorem dX11_init_75 : decode cX11_init 75 = .ok (.dup, 1) := by decide +kernel
theorem dX11_init_76 : decode cX11_init 76 = .ok (.aload_n 0, 1) := by decide +kernel
theorem dX11_init_77 : decode cX11_init 77 = .ok (.getfield 26, 3) := by decide +kernel
theorem dX11_init_80 : decode cX11_init 80 = .ok (.invokespecial 44, 3) := by decide +kernel
theorem dX11_init_83 : decode cX11_init 83 = .ok (.putfield 47, 3) := by decide +kernel
theorem dX11_init_86 : decode cX11_init 86 = .ok (.aload_n 0, 1) := by decide +kernel
theorem dX11_init_87 : decode cX11_init 87 = .ok (.new 51, 3) := by decide +kernel
theorem dX11_init_90 : decode cX11_init 90 = .ok (.dup, 1) := by decide +kernel
theorem dX11_init_91 : decode cX11_init 91 = .ok (.aload_n 0, 1) := by decide +kernel
theorem dX11_init_92 : decode cX11_init 92 = .ok (.getfield 26, 3) := by decide +kernel
theorem dX11_init_95 : decode cX11_init 95 = .ok (.invokespecial 53, 3) := by decide +kernel
theorem dX11_init_98 : decode cX11_init 98 = .ok (.putfield 54, 3) := by decide +kernel
theorem dX11_init_101 : decode cX11_init 101 = .ok (.aload_n 0, 1) := by decide +kernel
theorem dX11_init_102 : decode cX11_init 102 = .ok (.new 58, 3) := by decide +kernel
theorem dX11_init_105 : decode cX11_init 105 = .ok (.dup, 1) := by decide +kernel
theorem dX11_init_106 : decode cX11_init 106 = .ok (.invokespecial 60, 3) := by decide +kernel
theorem dX11_init_109 : decode cX11_init 109 = .ok (.putfield 61, 3) := by decide +kernel
theorem dX11_init_112 : decode cX11_init 112 = .ok (.aload_n 0, 1) := by decide +kernel
theorem dX11_init_113 : decode cX11_init 113 = .ok (.iconst 0, 1) := by decide +kernel
theorem dX11_init_114 : decode cX11_init 114 = .ok (.putfield 65, 3) := by decide +kernel
theorem dX11_init_117 : decode cX11_init 117 = .ok (.aload_n 0, 1) := by decide +kernel
theorem dX11_init_118 : decode cX11_init 118 = .ok (.new 42, 3) := by decide +kernel
theorem dX11_init_121 : decode cX11_init 121 = .ok (.dup, 1) := by decide +kernel
theorem dX11_init_122 : decode cX11_init 122 = .ok (.aload_n 0, 1) := by decide +kernel
theorem dX11_init_123 : decode cX11_init 123 = .ok (.getfield 26, 3) := by decide +kernel
theorem dX11_init_126 : decode cX11_init 126 = .ok (.invokespecial 44, 3) := by decide +kernel
theorem dX11_init_129 : decode cX11_init 129 = .ok (.putfield 69, 3) := by decide +kernel
theorem dX11_init_132 : decode cX11_init 132 = .ok (.aload_n 0, 1) := by decide +kernel
theorem dX11_init_133 : decode cX11_init 133 = .ok (.new 51, 3) := by decide +kernel
theorem dX11_init_136 : decode cX11_init 136 = .ok (.dup, 1) := by decide +kernel
theorem dX11_init_137 : decode cX11_init 137 = .ok (.aload_n 0, 1) := by decide +kernel
theorem dX11_init_138 : decode cX11_init 138 = .ok (.getfield 26, 3) := by decide +kernel
theorem dX11_init_141 : decode cX11_init 141 = .ok (.invokespecial 53, 3) := by decide +kernel
theorem dX11_init_144 : decode cX11_init 144 = .ok (.putfield 72, 3) := by decide +kernel
theorem dX11_init_147 : decode cX11_init 147 = .ok (.aload_n 0, 1) := by decide +kernel
theorem dX11_init_148 : decode cX11_init 148 = .ok (.new 58, 3) := by decide +kernel
theorem dX11_init_151 : decode cX11_init 151 = .ok (.dup, 1) := by decide +kernel
theorem dX11_init_152 : decode cX11_init 152 = .ok (.invokespecial 60, 3) := by decide +kernel
theorem dX11_init_155 : decode cX11_init 155 = .ok (.putfield 75, 3) := by decide +kernel
theorem dX11_init_158 : decode cX11_init 158 = .ok (.aload_n 0, 1) := by decide +kernel
theorem dX11_init_159 : decode cX11_init 159 = .ok (.iconst 3, 1) := by decide +kernel
theorem dX11_init_160 : decode cX11_init 160 = .ok (.newarray .int, 2) := by decide +kernel
theorem dX11_init_162 : decode cX11_init 162 = .ok (.putfield 78, 3) := by decide +kernel
theorem dX11_init_165 : decode cX11_init 165 = .ok (.aload_n 0, 1) := by decide +kernel
theorem dX11_init_166 : decode cX11_init 166 = .ok (.new 42, 3) := by decide +kernel
theorem dX11_init_169 : decode cX11_init 169 = .ok (.dup, 1) := by decide +kernel
theorem dX11_init_170 : decode cX11_init 170 = .ok (.aload_n 0, 1) := by decide +kernel
theorem dX11_init_171 : decode cX11_init 171 = .ok (.getfield 26, 3) := by decide +kernel
theorem dX11_init_174 : decode cX11_init 174 = .ok (.invokespecial 44, 3) := by decide +kernel
theorem dX11_init_177 : decode cX11_init 177 = .ok (.putfield 81, 3) := by decide +kernel
theorem dX11_init_180 : decode cX11_init 180 = .ok (.aload_n 0, 1) := by decide +kernel
theorem dX11_init_181 : decode cX11_init 181 = .ok (.new 84, 3) := by decide +kernel
theorem dX11_init_184 : decode cX11_init 184 = .ok (.dup, 1) := by decide +kernel
theorem dX11_init_185 : decode cX11_init 185 = .ok (.aload_n 0, 1) := by decide +kernel
theorem dX11_init_186 : decode cX11_init 186 = .ok (.getfield 26, 3) := by decide +kernel
theorem dX11_init_189 : decode cX11_init 189 = .ok (.aload_n 0, 1) := by decide +kernel
theorem dX11_init_190 : decode cX11_init 190 = .ok (.getfield 47, 3) := by decide +kernel
theorem dX11_init_193 : decode cX11_init 193 = .ok (.invokespecial 86, 3) := by decide +kernel
theorem dX11_init_196 : decode cX11_init 196 = .ok (.putfield 89, 3) := by decide +kernel
theorem dX11_init_199 : decode cX11_init 199 = .ok (.aload_n 0, 1) := by decide +kernel
theorem dX11_init_200 : decode cX11_init 200 = .ok (.new 93, 3) := by decide +kernel
theorem dX11_init_203 : decode cX11_init 203 = .ok (.dup, 1) := by decide +kernel
theorem dX11_init_204 : decode cX11_init 204 = .ok (.aload_n 0, 1) := by decide +kernel
theorem dX11_init_205 : decode cX11_init 205 = .ok (.getfield 26, 3) := by decide +kernel
theorem dX11_init_208 : decode cX11_init 208 = .ok (.aload_n 0, 1) := by decide +kernel
theorem dX11_init_209 : decode cX11_init 209 = .ok (.getfield 47, 3) := by decide +kernel
theorem dX11_init_212 : decode cX11_init 212 = .ok (.aload_n 0, 1) := by decide +kernel
theorem dX11_init_213 : decode cX11_init 213 = .ok (.getfield 81, 3) := by decide +kernel
theorem dX11_init_216 : decode cX11_init 216 = .ok (.invokespecial 95, 3) := by decide +kernel
theorem dX11_init_219 : decode cX11_init 219 = .ok (.putfield 98, 3) := by decide +kernel
theorem dX11_init_222 : decode cX11_init 222 = .ok (.aload_n 0, 1) := by decide +kernel
theorem dX11_init_223 : decode cX11_init 223 = .ok (.new 102, 3) := by decide +kernel
theorem dX11_init_226 : decode cX11_init 226 = .ok (.dup, 1) := by decide +kernel
theorem dX11_init_227 : decode cX11_init 227 = .ok (.aload_n 0, 1) := by decide +kernel
theorem dX11_init_228 : decode cX11_init 228 = .ok (.getfield 26, 3) := by decide +kernel
theorem dX11_init_231 : decode cX11_init 231 = .ok (.aload_n 0, 1) := by decide +kernel
theorem dX11_init_232 : decode cX11_init 232 = .ok (.getfield 47, 3) := by decide +kernel
theorem dX11_init_235 : decode cX11_init 235 = .ok (.aload_n 0, 1) := by decide +kernel
theorem dX11_init_236 : decode cX11_init 236 = .ok (.getfield 81, 3) := by decide +kernel
theorem dX11_init_239 : decode cX11_init 239 = .ok (.aload_n 0, 1) := by decide +kernel
theorem dX11_init_240 : decode cX11_init 240 = .ok (.getfield 61, 3) := by decide +kernel
theorem dX11_init_243 : decode cX11_init 243 = .ok (.invokespecial 104, 3) := by decide +kernel
theorem dX11_init_246 : decode cX11_init 246 = .ok (.putfield 107, 3) := by decide +kernel
theorem dX11_init_249 : decode cX11_init 249 = .ok (.aload_n 0, 1) := by decide +kernel
theorem dX11_init_250 : decode cX11_init 250 = .ok (.new 111, 3) := by decide +kernel
theorem dX11_init_253 : decode cX11_init 253 = .ok (.dup, 1) := by decide +kernel
theorem dX11_init_254 : decode cX11_init 254 = .ok (.aload_n 0, 1) := by decide +kernel
theorem dX11_init_255 : decode cX11_init 255 = .ok (.getfield 26, 3) := by decide +kernel
theorem dX11_init_258 : decode cX11_init 258 = .ok (.aload_n 0, 1) := by decide +kernel
theorem dX11_init_259 : decode cX11_init 259 = .ok (.getfield 47, 3) := by decide +kernel
theorem dX11_init_262 : decode cX11_init 262 = .ok (.aload_n 0, 1) := by decide +kernel
theorem dX11_init_263 : decode cX11_init 263 = .ok (.getfield 81, 3) := by decide +kernel
theorem dX11_init_266 : decode cX11_init 266 = .ok (.invokespecial 113, 3) := by decide +kernel
theorem dX11_init_269 : decode cX11_init 269 = .ok (.putfield 114, 3) := by decide +kernel
theorem dX11_init_272 : decode cX11_init 272 = .ok (.aload_n 0, 1) := by decide +kernel
theorem dX11_init_273 : decode cX11_init 273 = .ok (.new 118, 3) := by decide +kernel
theorem dX11_init_276 : decode cX11_init 276 = .ok (.dup, 1) := by decide +kernel
theorem dX11_init_277 : decode cX11_init 277 = .ok (.invokespecial 120, 3) := by decide +kernel
theorem dX11_init_280 : decode cX11_init 280 = .ok (.putfield 121, 3) := by decide +kernel
theorem dX11_init_283 : decode cX11_init 283 = .ok (.return_, 1) := by decide +kernel
theorem dX11_feed_0 : decode cX11_feed 0 = .ok (.aload_n 0, 1) := by decide +kernel
theorem dX11_feed_1 : decode cX11_feed 1 = .ok (.getfield 13, 3) := by decide +kernel
theorem dX11_feed_4 : decode cX11_feed 4 = .ok (.bipush 20, 2) := by decide +kernel
theorem dX11_feed_6 : decode cX11_feed 6 = .ok (.iadd, 1) := by decide +kernel
theorem dX11_feed_7 : decode cX11_feed 7 = .ok (.sipush 700, 3) := by decide +kernel
theorem dX11_feed_10 : decode cX11_feed 10 = .ok (.if_icmp .le 5, 3) := by decide +kernel
theorem dX11_feed_13 : decode cX11_feed 13 = .ok (.iconst (-1), 1) := by decide +kernel
theorem dX11_feed_14 : decode cX11_feed 14 = .ok (.ireturn, 1) := by decide +kernel
theorem dX11_feed_15 : decode cX11_feed 15 = .ok (.aload_n 0, 1) := by decide +kernel
theorem dX11_feed_16 : decode cX11_feed 16 = .ok (.iload_n 1, 1) := by decide +kernel
theorem dX11_feed_17 : decode cX11_feed 17 = .ok (.invokevirtual 125, 3) := by decide +kernel
theorem dX11_feed_20 : decode cX11_feed 20 = .ok (.aload_n 0, 1) := by decide +kernel
theorem dX11_feed_21 : decode cX11_feed 21 = .ok (.iload_n 2, 1) := by decide +kernel
theorem dX11_feed_22 : decode cX11_feed 22 = .ok (.invokevirtual 125, 3) := by decide +kernel
theorem dX11_feed_25 : decode cX11_feed 25 = .ok (.aload_n 0, 1) := by decide +kernel
theorem dX11_feed_26 : decode cX11_feed 26 = .ok (.iload_n 3, 1) := by decide +kernel
theorem dX11_feed_27 : decode cX11_feed 27 = .ok (.invokevirtual 125, 3) := by decide +kernel
theorem dX11_feed_30 : decode cX11_feed 30 = .ok (.aload_n 0, 1) := by decide +kernel
theorem dX11_feed_31 : decode cX11_feed 31 = .ok (.iload 4, 2) := by decide +kernel
theorem dX11_feed_33 : decode cX11_feed 33 = .ok (.invokevirtual 125, 3) := by decide +kernel
theorem dX11_feed_36 : decode cX11_feed 36 = .ok (.aload_n 0, 1) := by decide +kernel
theorem dX11_feed_37 : decode cX11_feed 37 = .ok (.iload 5, 2) := by decide +kernel
theorem dX11_feed_39 : decode cX11_feed 39 = .ok (.invokevirtual 125, 3) := by decide +kernel
theorem dX11_feed_42 : decode cX11_feed 42 = .ok (.aload_n 0, 1) := by decide +kernel
theorem dX11_feed_43 : decode cX11_feed 43 = .ok (.getfield 13, 3) := by decide +kernel
theorem dX11_feed_46 : decode cX11_feed 46 = .ok (.ireturn, 1) := by decide +kernel
theorem dX11_putNumber_0 : decode cX11_putNumber 0 = .ok (.bipush 24, 2) := by decide +kernel
theorem dX11_putNumber_2 : decode cX11_putNumber 2 = .ok (.istore_n 2, 1) := by decide +kernel
theorem dX11_putNumber_3 : decode cX11_putNumber 3 = .ok (.iload_n 2, 1) := by decide +kernel
theorem dX11_putNumber_4 : decode cX11_putNumber 4 = .ok (.ifCond .lt 45, 3) := by decide +kernel
theorem dX11_putNumber_7 : decode cX11_putNumber 7 = .ok (.aload_n 0, 1) := by decide +kernel
theorem dX11_putNumber_8 : decode cX11_putNumber 8 = .ok (.getfield 13, 3) := by decide +kernel
theorem dX11_putNumber_11 : decode cX11_putNumber 11 = .ok (.sipush 700, 3) := by decide +kernel
theorem dX11_putNumber_14 : decode cX11_putNumber 14 = .ok (.if_icmp .ge 29, 3) := by decide +kernel
theorem dX11_putNumber_17 : decode cX11_putNumber 17 = .ok (.aload_n 0, 1) := by decide +kernel
theorem dX11_putNumber_18 : decode cX11_putNumber 18 = .ok (.getfield 9, 3) := by decide +kernel
theorem dX11_putNumber_21 : decode cX11_putNumber 21 = .ok (.aload_n 0, 1) := by decide +kernel
theorem dX11_putNumber_22 : decode cX11_putNumber 22 = .ok (.getfield 13, 3) := by decide +kernel
theorem dX11_putNumber_25 : decode cX11_putNumber 25 = .ok (.iload_n 1, 1) := by decide +kernel
theorem dX11_putNumber_26 : decode cX11_putNumber 26 = .ok (.iload_n 2, 1) := by decide +kernel
theorem dX11_putNumber_27 : decode cX11_putNumber 27 = .ok (.iushr, 1) := by decide +kernel
theorem dX11_putNumber_28 : decode cX11_putNumber 28 = .ok (.sipush 255, 3) := by decide +kernel
theorem dX11_putNumber_31 : decode cX11_putNumber 31 = .ok (.iand, 1) := by decide +kernel
theorem dX11_putNumber_32 : decode cX11_putNumber 32 = .ok (.iastore, 1) := by decide +kernel
theorem dX11_putNumber_33 : decode cX11_putNumber 33 = .ok (.aload_n 0, 1) := by decide +kernel
theorem dX11_putNumber_34 : decode cX11_putNumber 34 = .ok (.dup, 1) := by decide +kernel
theorem dX11_putNumber_35 : decode cX11_putNumber 35 = .ok (.getfield 13, 3) := by decide +kernel
theorem dX11_putNumber_38 : decode cX11_putNumber 38 = .ok (.iconst 1, 1) := by decide +kernel
theorem dX11_putNumber_39 : decode cX11_putNumber 39 = .ok (.iadd, 1) := by decide +kernel
theorem dX11_putNumber_40 : decode cX11_putNumber 40 = .ok (.putfield 13, 3) := by decide +kernel
theorem dX11_putNumber_43 : decode cX11_putNumber 43 = .ok (.iinc 2 (-8), 3) := by decide +kernel
theorem dX11_putNumber_46 : decode cX11_putNumber 46 = .ok (.goto (-43), 3) := by decide +kernel
theorem dX11_putNumber_49 : decode cX11_putNumber 49 = .ok (.return_, 1) := by decide +kernel
theorem dX11_link_0 : decode cX11_link 0 = .ok (.iload_n 1, 1) := by decide +kernel
theorem dX11_link_1 : decode cX11_link 1 = .ok (.ifCond .lt 11, 3) := by decide +kernel
theorem dX11_link_4 : decode cX11_link 4 = .ok (.iload_n 1, 1) := by decide +kernel
theorem dX11_link_5 : decode cX11_link 5 = .ok (.aload_n 0, 1) := by decide +kernel
theorem dX11_link_6 : decode cX11_link 6 = .ok (.getfield 13, 3) := by decide +kernel
theorem dX11_link_9 : decode cX11_link 9 = .ok (.if_icmp .le 11, 3) := by decide +kernel
theorem dX11_link_12 : decode cX11_link 12 = .ok (.new 129, 3) := by decide +kernel
theorem dX11_link_15 : decode cX11_link 15 = .ok (.dup, 1) := by decide +kernel
theorem dX11_link_16 : decode cX11_link 16 = .ok (.invokespecial 131, 3) := by decide +kernel
theorem dX11_link_19 : decode cX11_link 19 = .ok (.athrow, 1) := by decide +kernel
theorem dX11_link_20 : decode cX11_link 20 = .ok (.aload_n 0, 1) := by decide +kernel
theorem dX11_link_21 : decode cX11_link 21 = .ok (.getfield 38, 3) := by decide +kernel
theorem dX11_link_24 : decode cX11_link 24 = .ok (.iload_n 1, 1) := by decide +kernel
theorem dX11_link_25 : decode cX11_link 25 = .ok (.invokevirtual 132, 3) := by decide +kernel
theorem dX11_link_28 : decode cX11_link 28 = .ok (.istore_n 2, 1) := by decide +kernel
theorem dX11_link_29 : decode cX11_link 29 = .ok (.aload_n 0, 1) := by decide +kernel
theorem dX11_link_30 : decode cX11_link 30 = .ok (.iconst 0, 1) := by decide +kernel
theorem dX11_link_31 : decode cX11_link 31 = .ok (.putfield 13, 3) := by decide +kernel
theorem dX11_link_34 : decode cX11_link 34 = .ok (.iload_n 2, 1) := by decide +kernel
theorem dX11_link_35 : decode cX11_link 35 = .ok (.ifCond .eq 26, 3) := by decide +kernel
theorem dX11_link_38 : decode cX11_link 38 = .ok (.aload_n 0, 1) := by decide +kernel
theorem dX11_link_39 : decode cX11_link 39 = .ok (.aload_n 0, 1) := by decide +kernel
theorem dX11_link_40 : decode cX11_link 40 = .ok (.getfield 38, 3) := by decide +kernel
theorem dX11_link_43 : decode cX11_link 43 = .ok (.invokevirtual 136, 3) := by decide +kernel
theorem dX11_link_46 : decode cX11_link 46 = .ok (.putfield 17, 3) := by decide +kernel
theorem dX11_link_49 : decode cX11_link 49 = .ok (.aload_n 0, 1) := by decide +kernel
theorem dX11_link_50 : decode cX11_link 50 = .ok (.getfield 20, 3) := by decide +kernel
theorem dX11_link_53 : decode cX11_link 53 = .ok (.iconst 0, 1) := by decide +kernel
theorem dX11_link_54 : decode cX11_link 54 = .ok (.dup2, 1) := by decide +kernel
theorem dX11_link_55 : decode cX11_link 55 = .ok (.iaload, 1) := by decide +kernel
theorem dX11_link_56 : decode cX11_link 56 = .ok (.iconst 1, 1) := by decide +kernel
theorem dX11_link_57 : decode cX11_link 57 = .ok (.iadd, 1) := by decide +kernel
theorem dX11_link_58 : decode cX11_link 58 = .ok (.iastore, 1) := by decide +kernel
theorem dX11_link_59 : decode cX11_link 59 = .ok (.iload_n 2, 1) := by decide +kernel
theorem dX11_link_60 : decode cX11_link 60 = .ok (.ireturn, 1) := by decide +kernel
theorem dX11_link_61 : decode cX11_link 61 = .ok (.aload_n 0, 1) := by decide +kernel
theorem dX11_link_62 : decode cX11_link 62 = .ok (.iconst (-1), 1) := by decide +kernel
theorem dX11_link_63 : decode cX11_link 63 = .ok (.putfield 17, 3) := by decide +kernel
theorem dX11_link_66 : decode cX11_link 66 = .ok (.aload_n 0, 1) := by decide +kernel
theorem dX11_link_67 : decode cX11_link 67 = .ok (.getfield 26, 3) := by decide +kernel
theorem dX11_link_70 : decode cX11_link 70 = .ok (.aload_n 0, 1) := by decide +kernel
theorem dX11_link_71 : decode cX11_link 71 = .ok (.getfield 30, 3) := by decide +kernel
theorem dX11_link_74 : decode cX11_link 74 = .ok (.invokevirtual 140, 3) := by decide +kernel
theorem dX11_link_77 : decode cX11_link 77 = .ok (.aload_n 0, 1) := by decide +kernel
theorem dX11_link_78 : decode cX11_link 78 = .ok (.getfield 47, 3) := by decide +kernel
theorem dX11_link_81 : decode cX11_link 81 = .ok (.invokevirtual 143, 3) := by decide +kernel
theorem dX11_link_84 : decode cX11_link 84 = .ok (.aload_n 0, 1) := by decide +kernel
theorem dX11_link_85 : decode cX11_link 85 = .ok (.getfield 54, 3) := by decide +kernel
theorem dX11_link_88 : decode cX11_link 88 = .ok (.invokevirtual 146, 3) := by decide +kernel
theorem dX11_link_91 : decode cX11_link 91 = .ok (.aload_n 0, 1) := by decide +kernel
theorem dX11_link_92 : decode cX11_link 92 = .ok (.getfield 61, 3) := by decide +kernel
theorem dX11_link_95 : decode cX11_link 95 = .ok (.invokevirtual 149, 3) := by decide +kernel
theorem dX11_link_98 : decode cX11_link 98 = .ok (.aload_n 0, 1) := by decide +kernel
theorem dX11_link_99 : decode cX11_link 99 = .ok (.iconst 0, 1) := by decide +kernel
theorem dX11_link_100 : decode cX11_link 100 = .ok (.putfield 65, 3) := by decide +kernel
theorem dX11_link_103 : decode cX11_link 103 = .ok (.iconst 0, 1) := by decide +kernel
theorem dX11_link_104 : decode cX11_link 104 = .ok (.ireturn, 1) := by decide +kernel
theorem dX11_fault_0 : decode cX11_fault 0 = .ok (.aload_n 0, 1) := by decide +kernel
theorem dX11_fault_1 : decode cX11_fault 1 = .ok (.getfield 17, 3) := by decide +kernel
theorem dX11_fault_4 : decode cX11_fault 4 = .ok (.ireturn, 1) := by decide +kernel
theorem dX11_count_0 : decode cX11_count 0 = .ok (.iload_n 1, 1) := by decide +kernel
theorem dX11_count_1 : decode cX11_count 1 = .ok (.tableswitch 231 0 17 #[87, 95, 103, 111, 119, 127, 138, 146, 154, 162, 173, 181, 189, 197, 205, 210, 217, 224], 87) := by decide +kernel
theorem dX11_count_88 : decode cX11_count 88 = .ok (.aload_n 0, 1) := by decide +kernel
theorem dX11_count_89 : decode cX11_count 89 = .ok (.getfield 26, 3) := by decide +kernel
theorem dX11_count_92 : decode cX11_count 92 = .ok (.getfield 150, 3) := by decide +kernel
theorem dX11_count_95 : decode cX11_count 95 = .ok (.ireturn, 1) := by decide +kernel
theorem dX11_count_96 : decode cX11_count 96 = .ok (.aload_n 0, 1) := by decide +kernel
theorem dX11_count_97 : decode cX11_count 97 = .ok (.getfield 26, 3) := by decide +kernel
theorem dX11_count_100 : decode cX11_count 100 = .ok (.getfield 153, 3) := by decide +kernel
theorem dX11_count_103 : decode cX11_count 103 = .ok (.ireturn, 1) := by decide +kernel
theorem dX11_count_104 : decode cX11_count 104 = .ok (.aload_n 0, 1) := by decide +kernel
theorem dX11_count_105 : decode cX11_count 105 = .ok (.getfield 47, 3) := by decide +kernel
theorem dX11_count_108 : decode cX11_count 108 = .ok (.getfield 156, 3) := by decide +kernel
theorem dX11_count_111 : decode cX11_count 111 = .ok (.ireturn, 1) := by decide +kernel
theorem dX11_count_112 : decode cX11_count 112 = .ok (.aload_n 0, 1) := by decide +kernel
theorem dX11_count_113 : decode cX11_count 113 = .ok (.getfield 47, 3) := by decide +kernel
theorem dX11_count_116 : decode cX11_count 116 = .ok (.getfield 159, 3) := by decide +kernel
theorem dX11_count_119 : decode cX11_count 119 = .ok (.ireturn, 1) := by decide +kernel
theorem dX11_count_120 : decode cX11_count 120 = .ok (.aload_n 0, 1) := by decide +kernel
theorem dX11_count_121 : decode cX11_count 121 = .ok (.getfield 47, 3) := by decide +kernel
theorem dX11_count_124 : decode cX11_count 124 = .ok (.invokevirtual 162, 3) := by decide +kernel
theorem dX11_count_127 : decode cX11_count 127 = .ok (.ireturn, 1) := by decide +kernel
theorem dX11_count_128 : decode cX11_count 128 = .ok (.aload_n 0, 1) := by decide +kernel
theorem dX11_count_129 : decode cX11_count 129 = .ok (.getfield 47, 3) := by decide +kernel
theorem dX11_count_132 : decode cX11_count 132 = .ok (.getfield 165, 3) := by decide +kernel
theorem dX11_count_135 : decode cX11_count 135 = .ok (.bipush 12, 2) := by decide +kernel
theorem dX11_count_137 : decode cX11_count 137 = .ok (.iaload, 1) := by decide +kernel
theorem dX11_count_138 : decode cX11_count 138 = .ok (.ireturn, 1) := by decide +kernel
theorem dX11_count_139 : decode cX11_count 139 = .ok (.aload_n 0, 1) := by decide +kernel
theorem dX11_count_140 : decode cX11_count 140 = .ok (.getfield 47, 3) := by decide +kernel
theorem dX11_count_143 : decode cX11_count 143 = .ok (.getfield 168, 3) := by decide +kernel
theorem dX11_count_146 : decode cX11_count 146 = .ok (.ireturn, 1) := by decide +kernel
theorem dX11_count_147 : decode cX11_count 147 = .ok (.aload_n 0, 1) := by decide +kernel
theorem dX11_count_148 : decode cX11_count 148 = .ok (.getfield 47, 3) := by decide +kernel
theorem dX11_count_151 : decode cX11_count 151 = .ok (.getfield 171, 3) := by decide +kernel
theorem dX11_count_154 : decode cX11_count 154 = .ok (.ireturn, 1) := by decide +kernel
theorem dX11_count_155 : decode cX11_count 155 = .ok (.aload_n 0, 1) := by decide +kernel
theorem dX11_count_156 : decode cX11_count 156 = .ok (.getfield 47, 3) := by decide +kernel
theorem dX11_count_159 : decode cX11_count 159 = .ok (.invokevirtual 174, 3) := by decide +kernel
theorem dX11_count_162 : decode cX11_count 162 = .ok (.ireturn, 1) := by decide +kernel
theorem dX11_count_163 : decode cX11_count 163 = .ok (.aload_n 0, 1) := by decide +kernel
theorem dX11_count_164 : decode cX11_count 164 = .ok (.getfield 47, 3) := by decide +kernel
theorem dX11_count_167 : decode cX11_count 167 = .ok (.getfield 177, 3) := by decide +kernel
theorem dX11_count_170 : decode cX11_count 170 = .ok (.bipush 12, 2) := by decide +kernel
theorem dX11_count_172 : decode cX11_count 172 = .ok (.iaload, 1) := by decide +kernel
theorem dX11_count_173 : decode cX11_count 173 = .ok (.ireturn, 1) := by decide +kernel
theorem dX11_count_174 : decode cX11_count 174 = .ok (.aload_n 0, 1) := by decide +kernel
theorem dX11_count_175 : decode cX11_count 175 = .ok (.getfield 47, 3) := by decide +kernel
theorem dX11_count_178 : decode cX11_count 178 = .ok (.invokevirtual 180, 3) := by decide +kernel
theorem dX11_count_181 : decode cX11_count 181 = .ok (.ireturn, 1) := by decide +kernel
theorem dX11_count_182 : decode cX11_count 182 = .ok (.aload_n 0, 1) := by decide +kernel
theorem dX11_count_183 : decode cX11_count 183 = .ok (.getfield 47, 3) := by decide +kernel
theorem dX11_count_186 : decode cX11_count 186 = .ok (.getfield 183, 3) := by decide +kernel
theorem dX11_count_189 : decode cX11_count 189 = .ok (.ireturn, 1) := by decide +kernel
theorem dX11_count_190 : decode cX11_count 190 = .ok (.aload_n 0, 1) := by decide +kernel
theorem dX11_count_191 : decode cX11_count 191 = .ok (.getfield 54, 3) := by decide +kernel
theorem dX11_count_194 : decode cX11_count 194 = .ok (.invokevirtual 186, 3) := by decide +kernel
theorem dX11_count_197 : decode cX11_count 197 = .ok (.ireturn, 1) := by decide +kernel
theorem dX11_count_198 : decode cX11_count 198 = .ok (.aload_n 0, 1) := by decide +kernel
theorem dX11_count_199 : decode cX11_count 199 = .ok (.getfield 61, 3) := by decide +kernel
theorem dX11_count_202 : decode cX11_count 202 = .ok (.getfield 189, 3) := by decide +kernel
theorem dX11_count_205 : decode cX11_count 205 = .ok (.ireturn, 1) := by decide +kernel
theorem dX11_count_206 : decode cX11_count 206 = .ok (.aload_n 0, 1) := by decide +kernel
theorem dX11_count_207 : decode cX11_count 207 = .ok (.getfield 13, 3) := by decide +kernel
theorem dX11_count_210 : decode cX11_count 210 = .ok (.ireturn, 1) := by decide +kernel
theorem dX11_count_211 : decode cX11_count 211 = .ok (.aload_n 0, 1) := by decide +kernel
theorem dX11_count_212 : decode cX11_count 212 = .ok (.getfield 20, 3) := by decide +kernel
theorem dX11_count_215 : decode cX11_count 215 = .ok (.iconst 0, 1) := by decide +kernel
theorem dX11_count_216 : decode cX11_count 216 = .ok (.iaload, 1) := by decide +kernel
theorem dX11_count_217 : decode cX11_count 217 = .ok (.ireturn, 1) := by decide +kernel
theorem dX11_count_218 : decode cX11_count 218 = .ok (.aload_n 0, 1) := by decide +kernel
theorem dX11_count_219 : decode cX11_count 219 = .ok (.getfield 20, 3) := by decide +kernel
theorem dX11_count_222 : decode cX11_count 222 = .ok (.iconst 1, 1) := by decide +kernel
theorem dX11_count_223 : decode cX11_count 223 = .ok (.iaload, 1) := by decide +kernel
theorem dX11_count_224 : decode cX11_count 224 = .ok (.ireturn, 1) := by decide +kernel
theorem dX11_count_225 : decode cX11_count 225 = .ok (.aload_n 0, 1) := by decide +kernel
theorem dX11_count_226 : decode cX11_count 226 = .ok (.getfield 20, 3) := by decide +kernel
theorem dX11_count_229 : decode cX11_count 229 = .ok (.iconst 2, 1) := by decide +kernel
theorem dX11_count_230 : decode cX11_count 230 = .ok (.iaload, 1) := by decide +kernel
theorem dX11_count_231 : decode cX11_count 231 = .ok (.ireturn, 1) := by decide +kernel
theorem dX11_count_232 : decode cX11_count 232 = .ok (.new 192, 3) := by decide +kernel
theorem dX11_count_235 : decode cX11_count 235 = .ok (.dup, 1) := by decide +kernel
theorem dX11_count_236 : decode cX11_count 236 = .ok (.invokespecial 194, 3) := by decide +kernel
theorem dX11_count_239 : decode cX11_count 239 = .ok (.athrow, 1) := by decide +kernel
theorem dX11_of_0 : decode cX11_of 0 = .ok (.aload_n 0, 1) := by decide +kernel
theorem dX11_of_1 : decode cX11_of 1 = .ok (.iload_n 1, 1) := by decide +kernel
theorem dX11_of_2 : decode cX11_of 2 = .ok (.invokevirtual 195, 3) := by decide +kernel
theorem dX11_of_5 : decode cX11_of 5 = .ok (.iload_n 2, 1) := by decide +kernel
theorem dX11_of_6 : decode cX11_of 6 = .ok (.tableswitch 184 0 9 #[54, 82, 99, 116, 126, 136, 146, 156, 166, 175], 54) := by decide +kernel
theorem dX11_of_60 : decode cX11_of 60 = .ok (.aload_n 0, 1) := by decide +kernel
theorem dX11_of_61 : decode cX11_of 61 = .ok (.getfield 26, 3) := by decide +kernel
theorem dX11_of_64 : decode cX11_of 64 = .ok (.getfield 198, 3) := by decide +kernel
theorem dX11_of_67 : decode cX11_of 67 = .ok (.iload_n 1, 1) := by decide +kernel
theorem dX11_of_68 : decode cX11_of 68 = .ok (.iaload, 1) := by decide +kernel
theorem dX11_of_69 : decode cX11_of 69 = .ok (.bipush 12, 2) := by decide +kernel
theorem dX11_of_71 : decode cX11_of 71 = .ok (.if_icmp .ne 7, 3) := by decide +kernel
theorem dX11_of_74 : decode cX11_of 74 = .ok (.iconst (-1), 1) := by decide +kernel
theorem dX11_of_75 : decode cX11_of 75 = .ok (.goto 12, 3) := by decide +kernel
theorem dX11_of_78 : decode cX11_of 78 = .ok (.aload_n 0, 1) := by decide +kernel
theorem dX11_of_79 : decode cX11_of 79 = .ok (.getfield 26, 3) := by decide +kernel
theorem dX11_of_82 : decode cX11_of 82 = .ok (.getfield 198, 3) := by decide +kernel
theorem dX11_of_85 : decode cX11_of 85 = .ok (.iload_n 1, 1) := by decide +kernel
theorem dX11_of_86 : decode cX11_of 86 = .ok (.iaload, 1) := by decide +kernel
theorem dX11_of_87 : decode cX11_of 87 = .ok (.ireturn, 1) := by decide +kernel
theorem dX11_of_88 : decode cX11_of 88 = .ok (.aload_n 0, 1) := by decide +kernel
theorem dX11_of_89 : decode cX11_of 89 = .ok (.getfield 26, 3) := by decide +kernel
theorem dX11_of_92 : decode cX11_of 92 = .ok (.iload_n 1, 1) := by decide +kernel
theorem dX11_of_93 : decode cX11_of 93 = .ok (.invokevirtual 201, 3) := by decide +kernel
theorem dX11_of_96 : decode cX11_of 96 = .ok (.ifCond .eq 7, 3) := by decide +kernel
theorem dX11_of_99 : decode cX11_of 99 = .ok (.iconst 1, 1) := by decide +kernel
theorem dX11_of_100 : decode cX11_of 100 = .ok (.goto 4, 3) := by decide +kernel
theorem dX11_of_103 : decode cX11_of 103 = .ok (.iconst 0, 1) := by decide +kernel
theorem dX11_of_104 : decode cX11_of 104 = .ok (.ireturn, 1) := by decide +kernel
theorem dX11_of_105 : decode cX11_of 105 = .ok (.aload_n 0, 1) := by decide +kernel
theorem dX11_of_106 : decode cX11_of 106 = .ok (.getfield 47, 3) := by decide +kernel
theorem dX11_of_109 : decode cX11_of 109 = .ok (.iload_n 1, 1) := by decide +kernel
theorem dX11_of_110 : decode cX11_of 110 = .ok (.invokevirtual 205, 3) := by decide +kernel
theorem dX11_of_113 : decode cX11_of 113 = .ok (.ifCond .eq 7, 3) := by decide +kernel
theorem dX11_of_116 : decode cX11_of 116 = .ok (.iconst 1, 1) := by decide +kernel
theorem dX11_of_117 : decode cX11_of 117 = .ok (.goto 4, 3) := by decide +kernel
theorem dX11_of_120 : decode cX11_of 120 = .ok (.iconst 0, 1) := by decide +kernel
theorem dX11_of_121 : decode cX11_of 121 = .ok (.ireturn, 1) := by decide +kernel
theorem dX11_of_122 : decode cX11_of 122 = .ok (.aload_n 0, 1) := by decide +kernel
theorem dX11_of_123 : decode cX11_of 123 = .ok (.getfield 47, 3) := by decide +kernel
theorem dX11_of_126 : decode cX11_of 126 = .ok (.getfield 208, 3) := by decide +kernel
theorem dX11_of_129 : decode cX11_of 129 = .ok (.iload_n 1, 1) := by decide +kernel
theorem dX11_of_130 : decode cX11_of 130 = .ok (.iaload, 1) := by decide +kernel
theorem dX11_of_131 : decode cX11_of 131 = .ok (.ireturn, 1) := by decide +kernel
theorem dX11_of_132 : decode cX11_of 132 = .ok (.aload_n 0, 1) := by decide +kernel
theorem dX11_of_133 : decode cX11_of 133 = .ok (.getfield 47, 3) := by decide +kernel
theorem dX11_of_136 : decode cX11_of 136 = .ok (.getfield 211, 3) := by decide +kernel
theorem dX11_of_139 : decode cX11_of 139 = .ok (.iload_n 1, 1) := by decide +kernel
theorem dX11_of_140 : decode cX11_of 140 = .ok (.iaload, 1) := by decide +kernel
theorem dX11_of_141 : decode cX11_of 141 = .ok (.ireturn, 1) := by decide +kernel
theorem dX11_of_142 : decode cX11_of 142 = .ok (.aload_n 0, 1) := by decide +kernel
theorem dX11_of_143 : decode cX11_of 143 = .ok (.getfield 47, 3) := by decide +kernel
theorem dX11_of_146 : decode cX11_of 146 = .ok (.getfield 214, 3) := by decide +kernel
theorem dX11_of_149 : decode cX11_of 149 = .ok (.iload_n 1, 1) := by decide +kernel
theorem dX11_of_150 : decode cX11_of 150 = .ok (.iaload, 1) := by decide +kernel
theorem dX11_of_151 : decode cX11_of 151 = .ok (.ireturn, 1) := by decide +kernel
theorem dX11_of_152 : decode cX11_of 152 = .ok (.aload_n 0, 1) := by decide +kernel
theorem dX11_of_153 : decode cX11_of 153 = .ok (.getfield 47, 3) := by decide +kernel
theorem dX11_of_156 : decode cX11_of 156 = .ok (.getfield 177, 3) := by decide +kernel
theorem dX11_of_159 : decode cX11_of 159 = .ok (.iload_n 1, 1) := by decide +kernel
theorem dX11_of_160 : decode cX11_of 160 = .ok (.iaload, 1) := by decide +kernel
theorem dX11_of_161 : decode cX11_of 161 = .ok (.ireturn, 1) := by decide +kernel
theorem dX11_of_162 : decode cX11_of 162 = .ok (.aload_n 0, 1) := by decide +kernel
theorem dX11_of_163 : decode cX11_of 163 = .ok (.getfield 47, 3) := by decide +kernel
theorem dX11_of_166 : decode cX11_of 166 = .ok (.getfield 217, 3) := by decide +kernel
theorem dX11_of_169 : decode cX11_of 169 = .ok (.iload_n 1, 1) := by decide +kernel
theorem dX11_of_170 : decode cX11_of 170 = .ok (.iaload, 1) := by decide +kernel
theorem dX11_of_171 : decode cX11_of 171 = .ok (.ireturn, 1) := by decide +kernel
theorem dX11_of_172 : decode cX11_of 172 = .ok (.aload_n 0, 1) := by decide +kernel
theorem dX11_of_173 : decode cX11_of 173 = .ok (.getfield 47, 3) := by decide +kernel
theorem dX11_of_176 : decode cX11_of 176 = .ok (.iload_n 1, 1) := by decide +kernel
theorem dX11_of_177 : decode cX11_of 177 = .ok (.invokevirtual 220, 3) := by decide +kernel
theorem dX11_of_180 : decode cX11_of 180 = .ok (.ireturn, 1) := by decide +kernel
theorem dX11_of_181 : decode cX11_of 181 = .ok (.aload_n 0, 1) := by decide +kernel
theorem dX11_of_182 : decode cX11_of 182 = .ok (.getfield 47, 3) := by decide +kernel
theorem dX11_of_185 : decode cX11_of 185 = .ok (.iload_n 1, 1) := by decide +kernel
theorem dX11_of_186 : decode cX11_of 186 = .ok (.invokevirtual 223, 3) := by decide +kernel
theorem dX11_of_189 : decode cX11_of 189 = .ok (.ireturn, 1) := by decide +kernel
theorem dX11_of_190 : decode cX11_of 190 = .ok (.new 192, 3) := by decide +kernel
theorem dX11_of_193 : decode cX11_of 193 = .ok (.dup, 1) := by decide +kernel
theorem dX11_of_194 : decode cX11_of 194 = .ok (.invokespecial 194, 3) := by decide +kernel
theorem dX11_of_197 : decode cX11_of 197 = .ok (.athrow, 1) := by decide +kernel
theorem dX11_curve_0 : decode cX11_curve 0 = .ok (.aload_n 0, 1) := by decide +kernel
theorem dX11_curve_1 : decode cX11_curve 1 = .ok (.iload_n 1, 1) := by decide +kernel
theorem dX11_curve_2 : decode cX11_curve 2 = .ok (.invokevirtual 195, 3) := by decide +kernel
theorem dX11_curve_5 : decode cX11_curve 5 = .ok (.iload_n 2, 1) := by decide +kernel
theorem dX11_curve_6 : decode cX11_curve 6 = .ok (.invokestatic 226, 3) := by decide +kernel
theorem dX11_curve_9 : decode cX11_curve 9 = .ok (.ifCond .eq 15, 3) := by decide +kernel
theorem dX11_curve_12 : decode cX11_curve 12 = .ok (.aload_n 0, 1) := by decide +kernel
theorem dX11_curve_13 : decode cX11_curve 13 = .ok (.getfield 47, 3) := by decide +kernel
theorem dX11_curve_16 : decode cX11_curve 16 = .ok (.iload_n 1, 1) := by decide +kernel
theorem dX11_curve_17 : decode cX11_curve 17 = .ok (.iload_n 2, 1) := by decide +kernel
theorem dX11_curve_18 : decode cX11_curve 18 = .ok (.invokevirtual 229, 3) := by decide +kernel
theorem dX11_curve_21 : decode cX11_curve 21 = .ok (.ifCond .ne 11, 3) := by decide +kernel
theorem dX11_curve_24 : decode cX11_curve 24 = .ok (.new 192, 3) := by decide +kernel
theorem dX11_curve_27 : decode cX11_curve 27 = .ok (.dup, 1) := by decide +kernel
theorem dX11_curve_28 : decode cX11_curve 28 = .ok (.invokespecial 194, 3) := by decide +kernel
theorem dX11_curve_31 : decode cX11_curve 31 = .ok (.athrow, 1) := by decide +kernel
theorem dX11_curve_32 : decode cX11_curve 32 = .ok (.iload_n 1, 1) := by decide +kernel
theorem dX11_curve_33 : decode cX11_curve 33 = .ok (.iconst 3, 1) := by decide +kernel
theorem dX11_curve_34 : decode cX11_curve 34 = .ok (.imul, 1) := by decide +kernel
theorem dX11_curve_35 : decode cX11_curve 35 = .ok (.iload_n 2, 1) := by decide +kernel
theorem dX11_curve_36 : decode cX11_curve 36 = .ok (.iadd, 1) := by decide +kernel
theorem dX11_curve_37 : decode cX11_curve 37 = .ok (.istore 4, 2) := by decide +kernel
theorem dX11_curve_39 : decode cX11_curve 39 = .ok (.iload_n 3, 1) := by decide +kernel
theorem dX11_curve_40 : decode cX11_curve 40 = .ok (.tableswitch 70 0 2 #[28, 42, 56], 28) := by decide +kernel
theorem dX11_curve_68 : decode cX11_curve 68 = .ok (.aload_n 0, 1) := by decide +kernel
theorem dX11_curve_69 : decode cX11_curve 69 = .ok (.getfield 47, 3) := by decide +kernel
theorem dX11_curve_72 : decode cX11_curve 72 = .ok (.getfield 233, 3) := by decide +kernel
theorem dX11_curve_75 : decode cX11_curve 75 = .ok (.getfield 237, 3) := by decide +kernel
theorem dX11_curve_78 : decode cX11_curve 78 = .ok (.iload 4, 2) := by decide +kernel
theorem dX11_curve_80 : decode cX11_curve 80 = .ok (.iaload, 1) := by decide +kernel
theorem dX11_curve_81 : decode cX11_curve 81 = .ok (.ireturn, 1) := by decide +kernel
theorem dX11_curve_82 : decode cX11_curve 82 = .ok (.aload_n 0, 1) := by decide +kernel
theorem dX11_curve_83 : decode cX11_curve 83 = .ok (.getfield 47, 3) := by decide +kernel
theorem dX11_curve_86 : decode cX11_curve 86 = .ok (.getfield 233, 3) := by decide +kernel
theorem dX11_curve_89 : decode cX11_curve 89 = .ok (.getfield 242, 3) := by decide +kernel
theorem dX11_curve_92 : decode cX11_curve 92 = .ok (.iload 4, 2) := by decide +kernel
theorem dX11_curve_94 : decode cX11_curve 94 = .ok (.iaload, 1) := by decide +kernel
theorem dX11_curve_95 : decode cX11_curve 95 = .ok (.ireturn, 1) := by decide +kernel
theorem dX11_curve_96 : decode cX11_curve 96 = .ok (.aload_n 0, 1) := by decide +kernel
theorem dX11_curve_97 : decode cX11_curve 97 = .ok (.getfield 47, 3) := by decide +kernel
theorem dX11_curve_100 : decode cX11_curve 100 = .ok (.getfield 233, 3) := by decide +kernel
theorem dX11_curve_103 : decode cX11_curve 103 = .ok (.getfield 245, 3) := by decide +kernel
theorem dX11_curve_106 : decode cX11_curve 106 = .ok (.iload 4, 2) := by decide +kernel
theorem dX11_curve_108 : decode cX11_curve 108 = .ok (.iaload, 1) := by decide +kernel
theorem dX11_curve_109 : decode cX11_curve 109 = .ok (.ireturn, 1) := by decide +kernel
theorem dX11_curve_110 : decode cX11_curve 110 = .ok (.new 192, 3) := by decide +kernel
theorem dX11_curve_113 : decode cX11_curve 113 = .ok (.dup, 1) := by decide +kernel
theorem dX11_curve_114 : decode cX11_curve 114 = .ok (.invokespecial 194, 3) := by decide +kernel
theorem dX11_curve_117 : decode cX11_curve 117 = .ok (.athrow, 1) := by decide +kernel
theorem dX11_packet_0 : decode cX11_packet 0 = .ok (.aload_n 0, 1) := by decide +kernel
theorem dX11_packet_1 : decode cX11_packet 1 = .ok (.iload_n 1, 1) := by decide +kernel
theorem dX11_packet_2 : decode cX11_packet 2 = .ok (.invokevirtual 195, 3) := by decide +kernel
theorem dX11_packet_5 : decode cX11_packet 5 = .ok (.iload_n 2, 1) := by decide +kernel
theorem dX11_packet_6 : decode cX11_packet 6 = .ok (.ifCond .lt 15, 3) := by decide +kernel
theorem dX11_packet_9 : decode cX11_packet 9 = .ok (.iload_n 2, 1) := by decide +kernel
theorem dX11_packet_10 : decode cX11_packet 10 = .ok (.aload_n 0, 1) := by decide +kernel
theorem dX11_packet_11 : decode cX11_packet 11 = .ok (.getfield 47, 3) := by decide +kernel
theorem dX11_packet_14 : decode cX11_packet 14 = .ok (.iload_n 1, 1) := by decide +kernel
theorem dX11_packet_15 : decode cX11_packet 15 = .ok (.invokevirtual 220, 3) := by decide +kernel
theorem dX11_packet_18 : decode cX11_packet 18 = .ok (.if_icmp .lt 11, 3) := by decide +kernel
theorem dX11_packet_21 : decode cX11_packet 21 = .ok (.new 192, 3) := by decide +kernel
theorem dX11_packet_24 : decode cX11_packet 24 = .ok (.dup, 1) := by decide +kernel
theorem dX11_packet_25 : decode cX11_packet 25 = .ok (.invokespecial 194, 3) := by decide +kernel
theorem dX11_packet_28 : decode cX11_packet 28 = .ok (.athrow, 1) := by decide +kernel
theorem dX11_packet_29 : decode cX11_packet 29 = .ok (.aload_n 0, 1) := by decide +kernel
theorem dX11_packet_30 : decode cX11_packet 30 = .ok (.getfield 47, 3) := by decide +kernel
theorem dX11_packet_33 : decode cX11_packet 33 = .ok (.iload_n 1, 1) := by decide +kernel
theorem dX11_packet_34 : decode cX11_packet 34 = .ok (.iload_n 2, 1) := by decide +kernel
theorem dX11_packet_35 : decode cX11_packet 35 = .ok (.invokevirtual 248, 3) := by decide +kernel
theorem dX11_packet_38 : decode cX11_packet 38 = .ok (.ireturn, 1) := by decide +kernel
theorem dX11_due_0 : decode cX11_due 0 = .ok (.aload_n 0, 1) := by decide +kernel
theorem dX11_due_1 : decode cX11_due 1 = .ok (.iload_n 1, 1) := by decide +kernel
theorem dX11_due_2 : decode cX11_due 2 = .ok (.invokevirtual 195, 3) := by decide +kernel
theorem dX11_due_5 : decode cX11_due 5 = .ok (.iload_n 2, 1) := by decide +kernel
theorem dX11_due_6 : decode cX11_due 6 = .ok (.ifCond .lt 19, 3) := by decide +kernel
theorem dX11_due_9 : decode cX11_due 9 = .ok (.iload_n 2, 1) := by decide +kernel
theorem dX11_due_10 : decode cX11_due 10 = .ok (.iconst 2, 1) := by decide +kernel
theorem dX11_due_11 : decode cX11_due 11 = .ok (.if_icmp .gt 14, 3) := by decide +kernel
theorem dX11_due_14 : decode cX11_due 14 = .ok (.aload_n 0, 1) := by decide +kernel
theorem dX11_due_15 : decode cX11_due 15 = .ok (.getfield 47, 3) := by decide +kernel
theorem dX11_due_18 : decode cX11_due 18 = .ok (.iload_n 1, 1) := by decide +kernel
theorem dX11_due_19 : decode cX11_due 19 = .ok (.invokevirtual 205, 3) := by decide +kernel
theorem dX11_due_22 : decode cX11_due 22 = .ok (.ifCond .ne 11, 3) := by decide +kernel
theorem dX11_due_25 : decode cX11_due 25 = .ok (.new 192, 3) := by decide +kernel
theorem dX11_due_28 : decode cX11_due 28 = .ok (.dup, 1) := by decide +kernel
theorem dX11_due_29 : decode cX11_due 29 = .ok (.invokespecial 194, 3) := by decide +kernel
theorem dX11_due_32 : decode cX11_due 32 = .ok (.athrow, 1) := by decide +kernel
theorem dX11_due_33 : decode cX11_due 33 = .ok (.iload_n 2, 1) := by decide +kernel
theorem dX11_due_34 : decode cX11_due 34 = .ok (.iconst 2, 1) := by decide +kernel
theorem dX11_due_35 : decode cX11_due 35 = .ok (.if_icmp .ne 12, 3) := by decide +kernel
theorem dX11_due_38 : decode cX11_due 38 = .ok (.aload_n 0, 1) := by decide +kernel
theorem dX11_due_39 : decode cX11_due 39 = .ok (.getfield 47, 3) := by decide +kernel
theorem dX11_due_42 : decode cX11_due 42 = .ok (.iload_n 1, 1) := by decide +kernel
theorem dX11_due_43 : decode cX11_due 43 = .ok (.invokevirtual 252, 3) := by decide +kernel
theorem dX11_due_46 : decode cX11_due 46 = .ok (.ireturn, 1) := by decide +kernel
theorem dX11_due_47 : decode cX11_due 47 = .ok (.aload_n 0, 1) := by decide +kernel
theorem dX11_due_48 : decode cX11_due 48 = .ok (.getfield 47, 3) := by decide +kernel
theorem dX11_due_51 : decode cX11_due 51 = .ok (.iload_n 1, 1) := by decide +kernel
theorem dX11_due_52 : decode cX11_due 52 = .ok (.iconst 0, 1) := by decide +kernel
theorem dX11_due_53 : decode cX11_due 53 = .ok (.invokevirtual 229, 3) := by decide +kernel
theorem dX11_due_56 : decode cX11_due 56 = .ok (.ifCond .ne 11, 3) := by decide +kernel
theorem dX11_due_59 : decode cX11_due 59 = .ok (.new 192, 3) := by decide +kernel
theorem dX11_due_62 : decode cX11_due 62 = .ok (.dup, 1) := by decide +kernel
theorem dX11_due_63 : decode cX11_due 63 = .ok (.invokespecial 194, 3) := by decide +kernel
theorem dX11_due_66 : decode cX11_due 66 = .ok (.athrow, 1) := by decide +kernel
theorem dX11_due_67 : decode cX11_due 67 = .ok (.iload_n 2, 1) := by decide +kernel
theorem dX11_due_68 : decode cX11_due 68 = .ok (.ifCond .ne 14, 3) := by decide +kernel
theorem dX11_due_71 : decode cX11_due 71 = .ok (.aload_n 0, 1) := by decide +kernel
theorem dX11_due_72 : decode cX11_due 72 = .ok (.getfield 47, 3) := by decide +kernel
theorem dX11_due_75 : decode cX11_due 75 = .ok (.iload_n 1, 1) := by decide +kernel
theorem dX11_due_76 : decode cX11_due 76 = .ok (.invokevirtual 255, 3) := by decide +kernel
theorem dX11_due_79 : decode cX11_due 79 = .ok (.goto 11, 3) := by decide +kernel
theorem dX11_due_82 : decode cX11_due 82 = .ok (.aload_n 0, 1) := by decide +kernel
theorem dX11_due_83 : decode cX11_due 83 = .ok (.getfield 47, 3) := by decide +kernel
theorem dX11_due_86 : decode cX11_due 86 = .ok (.iload_n 1, 1) := by decide +kernel
theorem dX11_due_87 : decode cX11_due 87 = .ok (.invokevirtual 258, 3) := by decide +kernel
theorem dX11_due_90 : decode cX11_due 90 = .ok (.ireturn, 1) := by decide +kernel
theorem dX11_come_0 : decode cX11_come 0 = .ok (.aload_n 0, 1) := by decide +kernel
theorem dX11_come_1 : decode cX11_come 1 = .ok (.getfield 26, 3) := by decide +kernel
theorem dX11_come_4 : decode cX11_come 4 = .ok (.iload_n 1, 1) := by decide +kernel
theorem dX11_come_5 : decode cX11_come 5 = .ok (.invokevirtual 261, 3) := by decide +kernel
theorem dX11_come_8 : decode cX11_come 8 = .ok (.ifCond .eq 14, 3) := by decide +kernel
theorem dX11_come_11 : decode cX11_come 11 = .ok (.iload_n 2, 1) := by decide +kernel
theorem dX11_come_12 : decode cX11_come 12 = .ok (.iconst 1, 1) := by decide +kernel
theorem dX11_come_13 : decode cX11_come 13 = .ok (.if_icmp .lt 9, 3) := by decide +kernel
theorem dX11_come_16 : decode cX11_come 16 = .ok (.iload_n 2, 1) := by decide +kernel
theorem dX11_come_17 : decode cX11_come 17 = .ok (.bipush 64, 2) := by decide +kernel
theorem dX11_come_19 : decode cX11_come 19 = .ok (.if_icmp .le 9, 3) := by decide +kernel
theorem dX11_come_22 : decode cX11_come 22 = .ok (.aload_n 0, 1) := by decide +kernel
theorem dX11_come_23 : decode cX11_come 23 = .ok (.iconst 1, 1) := by decide +kernel
theorem dX11_come_24 : decode cX11_come 24 = .ok (.invokevirtual 264, 3) := by decide +kernel
theorem dX11_come_27 : decode cX11_come 27 = .ok (.ireturn, 1) := by decide +kernel
theorem dX11_come_28 : decode cX11_come 28 = .ok (.aload_n 0, 1) := by decide +kernel
theorem dX11_come_29 : decode cX11_come 29 = .ok (.getfield 54, 3) := by decide +kernel
theorem dX11_come_32 : decode cX11_come 32 = .ok (.aload_n 0, 1) := by decide +kernel
theorem dX11_come_33 : decode cX11_come 33 = .ok (.getfield 47, 3) := by decide +kernel
theorem dX11_come_36 : decode cX11_come 36 = .ok (.invokevirtual 267, 3) := by decide +kernel
theorem dX11_come_39 : decode cX11_come 39 = .ok (.aload_n 0, 1) := by decide +kernel
theorem dX11_come_40 : decode cX11_come 40 = .ok (.getfield 47, 3) := by decide +kernel
theorem dX11_come_43 : decode cX11_come 43 = .ok (.iload_n 1, 1) := by decide +kernel
theorem dX11_come_44 : decode cX11_come 44 = .ok (.iload_n 2, 1) := by decide +kernel
theorem dX11_come_45 : decode cX11_come 45 = .ok (.invokevirtual 271, 3) := by decide +kernel
theorem dX11_come_48 : decode cX11_come 48 = .ok (.aload_n 0, 1) := by decide +kernel
theorem dX11_come_49 : decode cX11_come 49 = .ok (.getfield 47, 3) := by decide +kernel
theorem dX11_come_52 : decode cX11_come 52 = .ok (.iload_n 1, 1) := by decide +kernel
theorem dX11_come_53 : decode cX11_come 53 = .ok (.invokevirtual 220, 3) := by decide +kernel
theorem dX11_come_56 : decode cX11_come 56 = .ok (.ireturn, 1) := by decide +kernel
theorem dX11_units_0 : decode cX11_units 0 = .ok (.iload_n 1, 1) := by decide +kernel
theorem dX11_units_1 : decode cX11_units 1 = .ok (.iconst 1, 1) := by decide +kernel
theorem dX11_units_2 : decode cX11_units 2 = .ok (.if_icmp .lt 24, 3) := by decide +kernel
theorem dX11_units_5 : decode cX11_units 5 = .ok (.iload_n 1, 1) := by decide +kernel
theorem dX11_units_6 : decode cX11_units 6 = .ok (.bipush 100, 2) := by decide +kernel
theorem dX11_units_8 : decode cX11_units 8 = .ok (.if_icmp .gt 18, 3) := by decide +kernel
theorem dX11_units_11 : decode cX11_units 11 = .ok (.aload_n 0, 1) := by decide +kernel
theorem dX11_units_12 : decode cX11_units 12 = .ok (.getfield 47, 3) := by decide +kernel
theorem dX11_units_15 : decode cX11_units 15 = .ok (.getfield 156, 3) := by decide +kernel
theorem dX11_units_18 : decode cX11_units 18 = .ok (.iload_n 1, 1) := by decide +kernel
theorem dX11_units_19 : decode cX11_units 19 = .ok (.iadd, 1) := by decide +kernel
theorem dX11_units_20 : decode cX11_units 20 = .ok (.sipush 2000, 3) := by decide +kernel
theorem dX11_units_23 : decode cX11_units 23 = .ok (.if_icmp .le 9, 3) := by decide +kernel
theorem dX11_units_26 : decode cX11_units 26 = .ok (.aload_n 0, 1) := by decide +kernel
theorem dX11_units_27 : decode cX11_units 27 = .ok (.iconst 1, 1) := by decide +kernel
theorem dX11_units_28 : decode cX11_units 28 = .ok (.invokevirtual 264, 3) := by decide +kernel
theorem dX11_units_31 : decode cX11_units 31 = .ok (.ireturn, 1) := by decide +kernel
theorem dX11_units_32 : decode cX11_units 32 = .ok (.aload_n 0, 1) := by decide +kernel
theorem dX11_units_33 : decode cX11_units 33 = .ok (.getfield 54, 3) := by decide +kernel
theorem dX11_units_36 : decode cX11_units 36 = .ok (.aload_n 0, 1) := by decide +kernel
theorem dX11_units_37 : decode cX11_units 37 = .ok (.getfield 47, 3) := by decide +kernel
theorem dX11_units_40 : decode cX11_units 40 = .ok (.invokevirtual 267, 3) := by decide +kernel
theorem dX11_units_43 : decode cX11_units 43 = .ok (.aload_n 0, 1) := by decide +kernel
theorem dX11_units_44 : decode cX11_units 44 = .ok (.getfield 47, 3) := by decide +kernel
theorem dX11_units_47 : decode cX11_units 47 = .ok (.iload_n 1, 1) := by decide +kernel
theorem dX11_units_48 : decode cX11_units 48 = .ok (.invokevirtual 275, 3) := by decide +kernel
theorem dX11_units_51 : decode cX11_units 51 = .ok (.aload_n 0, 1) := by decide +kernel
theorem dX11_units_52 : decode cX11_units 52 = .ok (.getfield 47, 3) := by decide +kernel
theorem dX11_units_55 : decode cX11_units 55 = .ok (.getfield 156, 3) := by decide +kernel
theorem dX11_units_58 : decode cX11_units 58 = .ok (.ireturn, 1) := by decide +kernel
theorem dX11_change_0 : decode cX11_change 0 = .ok (.aload_n 0, 1) := by decide +kernel
theorem dX11_change_1 : decode cX11_change 1 = .ok (.getfield 26, 3) := by decide +kernel
theorem dX11_change_4 : decode cX11_change 4 = .ok (.iload_n 1, 1) := by decide +kernel
theorem dX11_change_5 : decode cX11_change 5 = .ok (.invokevirtual 278, 3) := by decide +kernel
theorem dX11_change_8 : decode cX11_change 8 = .ok (.ifCond .eq 21, 3) := by decide +kernel
theorem dX11_change_11 : decode cX11_change 11 = .ok (.iload_n 2, 1) := by decide +kernel
theorem dX11_change_12 : decode cX11_change 12 = .ok (.invokestatic 226, 3) := by decide +kernel
theorem dX11_change_15 : decode cX11_change 15 = .ok (.ifCond .eq 14, 3) := by decide +kernel
theorem dX11_change_18 : decode cX11_change 18 = .ok (.iload_n 3, 1) := by decide +kernel
theorem dX11_change_19 : decode cX11_change 19 = .ok (.iload 4, 2) := by decide +kernel
theorem dX11_change_21 : decode cX11_change 21 = .ok (.iload 5, 2) := by decide +kernel
theorem dX11_change_23 : decode cX11_change 23 = .ok (.invokestatic 281, 3) := by decide +kernel
theorem dX11_change_26 : decode cX11_change 26 = .ok (.ifCond .ne 9, 3) := by decide +kernel
theorem dX11_change_29 : decode cX11_change 29 = .ok (.aload_n 0, 1) := by decide +kernel
theorem dX11_change_30 : decode cX11_change 30 = .ok (.iconst 1, 1) := by decide +kernel
theorem dX11_change_31 : decode cX11_change 31 = .ok (.invokevirtual 264, 3) := by decide +kernel
theorem dX11_change_34 : decode cX11_change 34 = .ok (.ireturn, 1) := by decide +kernel
theorem dX11_change_35 : decode cX11_change 35 = .ok (.iload_n 2, 1) := by decide +kernel
theorem dX11_change_36 : decode cX11_change 36 = .ok (.ifCond .ne 20, 3) := by decide +kernel
theorem dX11_change_39 : decode cX11_change 39 = .ok (.aload_n 0, 1) := by decide +kernel
theorem dX11_change_40 : decode cX11_change 40 = .ok (.getfield 26, 3) := by decide +kernel
theorem dX11_change_43 : decode cX11_change 43 = .ok (.iload_n 1, 1) := by decide +kernel
theorem dX11_change_44 : decode cX11_change 44 = .ok (.invokevirtual 201, 3) := by decide +kernel
theorem dX11_change_47 : decode cX11_change 47 = .ok (.ifCond .ne 9, 3) := by decide +kernel
theorem dX11_change_50 : decode cX11_change 50 = .ok (.aload_n 0, 1) := by decide +kernel
theorem dX11_change_51 : decode cX11_change 51 = .ok (.iconst 1, 1) := by decide +kernel
theorem dX11_change_52 : decode cX11_change 52 = .ok (.invokevirtual 264, 3) := by decide +kernel
theorem dX11_change_55 : decode cX11_change 55 = .ok (.ireturn, 1) := by decide +kernel
theorem dX11_change_56 : decode cX11_change 56 = .ok (.iload_n 1, 1) := by decide +kernel
theorem dX11_change_57 : decode cX11_change 57 = .ok (.iconst 3, 1) := by decide +kernel
theorem dX11_change_58 : decode cX11_change 58 = .ok (.imul, 1) := by decide +kernel
theorem dX11_change_59 : decode cX11_change 59 = .ok (.iload_n 2, 1) := by decide +kernel
theorem dX11_change_60 : decode cX11_change 60 = .ok (.iadd, 1) := by decide +kernel
theorem dX11_change_61 : decode cX11_change 61 = .ok (.istore 6, 2) := by decide +kernel
theorem dX11_change_63 : decode cX11_change 63 = .ok (.aload_n 0, 1) := by decide +kernel
theorem dX11_change_64 : decode cX11_change 64 = .ok (.getfield 47, 3) := by decide +kernel
theorem dX11_change_67 : decode cX11_change 67 = .ok (.getfield 233, 3) := by decide +kernel
theorem dX11_change_70 : decode cX11_change 70 = .ok (.iload 6, 2) := by decide +kernel
theorem dX11_change_72 : decode cX11_change 72 = .ok (.invokevirtual 285, 3) := by decide +kernel
theorem dX11_change_75 : decode cX11_change 75 = .ok (.istore 7, 2) := by decide +kernel
theorem dX11_change_77 : decode cX11_change 77 = .ok (.iload 7, 2) := by decide +kernel
theorem dX11_change_79 : decode cX11_change 79 = .ok (.ifCond .eq 29, 3) := by decide +kernel
theorem dX11_change_82 : decode cX11_change 82 = .ok (.aload_n 0, 1) := by decide +kernel
theorem dX11_change_83 : decode cX11_change 83 = .ok (.getfield 47, 3) := by decide +kernel
theorem dX11_change_86 : decode cX11_change 86 = .ok (.getfield 233, 3) := by decide +kernel
theorem dX11_change_89 : decode cX11_change 89 = .ok (.iload 6, 2) := by decide +kernel
theorem dX11_change_91 : decode cX11_change 91 = .ok (.iload_n 3, 1) := by decide +kernel
theorem dX11_change_92 : decode cX11_change 92 = .ok (.iload 4, 2) := by decide +kernel
theorem dX11_change_94 : decode cX11_change 94 = .ok (.iload 5, 2) := by decide +kernel
theorem dX11_change_96 : decode cX11_change 96 = .ok (.invokevirtual 288, 3) := by decide +kernel
theorem dX11_change_99 : decode cX11_change 99 = .ok (.ifCond .eq 9, 3) := by decide +kernel
theorem dX11_change_102 : decode cX11_change 102 = .ok (.aload_n 0, 1) := by decide +kernel
theorem dX11_change_103 : decode cX11_change 103 = .ok (.iconst 1, 1) := by decide +kernel
theorem dX11_change_104 : decode cX11_change 104 = .ok (.invokevirtual 264, 3) := by decide +kernel
theorem dX11_change_107 : decode cX11_change 107 = .ok (.ireturn, 1) := by decide +kernel
theorem dX11_change_108 : decode cX11_change 108 = .ok (.aload_n 0, 1) := by decide +kernel
theorem dX11_change_109 : decode cX11_change 109 = .ok (.getfield 54, 3) := by decide +kernel
theorem dX11_change_112 : decode cX11_change 112 = .ok (.aload_n 0, 1) := by decide +kernel
theorem dX11_change_113 : decode cX11_change 113 = .ok (.getfield 47, 3) := by decide +kernel
theorem dX11_change_116 : decode cX11_change 116 = .ok (.invokevirtual 267, 3) := by decide +kernel
theorem dX11_change_119 : decode cX11_change 119 = .ok (.aload_n 0, 1) := by decide +kernel
theorem dX11_change_120 : decode cX11_change 120 = .ok (.getfield 47, 3) := by decide +kernel
theorem dX11_change_123 : decode cX11_change 123 = .ok (.iload_n 1, 1) := by decide +kernel
theorem dX11_change_124 : decode cX11_change 124 = .ok (.iload_n 2, 1) := by decide +kernel
theorem dX11_change_125 : decode cX11_change 125 = .ok (.iload_n 3, 1) := by decide +kernel
theorem dX11_change_126 : decode cX11_change 126 = .ok (.iload 4, 2) := by decide +kernel
theorem dX11_change_128 : decode cX11_change 128 = .ok (.iload 5, 2) := by decide +kernel
theorem dX11_change_130 : decode cX11_change 130 = .ok (.invokevirtual 292, 3) := by decide +kernel
theorem dX11_change_133 : decode cX11_change 133 = .ok (.iload 7, 2) := by decide +kernel
theorem dX11_change_135 : decode cX11_change 135 = .ok (.ifCond .eq 7, 3) := by decide +kernel
theorem dX11_change_138 : decode cX11_change 138 = .ok (.iconst 1, 1) := by decide +kernel
theorem dX11_change_139 : decode cX11_change 139 = .ok (.goto 4, 3) := by decide +kernel
theorem dX11_change_142 : decode cX11_change 142 = .ok (.iconst 0, 1) := by decide +kernel
theorem dX11_change_143 : decode cX11_change 143 = .ok (.ireturn, 1) := by decide +kernel
theorem dX11_empty_0 : decode cX11_empty 0 = .ok (.aload_n 0, 1) := by decide +kernel
theorem dX11_empty_1 : decode cX11_empty 1 = .ok (.getfield 26, 3) := by decide +kernel
theorem dX11_empty_4 : decode cX11_empty 4 = .ok (.iload_n 1, 1) := by decide +kernel
theorem dX11_empty_5 : decode cX11_empty 5 = .ok (.invokevirtual 278, 3) := by decide +kernel
theorem dX11_empty_8 : decode cX11_empty 8 = .ok (.ifCond .eq 14, 3) := by decide +kernel
theorem dX11_empty_11 : decode cX11_empty 11 = .ok (.aload_n 0, 1) := by decide +kernel
theorem dX11_empty_12 : decode cX11_empty 12 = .ok (.getfield 47, 3) := by decide +kernel
theorem dX11_empty_15 : decode cX11_empty 15 = .ok (.iload_n 1, 1) := by decide +kernel
theorem dX11_empty_16 : decode cX11_empty 16 = .ok (.invokevirtual 220, 3) := by decide +kernel
theorem dX11_empty_19 : decode cX11_empty 19 = .ok (.ifCond .ne 9, 3) := by decide +kernel
theorem dX11_empty_22 : decode cX11_empty 22 = .ok (.aload_n 0, 1) := by decide +kernel
theorem dX11_empty_23 : decode cX11_empty 23 = .ok (.iconst 1, 1) := by decide +kernel
theorem dX11_empty_24 : decode cX11_empty 24 = .ok (.invokevirtual 264, 3) := by decide +kernel
theorem dX11_empty_27 : decode cX11_empty 27 = .ok (.ireturn, 1) := by decide +kernel
theorem dX11_empty_28 : decode cX11_empty 28 = .ok (.aload_n 0, 1) := by decide +kernel
theorem dX11_empty_29 : decode cX11_empty 29 = .ok (.getfield 54, 3) := by decide +kernel
theorem dX11_empty_32 : decode cX11_empty 32 = .ok (.aload_n 0, 1) := by decide +kernel
theorem dX11_empty_33 : decode cX11_empty 33 = .ok (.getfield 47, 3) := by decide +kernel
theorem dX11_empty_36 : decode cX11_empty 36 = .ok (.invokevirtual 267, 3) := by decide +kernel
theorem dX11_empty_39 : decode cX11_empty 39 = .ok (.aload_n 0, 1) := by decide +kernel
theorem dX11_empty_40 : decode cX11_empty 40 = .ok (.getfield 47, 3) := by decide +kernel
theorem dX11_empty_43 : decode cX11_empty 43 = .ok (.iload_n 1, 1) := by decide +kernel
theorem dX11_empty_44 : decode cX11_empty 44 = .ok (.invokevirtual 296, 3) := by decide +kernel
theorem dX11_empty_47 : decode cX11_empty 47 = .ok (.ireturn, 1) := by decide +kernel
theorem dX11_lift_0 : decode cX11_lift 0 = .ok (.iload_n 2, 1) := by decide +kernel
theorem dX11_lift_1 : decode cX11_lift 1 = .ok (.ifCond .eq 8, 3) := by decide +kernel
theorem dX11_lift_4 : decode cX11_lift 4 = .ok (.iload_n 2, 1) := by decide +kernel
theorem dX11_lift_5 : decode cX11_lift 5 = .ok (.iconst 2, 1) := by decide +kernel
theorem dX11_lift_6 : decode cX11_lift 6 = .ok (.if_icmp .ne 7, 3) := by decide +kernel
theorem dX11_lift_9 : decode cX11_lift 9 = .ok (.iconst 1, 1) := by decide +kernel
theorem dX11_lift_10 : decode cX11_lift 10 = .ok (.goto 4, 3) := by decide +kernel
theorem dX11_lift_13 : decode cX11_lift 13 = .ok (.iconst 0, 1) := by decide +kernel
theorem dX11_lift_14 : decode cX11_lift 14 = .ok (.istore_n 3, 1) := by decide +kernel
theorem dX11_lift_15 : decode cX11_lift 15 = .ok (.aload_n 0, 1) := by decide +kernel
theorem dX11_lift_16 : decode cX11_lift 16 = .ok (.getfield 26, 3) := by decide +kernel
theorem dX11_lift_19 : decode cX11_lift 19 = .ok (.iload_n 1, 1) := by decide +kernel
theorem dX11_lift_20 : decode cX11_lift 20 = .ok (.invokevirtual 278, 3) := by decide +kernel
theorem dX11_lift_23 : decode cX11_lift 23 = .ok (.ifCond .eq 19, 3) := by decide +kernel
theorem dX11_lift_26 : decode cX11_lift 26 = .ok (.iload_n 3, 1) := by decide +kernel
theorem dX11_lift_27 : decode cX11_lift 27 = .ok (.ifCond .eq 15, 3) := by decide +kernel
theorem dX11_lift_30 : decode cX11_lift 30 = .ok (.aload_n 0, 1) := by decide +kernel
theorem dX11_lift_31 : decode cX11_lift 31 = .ok (.getfield 47, 3) := by decide +kernel
theorem dX11_lift_34 : decode cX11_lift 34 = .ok (.iload_n 1, 1) := by decide +kernel
theorem dX11_lift_35 : decode cX11_lift 35 = .ok (.iload_n 2, 1) := by decide +kernel
theorem dX11_lift_36 : decode cX11_lift 36 = .ok (.invokevirtual 229, 3) := by decide +kernel
theorem dX11_lift_39 : decode cX11_lift 39 = .ok (.ifCond .ne 11, 3) := by decide +kernel
theorem dX11_lift_42 : decode cX11_lift 42 = .ok (.aload_n 0, 1) := by decide +kernel
theorem dX11_lift_43 : decode cX11_lift 43 = .ok (.iconst 1, 1) := by decide +kernel
theorem dX11_lift_44 : decode cX11_lift 44 = .ok (.invokevirtual 264, 3) := by decide +kernel
theorem dX11_lift_47 : decode cX11_lift 47 = .ok (.pop, 1) := by decide +kernel
theorem dX11_lift_48 : decode cX11_lift 48 = .ok (.iconst 0, 1) := by decide +kernel
theorem dX11_lift_49 : decode cX11_lift 49 = .ok (.ireturn, 1) := by decide +kernel
theorem dX11_lift_50 : decode cX11_lift 50 = .ok (.aload_n 0, 1) := by decide +kernel
theorem dX11_lift_51 : decode cX11_lift 51 = .ok (.getfield 54, 3) := by decide +kernel
theorem dX11_lift_54 : decode cX11_lift 54 = .ok (.aload_n 0, 1) := by decide +kernel
theorem dX11_lift_55 : decode cX11_lift 55 = .ok (.getfield 47, 3) := by decide +kernel
theorem dX11_lift_58 : decode cX11_lift 58 = .ok (.invokevirtual 267, 3) := by decide +kernel
theorem dX11_lift_61 : decode cX11_lift 61 = .ok (.aload_n 0, 1) := by decide +kernel
theorem dX11_lift_62 : decode cX11_lift 62 = .ok (.getfield 47, 3) := by decide +kernel
theorem dX11_lift_65 : decode cX11_lift 65 = .ok (.getfield 233, 3) := by decide +kernel
theorem dX11_lift_68 : decode cX11_lift 68 = .ok (.iload_n 1, 1) := by decide +kernel
theorem dX11_lift_69 : decode cX11_lift 69 = .ok (.iconst 3, 1) := by decide +kernel
theorem dX11_lift_70 : decode cX11_lift 70 = .ok (.imul, 1) := by decide +kernel
theorem dX11_lift_71 : decode cX11_lift 71 = .ok (.iload_n 2, 1) := by decide +kernel
theorem dX11_lift_72 : decode cX11_lift 72 = .ok (.iadd, 1) := by decide +kernel
theorem dX11_lift_73 : decode cX11_lift 73 = .ok (.invokevirtual 299, 3) := by decide +kernel
theorem dX11_lift_76 : decode cX11_lift 76 = .ok (.iconst 1, 1) := by decide +kernel
theorem dX11_lift_77 : decode cX11_lift 77 = .ok (.ireturn, 1) := by decide +kernel
theorem dX11_stop_0 : decode cX11_stop 0 = .ok (.aload_n 0, 1) := by decide +kernel
theorem dX11_stop_1 : decode cX11_stop 1 = .ok (.getfield 26, 3) := by decide +kernel
theorem dX11_stop_4 : decode cX11_stop 4 = .ok (.iload_n 1, 1) := by decide +kernel
theorem dX11_stop_5 : decode cX11_stop 5 = .ok (.invokevirtual 302, 3) := by decide +kernel
theorem dX11_stop_8 : decode cX11_stop 8 = .ok (.ifCond .ne 9, 3) := by decide +kernel
theorem dX11_stop_11 : decode cX11_stop 11 = .ok (.aload_n 0, 1) := by decide +kernel
theorem dX11_stop_12 : decode cX11_stop 12 = .ok (.iconst 1, 1) := by decide +kernel
theorem dX11_stop_13 : decode cX11_stop 13 = .ok (.invokevirtual 264, 3) := by decide +kernel
theorem dX11_stop_16 : decode cX11_stop 16 = .ok (.ireturn, 1) := by decide +kernel
theorem dX11_stop_17 : decode cX11_stop 17 = .ok (.aload_n 0, 1) := by decide +kernel
theorem dX11_stop_18 : decode cX11_stop 18 = .ok (.getfield 54, 3) := by decide +kernel
theorem dX11_stop_21 : decode cX11_stop 21 = .ok (.aload_n 0, 1) := by decide +kernel
theorem dX11_stop_22 : decode cX11_stop 22 = .ok (.getfield 47, 3) := by decide +kernel
theorem dX11_stop_25 : decode cX11_stop 25 = .ok (.invokevirtual 267, 3) := by decide +kernel
theorem dX11_stop_28 : decode cX11_stop 28 = .ok (.aload_n 0, 1) := by decide +kernel
theorem dX11_stop_29 : decode cX11_stop 29 = .ok (.getfield 47, 3) := by decide +kernel
theorem dX11_stop_32 : decode cX11_stop 32 = .ok (.iload_n 1, 1) := by decide +kernel
theorem dX11_stop_33 : decode cX11_stop 33 = .ok (.invokevirtual 305, 3) := by decide +kernel
theorem dX11_stop_36 : decode cX11_stop 36 = .ok (.aload_n 0, 1) := by decide +kernel
theorem dX11_stop_37 : decode cX11_stop 37 = .ok (.getfield 47, 3) := by decide +kernel
theorem dX11_stop_40 : decode cX11_stop 40 = .ok (.getfield 308, 3) := by decide +kernel
theorem dX11_stop_43 : decode cX11_stop 43 = .ok (.ireturn, 1) := by decide +kernel
theorem dX11_undo_0 : decode cX11_undo 0 = .ok (.aload_n 0, 1) := by decide +kernel
theorem dX11_undo_1 : decode cX11_undo 1 = .ok (.getfield 54, 3) := by decide +kernel
theorem dX11_undo_4 : decode cX11_undo 4 = .ok (.invokevirtual 186, 3) := by decide +kernel
theorem dX11_undo_7 : decode cX11_undo 7 = .ok (.ifCond .ne 5, 3) := by decide +kernel
theorem dX11_undo_10 : decode cX11_undo 10 = .ok (.iconst (-1), 1) := by decide +kernel
theorem dX11_undo_11 : decode cX11_undo 11 = .ok (.ireturn, 1) := by decide +kernel
theorem dX11_undo_12 : decode cX11_undo 12 = .ok (.aload_n 0, 1) := by decide +kernel
theorem dX11_undo_13 : decode cX11_undo 13 = .ok (.getfield 54, 3) := by decide +kernel
theorem dX11_undo_16 : decode cX11_undo 16 = .ok (.aload_n 0, 1) := by decide +kernel
theorem dX11_undo_17 : decode cX11_undo 17 = .ok (.getfield 47, 3) := by decide +kernel
theorem dX11_undo_20 : decode cX11_undo 20 = .ok (.invokevirtual 311, 3) := by decide +kernel
theorem dX11_undo_23 : decode cX11_undo 23 = .ok (.aload_n 0, 1) := by decide +kernel
theorem dX11_undo_24 : decode cX11_undo 24 = .ok (.getfield 54, 3) := by decide +kernel
theorem dX11_undo_27 : decode cX11_undo 27 = .ok (.invokevirtual 186, 3) := by decide +kernel
theorem dX11_undo_30 : decode cX11_undo 30 = .ok (.ireturn, 1) := by decide +kernel
theorem dX11_together_0 : decode cX11_together 0 = .ok (.iload_n 1, 1) := by decide +kernel
theorem dX11_together_1 : decode cX11_together 1 = .ok (.ifCond .lt 8, 3) := by decide +kernel
theorem dX11_together_4 : decode cX11_together 4 = .ok (.iload_n 1, 1) := by decide +kernel
theorem dX11_together_5 : decode cX11_together 5 = .ok (.iconst 2, 1) := by decide +kernel
theorem dX11_together_6 : decode cX11_together 6 = .ok (.if_icmp .le 11, 3) := by decide +kernel
theorem dX11_together_9 : decode cX11_together 9 = .ok (.new 192, 3) := by decide +kernel
theorem dX11_together_12 : decode cX11_together 12 = .ok (.dup, 1) := by decide +kernel
theorem dX11_together_13 : decode cX11_together 13 = .ok (.invokespecial 194, 3) := by decide +kernel
theorem dX11_together_16 : decode cX11_together 16 = .ok (.athrow, 1) := by decide +kernel
theorem dX11_together_17 : decode cX11_together 17 = .ok (.aload_n 0, 1) := by decide +kernel
theorem dX11_together_18 : decode cX11_together 18 = .ok (.getfield 89, 3) := by decide +kernel
theorem dX11_together_21 : decode cX11_together 21 = .ok (.iload_n 1, 1) := by decide +kernel
theorem dX11_together_22 : decode cX11_together 22 = .ok (.invokevirtual 314, 3) := by decide +kernel
theorem dX11_together_25 : decode cX11_together 25 = .ok (.ireturn, 1) := by decide +kernel
theorem dX11_toGrant_0 : decode cX11_toGrant 0 = .ok (.iconst 0, 1) := by decide +kernel
theorem dX11_toGrant_1 : decode cX11_toGrant 1 = .ok (.iload_n 1, 1) := by decide +kernel
theorem dX11_toGrant_2 : decode cX11_toGrant 2 = .ok (.iload_n 2, 1) := by decide +kernel
theorem dX11_toGrant_3 : decode cX11_toGrant 3 = .ok (.invokestatic 281, 3) := by decide +kernel
theorem dX11_toGrant_6 : decode cX11_toGrant 6 = .ok (.ifCond .ne 11, 3) := by decide +kernel
theorem dX11_toGrant_9 : decode cX11_toGrant 9 = .ok (.new 129, 3) := by decide +kernel
theorem dX11_toGrant_12 : decode cX11_toGrant 12 = .ok (.dup, 1) := by decide +kernel
theorem dX11_toGrant_13 : decode cX11_toGrant 13 = .ok (.invokespecial 131, 3) := by decide +kernel
theorem dX11_toGrant_16 : decode cX11_toGrant 16 = .ok (.athrow, 1) := by decide +kernel
theorem dX11_toGrant_17 : decode cX11_toGrant 17 = .ok (.aload_n 0, 1) := by decide +kernel
theorem dX11_toGrant_18 : decode cX11_toGrant 18 = .ok (.getfield 89, 3) := by decide +kernel
theorem dX11_toGrant_21 : decode cX11_toGrant 21 = .ok (.iload_n 1, 1) := by decide +kernel
theorem dX11_toGrant_22 : decode cX11_toGrant 22 = .ok (.iload_n 2, 1) := by decide +kernel
theorem dX11_toGrant_23 : decode cX11_toGrant 23 = .ok (.invokevirtual 317, 3) := by decide +kernel
theorem dX11_toGrant_26 : decode cX11_toGrant 26 = .ok (.ireturn, 1) := by decide +kernel
theorem dX11_bound_0 : decode cX11_bound 0 = .ok (.aload_n 0, 1) := by decide +kernel
theorem dX11_bound_1 : decode cX11_bound 1 = .ok (.iload_n 1, 1) := by decide +kernel
theorem dX11_bound_2 : decode cX11_bound 2 = .ok (.invokevirtual 195, 3) := by decide +kernel
theorem dX11_bound_5 : decode cX11_bound 5 = .ok (.aload_n 0, 1) := by decide +kernel
theorem dX11_bound_6 : decode cX11_bound 6 = .ok (.getfield 47, 3) := by decide +kernel
theorem dX11_bound_9 : decode cX11_bound 9 = .ok (.iload_n 1, 1) := by decide +kernel
theorem dX11_bound_10 : decode cX11_bound 10 = .ok (.iconst 0, 1) := by decide +kernel
theorem dX11_bound_11 : decode cX11_bound 11 = .ok (.invokevirtual 229, 3) := by decide +kernel
theorem dX11_bound_14 : decode cX11_bound 14 = .ok (.ifCond .ne 11, 3) := by decide +kernel
theorem dX11_bound_17 : decode cX11_bound 17 = .ok (.new 192, 3) := by decide +kernel
theorem dX11_bound_20 : decode cX11_bound 20 = .ok (.dup, 1) := by decide +kernel
theorem dX11_bound_21 : decode cX11_bound 21 = .ok (.invokespecial 194, 3) := by decide +kernel
theorem dX11_bound_24 : decode cX11_bound 24 = .ok (.athrow, 1) := by decide +kernel
theorem dX11_bound_25 : decode cX11_bound 25 = .ok (.iload_n 2, 1) := by decide +kernel
theorem dX11_bound_26 : decode cX11_bound 26 = .ok (.iconst 1, 1) := by decide +kernel
theorem dX11_bound_27 : decode cX11_bound 27 = .ok (.sipush 999, 3) := by decide +kernel
theorem dX11_bound_30 : decode cX11_bound 30 = .ok (.invokestatic 320, 3) := by decide +kernel
theorem dX11_bound_33 : decode cX11_bound 33 = .ok (.aload_n 0, 1) := by decide +kernel
theorem dX11_bound_34 : decode cX11_bound 34 = .ok (.getfield 47, 3) := by decide +kernel
theorem dX11_bound_37 : decode cX11_bound 37 = .ok (.getfield 233, 3) := by decide +kernel
theorem dX11_bound_40 : decode cX11_bound 40 = .ok (.iload_n 1, 1) := by decide +kernel
theorem dX11_bound_41 : decode cX11_bound 41 = .ok (.iconst 3, 1) := by decide +kernel
theorem dX11_bound_42 : decode cX11_bound 42 = .ok (.imul, 1) := by decide +kernel
theorem dX11_bound_43 : decode cX11_bound 43 = .ok (.iconst 0, 1) := by decide +kernel
theorem dX11_bound_44 : decode cX11_bound 44 = .ok (.iadd, 1) := by decide +kernel
theorem dX11_bound_45 : decode cX11_bound 45 = .ok (.iload_n 2, 1) := by decide +kernel
theorem dX11_bound_46 : decode cX11_bound 46 = .ok (.invokevirtual 324, 3) := by decide +kernel
theorem dX11_bound_49 : decode cX11_bound 49 = .ok (.bipush 64, 2) := by decide +kernel
theorem dX11_bound_51 : decode cX11_bound 51 = .ok (.iadd, 1) := by decide +kernel
theorem dX11_bound_52 : decode cX11_bound 52 = .ok (.ireturn, 1) := by decide +kernel
theorem dX11_then_0 : decode cX11_then 0 = .ok (.aload_n 0, 1) := by decide +kernel
theorem dX11_then_1 : decode cX11_then 1 = .ok (.iload_n 1, 1) := by decide +kernel
theorem dX11_then_2 : decode cX11_then 2 = .ok (.invokevirtual 195, 3) := by decide +kernel
theorem dX11_then_5 : decode cX11_then 5 = .ok (.iload_n 3, 1) := by decide +kernel
theorem dX11_then_6 : decode cX11_then 6 = .ok (.ifCond .lt 8, 3) := by decide +kernel
theorem dX11_then_9 : decode cX11_then 9 = .ok (.iload_n 3, 1) := by decide +kernel
theorem dX11_then_10 : decode cX11_then 10 = .ok (.iconst 5, 1) := by decide +kernel
theorem dX11_then_11 : decode cX11_then 11 = .ok (.if_icmp .le 11, 3) := by decide +kernel
theorem dX11_then_14 : decode cX11_then 14 = .ok (.new 192, 3) := by decide +kernel
theorem dX11_then_17 : decode cX11_then 17 = .ok (.dup, 1) := by decide +kernel
theorem dX11_then_18 : decode cX11_then 18 = .ok (.invokespecial 194, 3) := by decide +kernel
theorem dX11_then_21 : decode cX11_then 21 = .ok (.athrow, 1) := by decide +kernel
theorem dX11_then_22 : decode cX11_then 22 = .ok (.iload_n 2, 1) := by decide +kernel
theorem dX11_then_23 : decode cX11_then 23 = .ok (.iconst 0, 1) := by decide +kernel
theorem dX11_then_24 : decode cX11_then 24 = .ok (.sipush 400, 3) := by decide +kernel
theorem dX11_then_27 : decode cX11_then 27 = .ok (.invokestatic 320, 3) := by decide +kernel
theorem dX11_then_30 : decode cX11_then 30 = .ok (.aload_n 0, 1) := by decide +kernel
theorem dX11_then_31 : decode cX11_then 31 = .ok (.getfield 98, 3) := by decide +kernel
theorem dX11_then_34 : decode cX11_then 34 = .ok (.iload_n 1, 1) := by decide +kernel
theorem dX11_then_35 : decode cX11_then 35 = .ok (.iload_n 2, 1) := by decide +kernel
theorem dX11_then_36 : decode cX11_then 36 = .ok (.iload_n 3, 1) := by decide +kernel
theorem dX11_then_37 : decode cX11_then 37 = .ok (.invokevirtual 327, 3) := by decide +kernel
theorem dX11_then_40 : decode cX11_then 40 = .ok (.ireturn, 1) := by decide +kernel
theorem dX11_next_0 : decode cX11_next 0 = .ok (.iload_n 2, 1) := by decide +kernel
theorem dX11_next_1 : decode cX11_next 1 = .ok (.ifCond .lt 8, 3) := by decide +kernel
theorem dX11_next_4 : decode cX11_next 4 = .ok (.iload_n 2, 1) := by decide +kernel
theorem dX11_next_5 : decode cX11_next 5 = .ok (.iconst 2, 1) := by decide +kernel
theorem dX11_next_6 : decode cX11_next 6 = .ok (.if_icmp .le 11, 3) := by decide +kernel
theorem dX11_next_9 : decode cX11_next 9 = .ok (.new 192, 3) := by decide +kernel
theorem dX11_next_12 : decode cX11_next 12 = .ok (.dup, 1) := by decide +kernel
theorem dX11_next_13 : decode cX11_next 13 = .ok (.invokespecial 194, 3) := by decide +kernel
theorem dX11_next_16 : decode cX11_next 16 = .ok (.athrow, 1) := by decide +kernel
theorem dX11_next_17 : decode cX11_next 17 = .ok (.iload_n 1, 1) := by decide +kernel
theorem dX11_next_18 : decode cX11_next 18 = .ok (.iconst 1, 1) := by decide +kernel
theorem dX11_next_19 : decode cX11_next 19 = .ok (.bipush 20, 2) := by decide +kernel
theorem dX11_next_21 : decode cX11_next 21 = .ok (.invokestatic 320, 3) := by decide +kernel
theorem dX11_next_24 : decode cX11_next 24 = .ok (.aload_n 0, 1) := by decide +kernel
theorem dX11_next_25 : decode cX11_next 25 = .ok (.getfield 98, 3) := by decide +kernel
theorem dX11_next_28 : decode cX11_next 28 = .ok (.iload_n 1, 1) := by decide +kernel
theorem dX11_next_29 : decode cX11_next 29 = .ok (.iload_n 2, 1) := by decide +kernel
theorem dX11_next_30 : decode cX11_next 30 = .ok (.invokevirtual 331, 3) := by decide +kernel
theorem dX11_next_33 : decode cX11_next 33 = .ok (.ireturn, 1) := by decide +kernel
theorem dX11_waits_0 : decode cX11_waits 0 = .ok (.aload_n 0, 1) := by decide +kernel
theorem dX11_waits_1 : decode cX11_waits 1 = .ok (.iload_n 1, 1) := by decide +kernel
theorem dX11_waits_2 : decode cX11_waits 2 = .ok (.invokevirtual 334, 3) := by decide +kernel
theorem dX11_waits_5 : decode cX11_waits 5 = .ok (.aload_n 0, 1) := by decide +kernel
theorem dX11_waits_6 : decode cX11_waits 6 = .ok (.getfield 98, 3) := by decide +kernel
theorem dX11_waits_9 : decode cX11_waits 9 = .ok (.iload_n 1, 1) := by decide +kernel
theorem dX11_waits_10 : decode cX11_waits 10 = .ok (.invokevirtual 337, 3) := by decide +kernel
theorem dX11_waits_13 : decode cX11_waits 13 = .ok (.ireturn, 1) := by decide +kernel
theorem dX11_longest_0 : decode cX11_longest 0 = .ok (.aload_n 0, 1) := by decide +kernel
theorem dX11_longest_1 : decode cX11_longest 1 = .ok (.iload_n 1, 1) := by decide +kernel
theorem dX11_longest_2 : decode cX11_longest 2 = .ok (.invokevirtual 340, 3) := by decide +kernel
theorem dX11_longest_5 : decode cX11_longest 5 = .ok (.iload_n 2, 1) := by decide +kernel
theorem dX11_longest_6 : decode cX11_longest 6 = .ok (.iconst 1, 1) := by decide +kernel
theorem dX11_longest_7 : decode cX11_longest 7 = .ok (.sipush 200, 3) := by decide +kernel
theorem dX11_longest_10 : decode cX11_longest 10 = .ok (.invokestatic 320, 3) := by decide +kernel
theorem dX11_longest_13 : decode cX11_longest 13 = .ok (.aload_n 0, 1) := by decide +kernel
theorem dX11_longest_14 : decode cX11_longest 14 = .ok (.getfield 98, 3) := by decide +kernel
theorem dX11_longest_17 : decode cX11_longest 17 = .ok (.iload_n 1, 1) := by decide +kernel
theorem dX11_longest_18 : decode cX11_longest 18 = .ok (.iload_n 2, 1) := by decide +kernel
theorem dX11_longest_19 : decode cX11_longest 19 = .ok (.invokevirtual 343, 3) := by decide +kernel
theorem dX11_longest_22 : decode cX11_longest 22 = .ok (.ireturn, 1) := by decide +kernel
theorem dX11_toShare_0 : decode cX11_toShare 0 = .ok (.aload_n 0, 1) := by decide +kernel
theorem dX11_toShare_1 : decode cX11_toShare 1 = .ok (.iload_n 1, 1) := by decide +kernel
theorem dX11_toShare_2 : decode cX11_toShare 2 = .ok (.invokevirtual 195, 3) := by decide +kernel
theorem dX11_toShare_5 : decode cX11_toShare 5 = .ok (.iload_n 2, 1) := by decide +kernel
theorem dX11_toShare_6 : decode cX11_toShare 6 = .ok (.iconst 1, 1) := by decide +kernel
theorem dX11_toShare_7 : decode cX11_toShare 7 = .ok (.sipush 999, 3) := by decide +kernel
theorem dX11_toShare_10 : decode cX11_toShare 10 = .ok (.invokestatic 320, 3) := by decide +kernel
theorem dX11_toShare_13 : decode cX11_toShare 13 = .ok (.iload_n 3, 1) := by decide +kernel
theorem dX11_toShare_14 : decode cX11_toShare 14 = .ok (.iconst 1, 1) := by decide +kernel
theorem dX11_toShare_15 : decode cX11_toShare 15 = .ok (.sipush 200, 3) := by decide +kernel
theorem dX11_toShare_18 : decode cX11_toShare 18 = .ok (.invokestatic 320, 3) := by decide +kernel
theorem dX11_toShare_21 : decode cX11_toShare 21 = .ok (.aload_n 0, 1) := by decide +kernel
theorem dX11_toShare_22 : decode cX11_toShare 22 = .ok (.getfield 98, 3) := by decide +kernel
theorem dX11_toShare_25 : decode cX11_toShare 25 = .ok (.iload_n 1, 1) := by decide +kernel
theorem dX11_toShare_26 : decode cX11_toShare 26 = .ok (.iload_n 2, 1) := by decide +kernel
theorem dX11_toShare_27 : decode cX11_toShare 27 = .ok (.iload_n 3, 1) := by decide +kernel
theorem dX11_toShare_28 : decode cX11_toShare 28 = .ok (.invokevirtual 346, 3) := by decide +kernel
theorem dX11_toShare_31 : decode cX11_toShare 31 = .ok (.ireturn, 1) := by decide +kernel
theorem dX11_toCap_0 : decode cX11_toCap 0 = .ok (.aload_n 0, 1) := by decide +kernel
theorem dX11_toCap_1 : decode cX11_toCap 1 = .ok (.iload_n 1, 1) := by decide +kernel
theorem dX11_toCap_2 : decode cX11_toCap 2 = .ok (.invokevirtual 195, 3) := by decide +kernel
theorem dX11_toCap_5 : decode cX11_toCap 5 = .ok (.aload_n 0, 1) := by decide +kernel
theorem dX11_toCap_6 : decode cX11_toCap 6 = .ok (.iload_n 2, 1) := by decide +kernel
theorem dX11_toCap_7 : decode cX11_toCap 7 = .ok (.invokevirtual 334, 3) := by decide +kernel
theorem dX11_toCap_10 : decode cX11_toCap 10 = .ok (.iload_n 3, 1) := by decide +kernel
theorem dX11_toCap_11 : decode cX11_toCap 11 = .ok (.iconst 0, 1) := by decide +kernel
theorem dX11_toCap_12 : decode cX11_toCap 12 = .ok (.sipush 399, 3) := by decide +kernel
theorem dX11_toCap_15 : decode cX11_toCap 15 = .ok (.invokestatic 320, 3) := by decide +kernel
theorem dX11_toCap_18 : decode cX11_toCap 18 = .ok (.aload_n 0, 1) := by decide +kernel
theorem dX11_toCap_19 : decode cX11_toCap 19 = .ok (.getfield 98, 3) := by decide +kernel
theorem dX11_toCap_22 : decode cX11_toCap 22 = .ok (.iload_n 1, 1) := by decide +kernel
theorem dX11_toCap_23 : decode cX11_toCap 23 = .ok (.iload_n 2, 1) := by decide +kernel
theorem dX11_toCap_24 : decode cX11_toCap 24 = .ok (.iload_n 3, 1) := by decide +kernel
theorem dX11_toCap_25 : decode cX11_toCap 25 = .ok (.invokevirtual 349, 3) := by decide +kernel
theorem dX11_toCap_28 : decode cX11_toCap 28 = .ok (.ireturn, 1) := by decide +kernel
theorem dX11_blocked_0 : decode cX11_blocked 0 = .ok (.aload_n 0, 1) := by decide +kernel
theorem dX11_blocked_1 : decode cX11_blocked 1 = .ok (.iload_n 1, 1) := by decide +kernel
theorem dX11_blocked_2 : decode cX11_blocked 2 = .ok (.invokevirtual 334, 3) := by decide +kernel
theorem dX11_blocked_5 : decode cX11_blocked 5 = .ok (.aload_n 0, 1) := by decide +kernel
theorem dX11_blocked_6 : decode cX11_blocked 6 = .ok (.iload_n 2, 1) := by decide +kernel
theorem dX11_blocked_7 : decode cX11_blocked 7 = .ok (.invokevirtual 340, 3) := by decide +kernel
theorem dX11_blocked_10 : decode cX11_blocked 10 = .ok (.aload_n 0, 1) := by decide +kernel
theorem dX11_blocked_11 : decode cX11_blocked 11 = .ok (.getfield 98, 3) := by decide +kernel
theorem dX11_blocked_14 : decode cX11_blocked 14 = .ok (.iload_n 1, 1) := by decide +kernel
theorem dX11_blocked_15 : decode cX11_blocked 15 = .ok (.iload_n 2, 1) := by decide +kernel
theorem dX11_blocked_16 : decode cX11_blocked 16 = .ok (.invokevirtual 352, 3) := by decide +kernel
theorem dX11_blocked_19 : decode cX11_blocked 19 = .ok (.ireturn, 1) := by decide +kernel
theorem dX11_spread_0 : decode cX11_spread 0 = .ok (.iload_n 1, 1) := by decide +kernel
theorem dX11_spread_1 : decode cX11_spread 1 = .ok (.iconst (-1), 1) := by decide +kernel
theorem dX11_spread_2 : decode cX11_spread 2 = .ok (.if_icmp .eq 8, 3) := by decide +kernel
theorem dX11_spread_5 : decode cX11_spread 5 = .ok (.aload_n 0, 1) := by decide +kernel
theorem dX11_spread_6 : decode cX11_spread 6 = .ok (.iload_n 1, 1) := by decide +kernel
theorem dX11_spread_7 : decode cX11_spread 7 = .ok (.invokevirtual 195, 3) := by decide +kernel
theorem dX11_spread_10 : decode cX11_spread 10 = .ok (.iload_n 2, 1) := by decide +kernel
theorem dX11_spread_11 : decode cX11_spread 11 = .ok (.iconst 0, 1) := by decide +kernel
theorem dX11_spread_12 : decode cX11_spread 12 = .ok (.sipush 400, 3) := by decide +kernel
theorem dX11_spread_15 : decode cX11_spread 15 = .ok (.invokestatic 320, 3) := by decide +kernel
theorem dX11_spread_18 : decode cX11_spread 18 = .ok (.aload_n 0, 1) := by decide +kernel
theorem dX11_spread_19 : decode cX11_spread 19 = .ok (.getfield 98, 3) := by decide +kernel
theorem dX11_spread_22 : decode cX11_spread 22 = .ok (.iload_n 1, 1) := by decide +kernel
theorem dX11_spread_23 : decode cX11_spread 23 = .ok (.iconst (-1), 1) := by decide +kernel
theorem dX11_spread_24 : decode cX11_spread 24 = .ok (.if_icmp .ne 8, 3) := by decide +kernel
theorem dX11_spread_27 : decode cX11_spread 27 = .ok (.bipush 12, 2) := by decide +kernel
theorem dX11_spread_29 : decode cX11_spread 29 = .ok (.goto 4, 3) := by decide +kernel
theorem dX11_spread_32 : decode cX11_spread 32 = .ok (.iload_n 1, 1) := by decide +kernel
theorem dX11_spread_33 : decode cX11_spread 33 = .ok (.iload_n 2, 1) := by decide +kernel
theorem dX11_spread_34 : decode cX11_spread 34 = .ok (.invokevirtual 355, 3) := by decide +kernel
theorem dX11_spread_37 : decode cX11_spread 37 = .ok (.ireturn, 1) := by decide +kernel
theorem dX11_note_0 : decode cX11_note 0 = .ok (.aload_n 0, 1) := by decide +kernel
theorem dX11_note_1 : decode cX11_note 1 = .ok (.getfield 26, 3) := by decide +kernel
theorem dX11_note_4 : decode cX11_note 4 = .ok (.iload_n 1, 1) := by decide +kernel
theorem dX11_note_5 : decode cX11_note 5 = .ok (.invokevirtual 278, 3) := by decide +kernel
theorem dX11_note_8 : decode cX11_note 8 = .ok (.ifCond .eq 28, 3) := by decide +kernel
theorem dX11_note_11 : decode cX11_note 11 = .ok (.iload_n 2, 1) := by decide +kernel
theorem dX11_note_12 : decode cX11_note 12 = .ok (.ifCond .lt 24, 3) := by decide +kernel
theorem dX11_note_15 : decode cX11_note 15 = .ok (.iload_n 2, 1) := by decide +kernel
theorem dX11_note_16 : decode cX11_note 16 = .ok (.bipush 100, 2) := by decide +kernel
theorem dX11_note_18 : decode cX11_note 18 = .ok (.if_icmp .gt 18, 3) := by decide +kernel
theorem dX11_note_21 : decode cX11_note 21 = .ok (.iload_n 3, 1) := by decide +kernel
theorem dX11_note_22 : decode cX11_note 22 = .ok (.ifCond .lt 14, 3) := by decide +kernel
theorem dX11_note_25 : decode cX11_note 25 = .ok (.iload_n 3, 1) := by decide +kernel
theorem dX11_note_26 : decode cX11_note 26 = .ok (.sipush 9999, 3) := by decide +kernel
theorem dX11_note_29 : decode cX11_note 29 = .ok (.if_icmp .gt 7, 3) := by decide +kernel
theorem dX11_note_32 : decode cX11_note 32 = .ok (.iconst 1, 1) := by decide +kernel
theorem dX11_note_33 : decode cX11_note 33 = .ok (.goto 4, 3) := by decide +kernel
theorem dX11_note_36 : decode cX11_note 36 = .ok (.iconst 0, 1) := by decide +kernel
theorem dX11_note_37 : decode cX11_note 37 = .ok (.istore 4, 2) := by decide +kernel
theorem dX11_note_39 : decode cX11_note 39 = .ok (.iload 4, 2) := by decide +kernel
theorem dX11_note_41 : decode cX11_note 41 = .ok (.ifCond .eq 15, 3) := by decide +kernel
theorem dX11_note_44 : decode cX11_note 44 = .ok (.aload_n 0, 1) := by decide +kernel
theorem dX11_note_45 : decode cX11_note 45 = .ok (.getfield 61, 3) := by decide +kernel
theorem dX11_note_48 : decode cX11_note 48 = .ok (.getfield 189, 3) := by decide +kernel
theorem dX11_note_51 : decode cX11_note 51 = .ok (.bipush 8, 2) := by decide +kernel
theorem dX11_note_53 : decode cX11_note 53 = .ok (.if_icmp .lt 9, 3) := by decide +kernel
theorem dX11_note_56 : decode cX11_note 56 = .ok (.aload_n 0, 1) := by decide +kernel
theorem dX11_note_57 : decode cX11_note 57 = .ok (.iconst 2, 1) := by decide +kernel
theorem dX11_note_58 : decode cX11_note 58 = .ok (.invokevirtual 264, 3) := by decide +kernel
theorem dX11_note_61 : decode cX11_note 61 = .ok (.ireturn, 1) := by decide +kernel
theorem dX11_note_62 : decode cX11_note 62 = .ok (.aload_n 0, 1) := by decide +kernel
theorem dX11_note_63 : decode cX11_note 63 = .ok (.getfield 61, 3) := by decide +kernel
theorem dX11_note_66 : decode cX11_note 66 = .ok (.iload_n 1, 1) := by decide +kernel
theorem dX11_note_67 : decode cX11_note 67 = .ok (.iload_n 2, 1) := by decide +kernel
theorem dX11_note_68 : decode cX11_note 68 = .ok (.iload_n 3, 1) := by decide +kernel
theorem dX11_note_69 : decode cX11_note 69 = .ok (.invokevirtual 358, 3) := by decide +kernel
theorem dX11_note_72 : decode cX11_note 72 = .ok (.aload_n 0, 1) := by decide +kernel
theorem dX11_note_73 : decode cX11_note 73 = .ok (.getfield 61, 3) := by decide +kernel
theorem dX11_note_76 : decode cX11_note 76 = .ok (.getfield 189, 3) := by decide +kernel
theorem dX11_note_79 : decode cX11_note 79 = .ok (.ireturn, 1) := by decide +kernel
theorem dX11_other_0 : decode cX11_other 0 = .ok (.iload_n 1, 1) := by decide +kernel
theorem dX11_other_1 : decode cX11_other 1 = .ok (.ifCond .lt 8, 3) := by decide +kernel
theorem dX11_other_4 : decode cX11_other 4 = .ok (.iload_n 1, 1) := by decide +kernel
theorem dX11_other_5 : decode cX11_other 5 = .ok (.iconst 2, 1) := by decide +kernel
theorem dX11_other_6 : decode cX11_other 6 = .ok (.if_icmp .le 11, 3) := by decide +kernel
theorem dX11_other_9 : decode cX11_other 9 = .ok (.new 192, 3) := by decide +kernel
theorem dX11_other_12 : decode cX11_other 12 = .ok (.dup, 1) := by decide +kernel
theorem dX11_other_13 : decode cX11_other 13 = .ok (.invokespecial 194, 3) := by decide +kernel
theorem dX11_other_16 : decode cX11_other 16 = .ok (.athrow, 1) := by decide +kernel
theorem dX11_other_17 : decode cX11_other 17 = .ok (.iload_n 1, 1) := by decide +kernel
theorem dX11_other_18 : decode cX11_other 18 = .ok (.iconst 2, 1) := by decide +kernel
theorem dX11_other_19 : decode cX11_other 19 = .ok (.if_icmp .ne 19, 3) := by decide +kernel
theorem dX11_other_22 : decode cX11_other 22 = .ok (.aload_n 0, 1) := by decide +kernel
theorem dX11_other_23 : decode cX11_other 23 = .ok (.getfield 107, 3) := by decide +kernel
theorem dX11_other_26 : decode cX11_other 26 = .ok (.invokevirtual 361, 3) := by decide +kernel
theorem dX11_other_29 : decode cX11_other 29 = .ok (.ifCond .eq 7, 3) := by decide +kernel
theorem dX11_other_32 : decode cX11_other 32 = .ok (.iconst 1, 1) := by decide +kernel
theorem dX11_other_33 : decode cX11_other 33 = .ok (.goto 4, 3) := by decide +kernel
theorem dX11_other_36 : decode cX11_other 36 = .ok (.iconst 0, 1) := by decide +kernel
theorem dX11_other_37 : decode cX11_other 37 = .ok (.ireturn, 1) := by decide +kernel
theorem dX11_other_38 : decode cX11_other 38 = .ok (.aload_n 0, 1) := by decide +kernel
theorem dX11_other_39 : decode cX11_other 39 = .ok (.getfield 107, 3) := by decide +kernel
theorem dX11_other_42 : decode cX11_other 42 = .ok (.iconst 0, 1) := by decide +kernel
theorem dX11_other_43 : decode cX11_other 43 = .ok (.invokevirtual 365, 3) := by decide +kernel
theorem dX11_other_46 : decode cX11_other 46 = .ok (.iload_n 1, 1) := by decide +kernel
theorem dX11_other_47 : decode cX11_other 47 = .ok (.ifCond .ne 13, 3) := by decide +kernel
theorem dX11_other_50 : decode cX11_other 50 = .ok (.aload_n 0, 1) := by decide +kernel
theorem dX11_other_51 : decode cX11_other 51 = .ok (.getfield 107, 3) := by decide +kernel
theorem dX11_other_54 : decode cX11_other 54 = .ok (.getfield 369, 3) := by decide +kernel
theorem dX11_other_57 : decode cX11_other 57 = .ok (.goto 10, 3) := by decide +kernel
theorem dX11_other_60 : decode cX11_other 60 = .ok (.aload_n 0, 1) := by decide +kernel
theorem dX11_other_61 : decode cX11_other 61 = .ok (.getfield 107, 3) := by decide +kernel
theorem dX11_other_64 : decode cX11_other 64 = .ok (.getfield 370, 3) := by decide +kernel
theorem dX11_other_67 : decode cX11_other 67 = .ok (.ireturn, 1) := by decide +kernel
theorem dX11_look_0 : decode cX11_look 0 = .ok (.iload_n 1, 1) := by decide +kernel
theorem dX11_look_1 : decode cX11_look 1 = .ok (.ifCond .lt 8, 3) := by decide +kernel
theorem dX11_look_4 : decode cX11_look 4 = .ok (.iload_n 1, 1) := by decide +kernel
theorem dX11_look_5 : decode cX11_look 5 = .ok (.iconst 1, 1) := by decide +kernel
theorem dX11_look_6 : decode cX11_look 6 = .ok (.if_icmp .le 11, 3) := by decide +kernel
theorem dX11_look_9 : decode cX11_look 9 = .ok (.new 192, 3) := by decide +kernel
theorem dX11_look_12 : decode cX11_look 12 = .ok (.dup, 1) := by decide +kernel
theorem dX11_look_13 : decode cX11_look 13 = .ok (.invokespecial 194, 3) := by decide +kernel
theorem dX11_look_16 : decode cX11_look 16 = .ok (.athrow, 1) := by decide +kernel
theorem dX11_look_17 : decode cX11_look 17 = .ok (.aload_n 0, 1) := by decide +kernel
theorem dX11_look_18 : decode cX11_look 18 = .ok (.getfield 107, 3) := by decide +kernel
theorem dX11_look_21 : decode cX11_look 21 = .ok (.iconst 1, 1) := by decide +kernel
theorem dX11_look_22 : decode cX11_look 22 = .ok (.invokevirtual 365, 3) := by decide +kernel
theorem dX11_look_25 : decode cX11_look 25 = .ok (.iload_n 1, 1) := by decide +kernel
theorem dX11_look_26 : decode cX11_look 26 = .ok (.ifCond .ne 13, 3) := by decide +kernel
theorem dX11_look_29 : decode cX11_look 29 = .ok (.aload_n 0, 1) := by decide +kernel
theorem dX11_look_30 : decode cX11_look 30 = .ok (.getfield 107, 3) := by decide +kernel
theorem dX11_look_33 : decode cX11_look 33 = .ok (.invokevirtual 373, 3) := by decide +kernel
theorem dX11_look_36 : decode cX11_look 36 = .ok (.goto 17, 3) := by decide +kernel
theorem dX11_look_39 : decode cX11_look 39 = .ok (.aload_n 0, 1) := by decide +kernel
theorem dX11_look_40 : decode cX11_look 40 = .ok (.getfield 107, 3) := by decide +kernel
theorem dX11_look_43 : decode cX11_look 43 = .ok (.aload_n 0, 1) := by decide +kernel
theorem dX11_look_44 : decode cX11_look 44 = .ok (.getfield 107, 3) := by decide +kernel
theorem dX11_look_47 : decode cX11_look 47 = .ok (.invokevirtual 373, 3) := by decide +kernel
theorem dX11_look_50 : decode cX11_look 50 = .ok (.invokevirtual 376, 3) := by decide +kernel
theorem dX11_look_53 : decode cX11_look 53 = .ok (.ireturn, 1) := by decide +kernel
theorem dX11_forget_0 : decode cX11_forget 0 = .ok (.aload_n 0, 1) := by decide +kernel
theorem dX11_forget_1 : decode cX11_forget 1 = .ok (.getfield 61, 3) := by decide +kernel
theorem dX11_forget_4 : decode cX11_forget 4 = .ok (.invokevirtual 149, 3) := by decide +kernel
theorem dX11_forget_7 : decode cX11_forget 7 = .ok (.return_, 1) := by decide +kernel
theorem dX11_storms_0 : decode cX11_storms 0 = .ok (.aload_n 0, 1) := by decide +kernel
theorem dX11_storms_1 : decode cX11_storms 1 = .ok (.getfield 26, 3) := by decide +kernel
theorem dX11_storms_4 : decode cX11_storms 4 = .ok (.iload_n 1, 1) := by decide +kernel
theorem dX11_storms_5 : decode cX11_storms 5 = .ok (.invokevirtual 302, 3) := by decide +kernel
theorem dX11_storms_8 : decode cX11_storms 8 = .ok (.ifCond .ne 11, 3) := by decide +kernel
theorem dX11_storms_11 : decode cX11_storms 11 = .ok (.new 192, 3) := by decide +kernel
theorem dX11_storms_14 : decode cX11_storms 14 = .ok (.dup, 1) := by decide +kernel
theorem dX11_storms_15 : decode cX11_storms 15 = .ok (.invokespecial 194, 3) := by decide +kernel
theorem dX11_storms_18 : decode cX11_storms 18 = .ok (.athrow, 1) := by decide +kernel
theorem dX11_storms_19 : decode cX11_storms 19 = .ok (.iload_n 2, 1) := by decide +kernel
theorem dX11_storms_20 : decode cX11_storms 20 = .ok (.iconst 1, 1) := by decide +kernel
theorem dX11_storms_21 : decode cX11_storms 21 = .ok (.iconst 5, 1) := by decide +kernel
theorem dX11_storms_22 : decode cX11_storms 22 = .ok (.invokestatic 320, 3) := by decide +kernel
theorem dX11_storms_25 : decode cX11_storms 25 = .ok (.iload_n 3, 1) := by decide +kernel
theorem dX11_storms_26 : decode cX11_storms 26 = .ok (.iconst 0, 1) := by decide +kernel
theorem dX11_storms_27 : decode cX11_storms 27 = .ok (.bipush 10, 2) := by decide +kernel
theorem dX11_storms_29 : decode cX11_storms 29 = .ok (.invokestatic 320, 3) := by decide +kernel
theorem dX11_storms_32 : decode cX11_storms 32 = .ok (.aload_n 0, 1) := by decide +kernel
theorem dX11_storms_33 : decode cX11_storms 33 = .ok (.getfield 114, 3) := by decide +kernel
theorem dX11_storms_36 : decode cX11_storms 36 = .ok (.iload_n 1, 1) := by decide +kernel
theorem dX11_storms_37 : decode cX11_storms 37 = .ok (.iload_n 2, 1) := by decide +kernel
theorem dX11_storms_38 : decode cX11_storms 38 = .ok (.iload_n 3, 1) := by decide +kernel
theorem dX11_storms_39 : decode cX11_storms 39 = .ok (.iload 4, 2) := by decide +kernel
theorem dX11_storms_41 : decode cX11_storms 41 = .ok (.invokevirtual 379, 3) := by decide +kernel
theorem dX11_storms_44 : decode cX11_storms 44 = .ok (.ireturn, 1) := by decide +kernel
theorem dX11_years_0 : decode cX11_years 0 = .ok (.iload_n 3, 1) := by decide +kernel
theorem dX11_years_1 : decode cX11_years 1 = .ok (.ifCond .lt 8, 3) := by decide +kernel
theorem dX11_years_4 : decode cX11_years 4 = .ok (.iload_n 3, 1) := by decide +kernel
theorem dX11_years_5 : decode cX11_years 5 = .ok (.iconst 2, 1) := by decide +kernel
theorem dX11_years_6 : decode cX11_years 6 = .ok (.if_icmp .le 11, 3) := by decide +kernel
theorem dX11_years_9 : decode cX11_years 9 = .ok (.new 192, 3) := by decide +kernel
theorem dX11_years_12 : decode cX11_years 12 = .ok (.dup, 1) := by decide +kernel
theorem dX11_years_13 : decode cX11_years 13 = .ok (.invokespecial 194, 3) := by decide +kernel
theorem dX11_years_16 : decode cX11_years 16 = .ok (.athrow, 1) := by decide +kernel
theorem dX11_years_17 : decode cX11_years 17 = .ok (.iload_n 2, 1) := by decide +kernel
theorem dX11_years_18 : decode cX11_years 18 = .ok (.iconst 0, 1) := by decide +kernel
theorem dX11_years_19 : decode cX11_years 19 = .ok (.bipush 60, 2) := by decide +kernel
theorem dX11_years_21 : decode cX11_years 21 = .ok (.invokestatic 320, 3) := by decide +kernel
theorem dX11_years_24 : decode cX11_years 24 = .ok (.aload_n 0, 1) := by decide +kernel
theorem dX11_years_25 : decode cX11_years 25 = .ok (.getfield 114, 3) := by decide +kernel
theorem dX11_years_28 : decode cX11_years 28 = .ok (.iload_n 1, 1) := by decide +kernel
theorem dX11_years_29 : decode cX11_years 29 = .ok (.iload_n 2, 1) := by decide +kernel
theorem dX11_years_30 : decode cX11_years 30 = .ok (.iload_n 3, 1) := by decide +kernel
theorem dX11_years_31 : decode cX11_years 31 = .ok (.invokevirtual 383, 3) := by decide +kernel
theorem dX11_years_34 : decode cX11_years 34 = .ok (.ireturn, 1) := by decide +kernel
theorem dX11_told_0 : decode cX11_told 0 = .ok (.aload_n 0, 1) := by decide +kernel
theorem dX11_told_1 : decode cX11_told 1 = .ok (.iload_n 1, 1) := by decide +kernel
theorem dX11_told_2 : decode cX11_told 2 = .ok (.invokevirtual 195, 3) := by decide +kernel
theorem dX11_told_5 : decode cX11_told 5 = .ok (.aload_n 0, 1) := by decide +kernel
theorem dX11_told_6 : decode cX11_told 6 = .ok (.getfield 121, 3) := by decide +kernel
theorem dX11_told_9 : decode cX11_told 9 = .ok (.iload_n 1, 1) := by decide +kernel
theorem dX11_told_10 : decode cX11_told 10 = .ok (.aload_n 0, 1) := by decide +kernel
theorem dX11_told_11 : decode cX11_told 11 = .ok (.getfield 26, 3) := by decide +kernel
theorem dX11_told_14 : decode cX11_told 14 = .ok (.aload_n 0, 1) := by decide +kernel
theorem dX11_told_15 : decode cX11_told 15 = .ok (.getfield 47, 3) := by decide +kernel
theorem dX11_told_18 : decode cX11_told 18 = .ok (.getfield 233, 3) := by decide +kernel
theorem dX11_told_21 : decode cX11_told 21 = .ok (.invokevirtual 386, 3) := by decide +kernel
theorem dX11_told_24 : decode cX11_told 24 = .ok (.iload_n 2, 1) := by decide +kernel
theorem dX11_told_25 : decode cX11_told 25 = .ok (.iconst (-1), 1) := by decide +kernel
theorem dX11_told_26 : decode cX11_told 26 = .ok (.if_icmp .ne 11, 3) := by decide +kernel
theorem dX11_told_29 : decode cX11_told 29 = .ok (.aload_n 0, 1) := by decide +kernel
theorem dX11_told_30 : decode cX11_told 30 = .ok (.getfield 121, 3) := by decide +kernel
theorem dX11_told_33 : decode cX11_told 33 = .ok (.getfield 390, 3) := by decide +kernel
theorem dX11_told_36 : decode cX11_told 36 = .ok (.ireturn, 1) := by decide +kernel
theorem dX11_told_37 : decode cX11_told 37 = .ok (.iload_n 2, 1) := by decide +kernel
theorem dX11_told_38 : decode cX11_told 38 = .ok (.ifCond .lt 14, 3) := by decide +kernel
theorem dX11_told_41 : decode cX11_told 41 = .ok (.iload_n 2, 1) := by decide +kernel
theorem dX11_told_42 : decode cX11_told 42 = .ok (.aload_n 0, 1) := by decide +kernel
theorem dX11_told_43 : decode cX11_told 43 = .ok (.getfield 121, 3) := by decide +kernel
theorem dX11_told_46 : decode cX11_told 46 = .ok (.getfield 390, 3) := by decide +kernel
theorem dX11_told_49 : decode cX11_told 49 = .ok (.if_icmp .lt 11, 3) := by decide +kernel
theorem dX11_told_52 : decode cX11_told 52 = .ok (.new 192, 3) := by decide +kernel
theorem dX11_told_55 : decode cX11_told 55 = .ok (.dup, 1) := by decide +kernel
theorem dX11_told_56 : decode cX11_told 56 = .ok (.invokespecial 194, 3) := by decide +kernel
theorem dX11_told_59 : decode cX11_told 59 = .ok (.athrow, 1) := by decide +kernel
theorem dX11_told_60 : decode cX11_told 60 = .ok (.aload_n 0, 1) := by decide +kernel
theorem dX11_told_61 : decode cX11_told 61 = .ok (.getfield 121, 3) := by decide +kernel
theorem dX11_told_64 : decode cX11_told 64 = .ok (.getfield 393, 3) := by decide +kernel
theorem dX11_told_67 : decode cX11_told 67 = .ok (.iload_n 2, 1) := by decide +kernel
theorem dX11_told_68 : decode cX11_told 68 = .ok (.iaload, 1) := by decide +kernel
theorem dX11_told_69 : decode cX11_told 69 = .ok (.ireturn, 1) := by decide +kernel
theorem dX11_image_0 : decode cX11_image 0 = .ok (.aload_n 0, 1) := by decide +kernel
theorem dX11_image_1 : decode cX11_image 1 = .ok (.getfield 69, 3) := by decide +kernel
theorem dX11_image_4 : decode cX11_image 4 = .ok (.aload_n 0, 1) := by decide +kernel
theorem dX11_image_5 : decode cX11_image 5 = .ok (.getfield 47, 3) := by decide +kernel
theorem dX11_image_8 : decode cX11_image 8 = .ok (.invokevirtual 396, 3) := by decide +kernel
theorem dX11_image_11 : decode cX11_image 11 = .ok (.aload_n 0, 1) := by decide +kernel
theorem dX11_image_12 : decode cX11_image 12 = .ok (.getfield 72, 3) := by decide +kernel
theorem dX11_image_15 : decode cX11_image 15 = .ok (.aload_n 0, 1) := by decide +kernel
theorem dX11_image_16 : decode cX11_image 16 = .ok (.getfield 54, 3) := by decide +kernel
theorem dX11_image_19 : decode cX11_image 19 = .ok (.invokevirtual 398, 3) := by decide +kernel
theorem dX11_image_22 : decode cX11_image 22 = .ok (.aload_n 0, 1) := by decide +kernel
theorem dX11_image_23 : decode cX11_image 23 = .ok (.getfield 75, 3) := by decide +kernel
theorem dX11_image_26 : decode cX11_image 26 = .ok (.aload_n 0, 1) := by decide +kernel
theorem dX11_image_27 : decode cX11_image 27 = .ok (.getfield 61, 3) := by decide +kernel
theorem dX11_image_30 : decode cX11_image 30 = .ok (.invokevirtual 401, 3) := by decide +kernel
theorem dX11_image_33 : decode cX11_image 33 = .ok (.aload_n 0, 1) := by decide +kernel
theorem dX11_image_34 : decode cX11_image 34 = .ok (.getfield 20, 3) := by decide +kernel
theorem dX11_image_37 : decode cX11_image 37 = .ok (.iconst 0, 1) := by decide +kernel
theorem dX11_image_38 : decode cX11_image 38 = .ok (.aload_n 0, 1) := by decide +kernel
theorem dX11_image_39 : decode cX11_image 39 = .ok (.getfield 78, 3) := by decide +kernel
theorem dX11_image_42 : decode cX11_image 42 = .ok (.iconst 0, 1) := by decide +kernel
theorem dX11_image_43 : decode cX11_image 43 = .ok (.aload_n 0, 1) := by decide +kernel
theorem dX11_image_44 : decode cX11_image 44 = .ok (.getfield 20, 3) := by decide +kernel
theorem dX11_image_47 : decode cX11_image 47 = .ok (.arraylength, 1) := by decide +kernel
theorem dX11_image_48 : decode cX11_image 48 = .ok (.invokestatic 404, 3) := by decide +kernel
theorem dX11_image_51 : decode cX11_image 51 = .ok (.aload_n 0, 1) := by decide +kernel
theorem dX11_image_52 : decode cX11_image 52 = .ok (.iconst 1, 1) := by decide +kernel
theorem dX11_image_53 : decode cX11_image 53 = .ok (.putfield 65, 3) := by decide +kernel
theorem dX11_image_56 : decode cX11_image 56 = .ok (.return_, 1) := by decide +kernel
theorem dX11_restore_0 : decode cX11_restore 0 = .ok (.aload_n 0, 1) := by decide +kernel
theorem dX11_restore_1 : decode cX11_restore 1 = .ok (.getfield 65, 3) := by decide +kernel
theorem dX11_restore_4 : decode cX11_restore 4 = .ok (.ifCond .ne 5, 3) := by decide +kernel
theorem dX11_restore_7 : decode cX11_restore 7 = .ok (.iconst 0, 1) := by decide +kernel
theorem dX11_restore_8 : decode cX11_restore 8 = .ok (.ireturn, 1) := by decide +kernel
theorem dX11_restore_9 : decode cX11_restore 9 = .ok (.aload_n 0, 1) := by decide +kernel
theorem dX11_restore_10 : decode cX11_restore 10 = .ok (.getfield 47, 3) := by decide +kernel
theorem dX11_restore_13 : decode cX11_restore 13 = .ok (.aload_n 0, 1) := by decide +kernel
theorem dX11_restore_14 : decode cX11_restore 14 = .ok (.getfield 69, 3) := by decide +kernel
theorem dX11_restore_17 : decode cX11_restore 17 = .ok (.invokevirtual 396, 3) := by decide +kernel
theorem dX11_restore_20 : decode cX11_restore 20 = .ok (.aload_n 0, 1) := by decide +kernel
theorem dX11_restore_21 : decode cX11_restore 21 = .ok (.getfield 54, 3) := by decide +kernel
theorem dX11_restore_24 : decode cX11_restore 24 = .ok (.aload_n 0, 1) := by decide +kernel
theorem dX11_restore_25 : decode cX11_restore 25 = .ok (.getfield 72, 3) := by decide +kernel
theorem dX11_restore_28 : decode cX11_restore 28 = .ok (.invokevirtual 398, 3) := by decide +kernel
theorem dX11_restore_31 : decode cX11_restore 31 = .ok (.aload_n 0, 1) := by decide +kernel
theorem dX11_restore_32 : decode cX11_restore 32 = .ok (.getfield 61, 3) := by decide +kernel
theorem dX11_restore_35 : decode cX11_restore 35 = .ok (.aload_n 0, 1) := by decide +kernel
theorem dX11_restore_36 : decode cX11_restore 36 = .ok (.getfield 75, 3) := by decide +kernel
theorem dX11_restore_39 : decode cX11_restore 39 = .ok (.invokevirtual 401, 3) := by decide +kernel
theorem dX11_restore_42 : decode cX11_restore 42 = .ok (.aload_n 0, 1) := by decide +kernel
theorem dX11_restore_43 : decode cX11_restore 43 = .ok (.getfield 78, 3) := by decide +kernel
theorem dX11_restore_46 : decode cX11_restore 46 = .ok (.iconst 0, 1) := by decide +kernel
theorem dX11_restore_47 : decode cX11_restore 47 = .ok (.aload_n 0, 1) := by decide +kernel
theorem dX11_restore_48 : decode cX11_restore 48 = .ok (.getfield 20, 3) := by decide +kernel
theorem dX11_restore_51 : decode cX11_restore 51 = .ok (.iconst 0, 1) := by decide +kernel
theorem dX11_restore_52 : decode cX11_restore 52 = .ok (.aload_n 0, 1) := by decide +kernel
theorem dX11_restore_53 : decode cX11_restore 53 = .ok (.getfield 20, 3) := by decide +kernel
theorem dX11_restore_56 : decode cX11_restore 56 = .ok (.arraylength, 1) := by decide +kernel
theorem dX11_restore_57 : decode cX11_restore 57 = .ok (.invokestatic 404, 3) := by decide +kernel
theorem dX11_restore_60 : decode cX11_restore 60 = .ok (.iconst 1, 1) := by decide +kernel
theorem dX11_restore_61 : decode cX11_restore 61 = .ok (.ireturn, 1) := by decide +kernel
theorem dX11_refuse_0 : decode cX11_refuse 0 = .ok (.aload_n 0, 1) := by decide +kernel
theorem dX11_refuse_1 : decode cX11_refuse 1 = .ok (.getfield 20, 3) := by decide +kernel
theorem dX11_refuse_4 : decode cX11_refuse 4 = .ok (.iload_n 1, 1) := by decide +kernel
theorem dX11_refuse_5 : decode cX11_refuse 5 = .ok (.dup2, 1) := by decide +kernel
theorem dX11_refuse_6 : decode cX11_refuse 6 = .ok (.iaload, 1) := by decide +kernel
theorem dX11_refuse_7 : decode cX11_refuse 7 = .ok (.iconst 1, 1) := by decide +kernel
theorem dX11_refuse_8 : decode cX11_refuse 8 = .ok (.iadd, 1) := by decide +kernel
theorem dX11_refuse_9 : decode cX11_refuse 9 = .ok (.iastore, 1) := by decide +kernel
theorem dX11_refuse_10 : decode cX11_refuse 10 = .ok (.iconst (-1), 1) := by decide +kernel
theorem dX11_refuse_11 : decode cX11_refuse 11 = .ok (.ireturn, 1) := by decide +kernel
theorem dX11_isCurve_0 : decode cX11_isCurve 0 = .ok (.iload_n 0, 1) := by decide +kernel
theorem dX11_isCurve_1 : decode cX11_isCurve 1 = .ok (.ifCond .lt 12, 3) := by decide +kernel
theorem dX11_isCurve_4 : decode cX11_isCurve 4 = .ok (.iload_n 0, 1) := by decide +kernel
theorem dX11_isCurve_5 : decode cX11_isCurve 5 = .ok (.iconst 3, 1) := by decide +kernel
theorem dX11_isCurve_6 : decode cX11_isCurve 6 = .ok (.if_icmp .ge 7, 3) := by decide +kernel
theorem dX11_isCurve_9 : decode cX11_isCurve 9 = .ok (.iconst 1, 1) := by decide +kernel
theorem dX11_isCurve_10 : decode cX11_isCurve 10 = .ok (.goto 4, 3) := by decide +kernel
theorem dX11_isCurve_13 : decode cX11_isCurve 13 = .ok (.iconst 0, 1) := by decide +kernel
theorem dX11_isCurve_14 : decode cX11_isCurve 14 = .ok (.ireturn, 1) := by decide +kernel
theorem dX11_needClass_0 : decode cX11_needClass 0 = .ok (.aload_n 0, 1) := by decide +kernel
theorem dX11_needClass_1 : decode cX11_needClass 1 = .ok (.getfield 26, 3) := by decide +kernel
theorem dX11_needClass_4 : decode cX11_needClass 4 = .ok (.iload_n 1, 1) := by decide +kernel
theorem dX11_needClass_5 : decode cX11_needClass 5 = .ok (.invokevirtual 278, 3) := by decide +kernel
theorem dX11_needClass_8 : decode cX11_needClass 8 = .ok (.ifCond .ne 11, 3) := by decide +kernel
theorem dX11_needClass_11 : decode cX11_needClass 11 = .ok (.new 192, 3) := by decide +kernel
theorem dX11_needClass_14 : decode cX11_needClass 14 = .ok (.dup, 1) := by decide +kernel
theorem dX11_needClass_15 : decode cX11_needClass 15 = .ok (.invokespecial 194, 3) := by decide +kernel
theorem dX11_needClass_18 : decode cX11_needClass 18 = .ok (.athrow, 1) := by decide +kernel
theorem dX11_needClass_19 : decode cX11_needClass 19 = .ok (.return_, 1) := by decide +kernel
theorem dX11_needLeaf_0 : decode cX11_needLeaf 0 = .ok (.aload_n 0, 1) := by decide +kernel
theorem dX11_needLeaf_1 : decode cX11_needLeaf 1 = .ok (.getfield 26, 3) := by decide +kernel
theorem dX11_needLeaf_4 : decode cX11_needLeaf 4 = .ok (.iload_n 1, 1) := by decide +kernel
theorem dX11_needLeaf_5 : decode cX11_needLeaf 5 = .ok (.invokevirtual 261, 3) := by decide +kernel
theorem dX11_needLeaf_8 : decode cX11_needLeaf 8 = .ok (.ifCond .ne 11, 3) := by decide +kernel
theorem dX11_needLeaf_11 : decode cX11_needLeaf 11 = .ok (.new 192, 3) := by decide +kernel
theorem dX11_needLeaf_14 : decode cX11_needLeaf 14 = .ok (.dup, 1) := by decide +kernel
theorem dX11_needLeaf_15 : decode cX11_needLeaf 15 = .ok (.invokespecial 194, 3) := by decide +kernel
theorem dX11_needLeaf_18 : decode cX11_needLeaf 18 = .ok (.athrow, 1) := by decide +kernel
theorem dX11_needLeaf_19 : decode cX11_needLeaf 19 = .ok (.return_, 1) := by decide +kernel
theorem dX11_needQueue_0 : decode cX11_needQueue 0 = .ok (.aload_n 0, 1) := by decide +kernel
theorem dX11_needQueue_1 : decode cX11_needQueue 1 = .ok (.getfield 26, 3) := by decide +kernel
theorem dX11_needQueue_4 : decode cX11_needQueue 4 = .ok (.iload_n 1, 1) := by decide +kernel
theorem dX11_needQueue_5 : decode cX11_needQueue 5 = .ok (.invokevirtual 261, 3) := by decide +kernel
theorem dX11_needQueue_8 : decode cX11_needQueue 8 = .ok (.ifCond .eq 14, 3) := by decide +kernel
theorem dX11_needQueue_11 : decode cX11_needQueue 11 = .ok (.aload_n 0, 1) := by decide +kernel
theorem dX11_needQueue_12 : decode cX11_needQueue 12 = .ok (.getfield 47, 3) := by decide +kernel
theorem dX11_needQueue_15 : decode cX11_needQueue 15 = .ok (.iload_n 1, 1) := by decide +kernel
theorem dX11_needQueue_16 : decode cX11_needQueue 16 = .ok (.invokevirtual 205, 3) := by decide +kernel
theorem dX11_needQueue_19 : decode cX11_needQueue 19 = .ok (.ifCond .ne 11, 3) := by decide +kernel
theorem dX11_needQueue_22 : decode cX11_needQueue 22 = .ok (.new 192, 3) := by decide +kernel
theorem dX11_needQueue_25 : decode cX11_needQueue 25 = .ok (.dup, 1) := by decide +kernel
theorem dX11_needQueue_26 : decode cX11_needQueue 26 = .ok (.invokespecial 194, 3) := by decide +kernel
theorem dX11_needQueue_29 : decode cX11_needQueue 29 = .ok (.athrow, 1) := by decide +kernel
theorem dX11_needQueue_30 : decode cX11_needQueue 30 = .ok (.return_, 1) := by decide +kernel
theorem dX11_needRange_0 : decode cX11_needRange 0 = .ok (.iload_n 0, 1) := by decide +kernel
theorem dX11_needRange_1 : decode cX11_needRange 1 = .ok (.iload_n 1, 1) := by decide +kernel
theorem dX11_needRange_2 : decode cX11_needRange 2 = .ok (.if_icmp .lt 8, 3) := by decide +kernel
theorem dX11_needRange_5 : decode cX11_needRange 5 = .ok (.iload_n 0, 1) := by decide +kernel
theorem dX11_needRange_6 : decode cX11_needRange 6 = .ok (.iload_n 2, 1) := by decide +kernel
theorem dX11_needRange_7 : decode cX11_needRange 7 = .ok (.if_icmp .le 11, 3) := by decide +kernel
theorem dX11_needRange_10 : decode cX11_needRange 10 = .ok (.new 129, 3) := by decide +kernel
theorem dX11_needRange_13 : decode cX11_needRange 13 = .ok (.dup, 1) := by decide +kernel
theorem dX11_needRange_14 : decode cX11_needRange 14 = .ok (.invokespecial 131, 3) := by decide +kernel
theorem dX11_needRange_17 : decode cX11_needRange 17 = .ok (.athrow, 1) := by decide +kernel
theorem dX11_needRange_18 : decode cX11_needRange 18 = .ok (.return_, 1) := by decide +kernel
theorem dX12_init_0 : decode cX12_init 0 = .ok (.aload_n 0, 1) := by decide +kernel
theorem dX12_init_1 : decode cX12_init 1 = .ok (.invokespecial 1, 3) := by decide +kernel
theorem dX12_init_4 : decode cX12_init 4 = .ok (.aload_n 0, 1) := by decide +kernel
theorem dX12_init_5 : decode cX12_init 5 = .ok (.iconst 3, 1) := by decide +kernel
theorem dX12_init_6 : decode cX12_init 6 = .ok (.anewarray 7, 3) := by decide +kernel
theorem dX12_init_9 : decode cX12_init 9 = .ok (.dup, 1) := by decide +kernel
theorem dX12_init_10 : decode cX12_init 10 = .ok (.iconst 0, 1) := by decide +kernel
theorem dX12_init_11 : decode cX12_init 11 = .ok (.ldc 9, 2) := by decide +kernel
theorem dX12_init_13 : decode cX12_init 13 = .ok (.aastore, 1) := by decide +kernel
theorem dX12_init_14 : decode cX12_init 14 = .ok (.dup, 1) := by decide +kernel
theorem dX12_init_15 : decode cX12_init 15 = .ok (.iconst 1, 1) := by decide +kernel
theorem dX12_init_16 : decode cX12_init 16 = .ok (.ldc 11, 2) := by decide +kernel
theorem dX12_init_18 : decode cX12_init 18 = .ok (.aastore, 1) := by decide +kernel
theorem dX12_init_19 : decode cX12_init 19 = .ok (.dup, 1) := by decide +kernel
theorem dX12_init_20 : decode cX12_init 20 = .ok (.iconst 2, 1) := by decide +kernel
theorem dX12_init_21 : decode cX12_init 21 = .ok (.ldc 13, 2) := by decide +kernel
theorem dX12_init_23 : decode cX12_init 23 = .ok (.aastore, 1) := by decide +kernel
theorem dX12_init_24 : decode cX12_init 24 = .ok (.putfield 15, 3) := by decide +kernel
theorem dX12_init_27 : decode cX12_init 27 = .ok (.aload_n 0, 1) := by decide +kernel
theorem dX12_init_28 : decode cX12_init 28 = .ok (.iconst 4, 1) := by decide +kernel
theorem dX12_init_29 : decode cX12_init 29 = .ok (.newarray .int, 2) := by decide +kernel
theorem dX12_init_31 : decode cX12_init 31 = .ok (.putfield 21, 3) := by decide +kernel
theorem dX12_init_34 : decode cX12_init 34 = .ok (.aload_n 0, 1) := by decide +kernel
theorem dX12_init_35 : decode cX12_init 35 = .ok (.bipush 24, 2) := by decide +kernel
theorem dX12_init_37 : decode cX12_init 37 = .ok (.newarray .int, 2) := by decide +kernel
theorem dX12_init_39 : decode cX12_init 39 = .ok (.putfield 25, 3) := by decide +kernel
theorem dX12_init_42 : decode cX12_init 42 = .ok (.aload_n 0, 1) := by decide +kernel
theorem dX12_init_43 : decode cX12_init 43 = .ok (.bipush 16, 2) := by decide +kernel
theorem dX12_init_45 : decode cX12_init 45 = .ok (.newarray .int, 2) := by decide +kernel
theorem dX12_init_47 : decode cX12_init 47 = .ok (.putfield 28, 3) := by decide +kernel
theorem dX12_init_50 : decode cX12_init 50 = .ok (.aload_n 0, 1) := by decide +kernel
theorem dX12_init_51 : decode cX12_init 51 = .ok (.bipush 16, 2) := by decide +kernel
theorem dX12_init_53 : decode cX12_init 53 = .ok (.newarray .int, 2) := by decide +kernel
theorem dX12_init_55 : decode cX12_init 55 = .ok (.putfield 31, 3) := by decide +kernel
theorem dX12_init_58 : decode cX12_init 58 = .ok (.aload_n 0, 1) := by decide +kernel
theorem dX12_init_59 : decode cX12_init 59 = .ok (.bipush 16, 2) := by decide +kernel
theorem dX12_init_61 : decode cX12_init 61 = .ok (.newarray .int, 2) := by decide +kernel
theorem dX12_init_63 : decode cX12_init 63 = .ok (.putfield 34, 3) := by decide +kernel
theorem dX12_init_66 : decode cX12_init 66 = .ok (.aload_n 0, 1) := by decide +kernel
theorem dX12_init_67 : decode cX12_init 67 = .ok (.bipush 16, 2) := by decide +kernel
theorem dX12_init_69 : decode cX12_init 69 = .ok (.newarray .int, 2) := by decide +kernel
theorem dX12_init_71 : decode cX12_init 71 = .ok (.putfield 37, 3) := by decide +kernel
theorem dX12_init_74 : decode cX12_init 74 = .ok (.aload_n 0, 1) := by decide +kernel
theorem dX12_init_75 : decode cX12_init 75 = .ok (.sipush 288, 3) := by decide +kernel
theorem dX12_init_78 : decode cX12_init 78 = .ok (.newarray .int, 2) := by decide +kernel
theorem dX12_init_80 : decode cX12_init 80 = .ok (.putfield 40, 3) := by decide +kernel
theorem dX12_init_83 : decode cX12_init 83 = .ok (.aload_n 0, 1) := by decide +kernel
theorem dX12_init_84 : decode cX12_init 84 = .ok (.sipush 3099, 3) := by decide +kernel
theorem dX12_init_87 : decode cX12_init 87 = .ok (.newarray .int, 2) := by decide +kernel
theorem dX12_init_89 : decode cX12_init 89 = .ok (.putfield 43, 3) := by decide +kernel
theorem dX12_init_92 : decode cX12_init 92 = .ok (.aload_n 0, 1) := by decide +kernel
theorem dX12_init_93 : decode cX12_init 93 = .ok (.iconst 3, 1) := by decide +kernel
theorem dX12_init_94 : decode cX12_init 94 = .ok (.newarray .int, 2) := by decide +kernel
theorem dX12_init_96 : decode cX12_init 96 = .ok (.putfield 46, 3) := by decide +kernel
theorem dX12_init_99 : decode cX12_init 99 = .ok (.aload_n 0, 1) := by decide +kernel
theorem dX12_init_100 : decode cX12_init 100 = .ok (.sipush 700, 3) := by decide +kernel
theorem dX12_init_103 : decode cX12_init 103 = .ok (.newarray .int, 2) := by decide +kernel
theorem dX12_init_105 : decode cX12_init 105 = .ok (.putfield 49, 3) := by decide +kernel
theorem dX12_init_108 : decode cX12_init 108 = .ok (.aload_n 0, 1) := by decide +kernel
theorem dX12_init_109 : decode cX12_init 109 = .ok (.iconst (-1), 1) := by decide +kernel
theorem dX12_init_110 : decode cX12_init 110 = .ok (.putfield 52, 3) := by decide +kernel
theorem dX12_init_113 : decode cX12_init 113 = .ok (.aload_n 0, 1) := by decide +kernel
theorem dX12_init_114 : decode cX12_init 114 = .ok (.bipush 72, 2) := by decide +kernel
theorem dX12_init_116 : decode cX12_init 116 = .ok (.newarray .int, 2) := by decide +kernel
theorem dX12_init_118 : decode cX12_init 118 = .ok (.putfield 56, 3) := by decide +kernel
theorem dX12_init_121 : decode cX12_init 121 = .ok (.aload_n 0, 1) := by decide +kernel
theorem dX12_init_122 : decode cX12_init 122 = .ok (.bipush 12, 2) := by decide +kernel
theorem dX12_init_124 : decode cX12_init 124 = .ok (.newarray .boolean, 2) := by decide +kernel
theorem dX12_init_126 : decode cX12_init 126 = .ok (.putfield 59, 3) := by decide +kernel
theorem dX12_init_129 : decode cX12_init 129 = .ok (.aload_n 0, 1) := by decide +kernel
theorem dX12_init_130 : decode cX12_init 130 = .ok (.iconst (-1), 1) := by decide +kernel
theorem dX12_init_131 : decode cX12_init 131 = .ok (.putfield 63, 3) := by decide +kernel
theorem dX12_init_134 : decode cX12_init 134 = .ok (.aload_n 0, 1) := by decide +kernel
theorem dX12_init_135 : decode cX12_init 135 = .ok (.iconst (-1), 1) := by decide +kernel
theorem dX12_init_136 : decode cX12_init 136 = .ok (.putfield 66, 3) := by decide +kernel
theorem dX12_init_139 : decode cX12_init 139 = .ok (.aload_n 0, 1) := by decide +kernel
theorem dX12_init_140 : decode cX12_init 140 = .ok (.sipush 420, 3) := by decide +kernel
theorem dX12_init_143 : decode cX12_init 143 = .ok (.newarray .int, 2) := by decide +kernel
theorem dX12_init_145 : decode cX12_init 145 = .ok (.putfield 69, 3) := by decide +kernel
theorem dX12_init_148 : decode cX12_init 148 = .ok (.aload_n 0, 1) := by decide +kernel
theorem dX12_init_149 : decode cX12_init 149 = .ok (.ldc 72, 2) := by decide +kernel
theorem dX12_init_151 : decode cX12_init 151 = .ok (.newarray .int, 2) := by decide +kernel
theorem dX12_init_153 : decode cX12_init 153 = .ok (.putfield 73, 3) := by decide +kernel
theorem dX12_init_156 : decode cX12_init 156 = .ok (.aload_n 0, 1) := by decide +kernel
theorem dX12_init_157 : decode cX12_init 157 = .ok (.sipush 3099, 3) := by decide +kernel
theorem dX12_init_160 : decode cX12_init 160 = .ok (.newarray .int, 2) := by decide +kernel
theorem dX12_init_162 : decode cX12_init 162 = .ok (.putfield 76, 3) := by decide +kernel
theorem dX12_init_165 : decode cX12_init 165 = .ok (.aload_n 0, 1) := by decide +kernel
theorem dX12_init_166 : decode cX12_init 166 = .ok (.bipush 8, 2) := by decide +kernel
theorem dX12_init_168 : decode cX12_init 168 = .ok (.newarray .int, 2) := by decide +kernel
theorem dX12_init_170 : decode cX12_init 170 = .ok (.putfield 79, 3) := by decide +kernel
theorem dX12_init_173 : decode cX12_init 173 = .ok (.aload_n 0, 1) := by decide +kernel
theorem dX12_init_174 : decode cX12_init 174 = .ok (.bipush 8, 2) := by decide +kernel
theorem dX12_init_176 : decode cX12_init 176 = .ok (.newarray .int, 2) := by decide +kernel
theorem dX12_init_178 : decode cX12_init 178 = .ok (.putfield 82, 3) := by decide +kernel
theorem dX12_init_181 : decode cX12_init 181 = .ok (.aload_n 0, 1) := by decide +kernel
theorem dX12_init_182 : decode cX12_init 182 = .ok (.bipush 8, 2) := by decide +kernel
theorem dX12_init_184 : decode cX12_init 184 = .ok (.newarray .int, 2) := by decide +kernel
theorem dX12_init_186 : decode cX12_init 186 = .ok (.putfield 85, 3) := by decide +kernel
theorem dX12_init_189 : decode cX12_init 189 = .ok (.aload_n 0, 1) := by decide +kernel
theorem dX12_init_190 : decode cX12_init 190 = .ok (.bipush 12, 2) := by decide +kernel
theorem dX12_init_192 : decode cX12_init 192 = .ok (.newarray .int, 2) := by decide +kernel
theorem dX12_init_194 : decode cX12_init 194 = .ok (.putfield 88, 3) := by decide +kernel
theorem dX12_init_197 : decode cX12_init 197 = .ok (.aload_n 0, 1) := by decide +kernel
theorem dX12_init_198 : decode cX12_init 198 = .ok (.bipush 12, 2) := by decide +kernel
theorem dX12_init_200 : decode cX12_init 200 = .ok (.newarray .int, 2) := by decide +kernel
theorem dX12_init_202 : decode cX12_init 202 = .ok (.putfield 91, 3) := by decide +kernel
theorem dX12_init_205 : decode cX12_init 205 = .ok (.aload_n 0, 1) := by decide +kernel
theorem dX12_init_206 : decode cX12_init 206 = .ok (.sipush 6144, 3) := by decide +kernel
theorem dX12_init_209 : decode cX12_init 209 = .ok (.newarray .int, 2) := by decide +kernel
theorem dX12_init_211 : decode cX12_init 211 = .ok (.putfield 94, 3) := by decide +kernel
theorem dX12_init_214 : decode cX12_init 214 = .ok (.aload_n 0, 1) := by decide +kernel
theorem dX12_init_215 : decode cX12_init 215 = .ok (.bipush 100, 2) := by decide +kernel
theorem dX12_init_217 : decode cX12_init 217 = .ok (.newarray .int, 2) := by decide +kernel
theorem dX12_init_219 : decode cX12_init 219 = .ok (.putfield 97, 3) := by decide +kernel
theorem dX12_init_222 : decode cX12_init 222 = .ok (.aload_n 0, 1) := by decide +kernel
theorem dX12_init_223 : decode cX12_init 223 = .ok (.sipush 3099, 3) := by decide +kernel
theorem dX12_init_226 : decode cX12_init 226 = .ok (.newarray .int, 2) := by decide +kernel
theorem dX12_init_228 : decode cX12_init 228 = .ok (.putfield 100, 3) := by decide +kernel
theorem dX12_init_231 : decode cX12_init 231 = .ok (.aload_n 0, 1) := by decide +kernel
theorem dX12_init_232 : decode cX12_init 232 = .ok (.ldc 72, 2) := by decide +kernel
theorem dX12_init_234 : decode cX12_init 234 = .ok (.newarray .int, 2) := by decide +kernel
theorem dX12_init_236 : decode cX12_init 236 = .ok (.putfield 103, 3) := by decide +kernel
theorem dX12_init_239 : decode cX12_init 239 = .ok (.aload_n 0, 1) := by decide +kernel
theorem dX12_init_240 : decode cX12_init 240 = .ok (.bipush 8, 2) := by decide +kernel
theorem dX12_init_242 : decode cX12_init 242 = .ok (.newarray .int, 2) := by decide +kernel
theorem dX12_init_244 : decode cX12_init 244 = .ok (.putfield 106, 3) := by decide +kernel
theorem dX12_init_247 : decode cX12_init 247 = .ok (.aload_n 0, 1) := by decide +kernel
theorem dX12_init_248 : decode cX12_init 248 = .ok (.bipush 8, 2) := by decide +kernel
theorem dX12_init_250 : decode cX12_init 250 = .ok (.newarray .int, 2) := by decide +kernel
theorem dX12_init_252 : decode cX12_init 252 = .ok (.putfield 109, 3) := by decide +kernel
theorem dX12_init_255 : decode cX12_init 255 = .ok (.aload_n 0, 1) := by decide +kernel
theorem dX12_init_256 : decode cX12_init 256 = .ok (.bipush 8, 2) := by decide +kernel
theorem dX12_init_258 : decode cX12_init 258 = .ok (.newarray .int, 2) := by decide +kernel
theorem dX12_init_260 : decode cX12_init 260 = .ok (.putfield 112, 3) := by decide +kernel
theorem dX12_init_263 : decode cX12_init 263 = .ok (.aload_n 0, 1) := by decide +kernel
theorem dX12_init_264 : decode cX12_init 264 = .ok (.iconst 3, 1) := by decide +kernel
theorem dX12_init_265 : decode cX12_init 265 = .ok (.newarray .int, 2) := by decide +kernel
theorem dX12_init_267 : decode cX12_init 267 = .ok (.putfield 115, 3) := by decide +kernel
theorem dX12_init_270 : decode cX12_init 270 = .ok (.aload_n 0, 1) := by decide +kernel
theorem dX12_init_271 : decode cX12_init 271 = .ok (.getfield 43, 3) := by decide +kernel
theorem dX12_init_274 : decode cX12_init 274 = .ok (.sipush 3089, 3) := by decide +kernel
theorem dX12_init_277 : decode cX12_init 277 = .ok (.iconst (-1), 1) := by decide +kernel
theorem dX12_init_278 : decode cX12_init 278 = .ok (.iastore, 1) := by decide +kernel
theorem dX12_init_279 : decode cX12_init 279 = .ok (.return_, 1) := by decide +kernel
theorem dX12_thrown_0 : decode cX12_thrown 0 = .ok (.aload_n 0, 1) := by decide +kernel
theorem dX12_thrown_1 : decode cX12_thrown 1 = .ok (.getfield 118, 3) := by decide +kernel
theorem dX12_thrown_4 : decode cX12_thrown 4 = .ok (.ireturn, 1) := by decide +kernel
theorem dX12_fail_0 : decode cX12_fail 0 = .ok (.aload_n 0, 1) := by decide +kernel
theorem dX12_fail_1 : decode cX12_fail 1 = .ok (.iload_n 1, 1) := by decide +kernel
theorem dX12_fail_2 : decode cX12_fail 2 = .ok (.putfield 118, 3) := by decide +kernel
theorem dX12_fail_5 : decode cX12_fail 5 = .ok (.iconst 0, 1) := by decide +kernel
theorem dX12_fail_6 : decode cX12_fail 6 = .ok (.ireturn, 1) := by decide +kernel
theorem dX12_isIn_0 : decode cX12_isIn 0 = .ok (.iload_n 0, 1) := by decide +kernel
theorem dX12_isIn_1 : decode cX12_isIn 1 = .ok (.iload_n 1, 1) := by decide +kernel
theorem dX12_isIn_2 : decode cX12_isIn 2 = .ok (.if_icmp .lt 12, 3) := by decide +kernel
theorem dX12_isIn_5 : decode cX12_isIn 5 = .ok (.iload_n 0, 1) := by decide +kernel
theorem dX12_isIn_6 : decode cX12_isIn 6 = .ok (.iload_n 2, 1) := by decide +kernel
theorem dX12_isIn_7 : decode cX12_isIn 7 = .ok (.if_icmp .gt 7, 3) := by decide +kernel
theorem dX12_isIn_10 : decode cX12_isIn 10 = .ok (.iconst 1, 1) := by decide +kernel
theorem dX12_isIn_11 : decode cX12_isIn 11 = .ok (.goto 4, 3) := by decide +kernel
theorem dX12_isIn_14 : decode cX12_isIn 14 = .ok (.iconst 0, 1) := by decide +kernel
theorem dX12_isIn_15 : decode cX12_isIn 15 = .ok (.ireturn, 1) := by decide +kernel
theorem dX12_feed_0 : decode cX12_feed 0 = .ok (.aload_n 0, 1) := by decide +kernel
theorem dX12_feed_1 : decode cX12_feed 1 = .ok (.iconst 0, 1) := by decide +kernel
theorem dX12_feed_2 : decode cX12_feed 2 = .ok (.putfield 118, 3) := by decide +kernel
theorem dX12_feed_5 : decode cX12_feed 5 = .ok (.aload_n 0, 1) := by decide +kernel
theorem dX12_feed_6 : decode cX12_feed 6 = .ok (.getfield 121, 3) := by decide +kernel
theorem dX12_feed_9 : decode cX12_feed 9 = .ok (.bipush 20, 2) := by decide +kernel
theorem dX12_feed_11 : decode cX12_feed 11 = .ok (.iadd, 1) := by decide +kernel
theorem dX12_feed_12 : decode cX12_feed 12 = .ok (.sipush 700, 3) := by decide +kernel
theorem dX12_feed_15 : decode cX12_feed 15 = .ok (.if_icmp .le 5, 3) := by decide +kernel
theorem dX12_feed_18 : decode cX12_feed 18 = .ok (.iconst (-1), 1) := by decide +kernel
theorem dX12_feed_19 : decode cX12_feed 19 = .ok (.ireturn, 1) := by decide +kernel
theorem dX12_feed_20 : decode cX12_feed 20 = .ok (.iconst 0, 1) := by decide +kernel
theorem dX12_feed_21 : decode cX12_feed 21 = .ok (.istore 6, 2) := by decide +kernel
theorem dX12_feed_23 : decode cX12_feed 23 = .ok (.iload 6, 2) := by decide +kernel
theorem dX12_feed_25 : decode cX12_feed 25 = .ok (.bipush 20, 2) := by decide +kernel
theorem dX12_feed_27 : decode cX12_feed 27 = .ok (.if_icmp .ge 93, 3) := by decide +kernel
theorem dX12_feed_30 : decode cX12_feed 30 = .ok (.iload 6, 2) := by decide +kernel
theorem dX12_feed_32 : decode cX12_feed 32 = .ok (.iconst 4, 1) := by decide +kernel
theorem dX12_feed_33 : decode cX12_feed 33 = .ok (.if_icmp .ge 7, 3) := by decide +kernel
theorem dX12_feed_36 : decode cX12_feed 36 = .ok (.iload_n 1, 1) := by decide +kernel
theorem dX12_feed_37 : decode cX12_feed 37 = .ok (.goto 39, 3) := by decide +kernel
theorem dX12_feed_40 : decode cX12_feed 40 = .ok (.iload 6, 2) := by decide +kernel
theorem dX12_feed_42 : decode cX12_feed 42 = .ok (.bipush 8, 2) := by decide +kernel
theorem dX12_feed_44 : decode cX12_feed 44 = .ok (.if_icmp .ge 7, 3) := by decide +kernel
theorem dX12_feed_47 : decode cX12_feed 47 = .ok (.iload_n 2, 1) := by decide +kernel
theorem dX12_feed_48 : decode cX12_feed 48 = .ok (.goto 28, 3) := by decide +kernel
theorem dX12_feed_51 : decode cX12_feed 51 = .ok (.iload 6, 2) := by decide +kernel
theorem dX12_feed_53 : decode cX12_feed 53 = .ok (.bipush 12, 2) := by decide +kernel
theorem dX12_feed_55 : decode cX12_feed 55 = .ok (.if_icmp .ge 7, 3) := by decide +kernel
theorem dX12_feed_58 : decode cX12_feed 58 = .ok (.iload_n 3, 1) := by decide +kernel
theorem dX12_feed_59 : decode cX12_feed 59 = .ok (.goto 17, 3) := by decide +kernel
theorem dX12_feed_62 : decode cX12_feed 62 = .ok (.iload 6, 2) := by decide +kernel
theorem dX12_feed_64 : decode cX12_feed 64 = .ok (.bipush 16, 2) := by decide +kernel
theorem dX12_feed_66 : decode cX12_feed 66 = .ok (.if_icmp .ge 8, 3) := by decide +kernel
theorem dX12_feed_69 : decode cX12_feed 69 = .ok (.iload 4, 2) := by decide +kernel
theorem dX12_feed_71 : decode cX12_feed 71 = .ok (.goto 5, 3) := by decide +kernel
theorem dX12_feed_74 : decode cX12_feed 74 = .ok (.iload 5, 2) := by decide +kernel
theorem dX12_feed_76 : decode cX12_feed 76 = .ok (.istore 7, 2) := by decide +kernel
theorem dX12_feed_78 : decode cX12_feed 78 = .ok (.aload_n 0, 1) := by decide +kernel
theorem dX12_feed_79 : decode cX12_feed 79 = .ok (.getfield 49, 3) := by decide +kernel
theorem dX12_feed_82 : decode cX12_feed 82 = .ok (.aload_n 0, 1) := by decide +kernel
theorem dX12_feed_83 : decode cX12_feed 83 = .ok (.getfield 121, 3) := by decide +kernel
theorem dX12_feed_86 : decode cX12_feed 86 = .ok (.iload 7, 2) := by decide +kernel
theorem dX12_feed_88 : decode cX12_feed 88 = .ok (.bipush 24, 2) := by decide +kernel
theorem dX12_feed_90 : decode cX12_feed 90 = .ok (.bipush 8, 2) := by decide +kernel
theorem dX12_feed_92 : decode cX12_feed 92 = .ok (.iload 6, 2) := by decide +kernel
theorem dX12_feed_94 : decode cX12_feed 94 = .ok (.iconst 4, 1) := by decide +kernel
theorem dX12_feed_95 : decode cX12_feed 95 = .ok (.irem, 1) := by decide +kernel
theorem dX12_feed_96 : decode cX12_feed 96 = .ok (.imul, 1) := by decide +kernel
theorem dX12_feed_97 : decode cX12_feed 97 = .ok (.isub, 1) := by decide +kernel
theorem dX12_feed_98 : decode cX12_feed 98 = .ok (.ishr, 1) := by decide +kernel
theorem dX12_feed_99 : decode cX12_feed 99 = .ok (.sipush 255, 3) := by decide +kernel
theorem dX12_feed_102 : decode cX12_feed 102 = .ok (.iand, 1) := by decide +kernel
theorem dX12_feed_103 : decode cX12_feed 103 = .ok (.iastore, 1) := by decide +kernel
theorem dX12_feed_104 : decode cX12_feed 104 = .ok (.aload_n 0, 1) := by decide +kernel
theorem dX12_feed_105 : decode cX12_feed 105 = .ok (.dup, 1) := by decide +kernel
theorem dX12_feed_106 : decode cX12_feed 106 = .ok (.getfield 121, 3) := by decide +kernel
theorem dX12_feed_109 : decode cX12_feed 109 = .ok (.iconst 1, 1) := by decide +kernel
theorem dX12_feed_110 : decode cX12_feed 110 = .ok (.iadd, 1) := by decide +kernel
theorem dX12_feed_111 : decode cX12_feed 111 = .ok (.putfield 121, 3) := by decide +kernel
theorem dX12_feed_114 : decode cX12_feed 114 = .ok (.iinc 6 1, 3) := by decide +kernel
theorem dX12_feed_117 : decode cX12_feed 117 = .ok (.goto (-94), 3) := by decide +kernel
theorem dX12_feed_120 : decode cX12_feed 120 = .ok (.aload_n 0, 1) := by decide +kernel
theorem dX12_feed_121 : decode cX12_feed 121 = .ok (.getfield 121, 3) := by decide +kernel
theorem dX12_feed_124 : decode cX12_feed 124 = .ok (.ireturn, 1) := by decide +kernel
theorem dX12_byteAt_0 : decode cX12_byteAt 0 = .ok (.iload_n 1, 1) := by decide +kernel
theorem dX12_byteAt_1 : decode cX12_byteAt 1 = .ok (.aload_n 0, 1) := by decide +kernel
theorem dX12_byteAt_2 : decode cX12_byteAt 2 = .ok (.getfield 124, 3) := by decide +kernel
theorem dX12_byteAt_5 : decode cX12_byteAt 5 = .ok (.if_icmp .ge 12, 3) := by decide +kernel
theorem dX12_byteAt_8 : decode cX12_byteAt 8 = .ok (.aload_n 0, 1) := by decide +kernel
theorem dX12_byteAt_9 : decode cX12_byteAt 9 = .ok (.getfield 49, 3) := by decide +kernel
theorem dX12_byteAt_12 : decode cX12_byteAt 12 = .ok (.iload_n 1, 1) := by decide +kernel
theorem dX12_byteAt_13 : decode cX12_byteAt 13 = .ok (.iaload, 1) := by decide +kernel
theorem dX12_byteAt_14 : decode cX12_byteAt 14 = .ok (.goto 4, 3) := by decide +kernel
theorem dX12_byteAt_17 : decode cX12_byteAt 17 = .ok (.iconst (-1), 1) := by decide +kernel
theorem dX12_byteAt_18 : decode cX12_byteAt 18 = .ok (.ireturn, 1) := by decide +kernel
theorem dX12_isLetter_0 : decode cX12_isLetter 0 = .ok (.iload_n 0, 1) := by decide +kernel
theorem dX12_isLetter_1 : decode cX12_isLetter 1 = .ok (.bipush 97, 2) := by decide +kernel
theorem dX12_isLetter_3 : decode cX12_isLetter 3 = .ok (.if_icmp .lt 13, 3) := by decide +kernel
theorem dX12_isLetter_6 : decode cX12_isLetter 6 = .ok (.iload_n 0, 1) := by decide +kernel
theorem dX12_isLetter_7 : decode cX12_isLetter 7 = .ok (.bipush 122, 2) := by decide +kernel
theorem dX12_isLetter_9 : decode cX12_isLetter 9 = .ok (.if_icmp .gt 7, 3) := by decide +kernel
theorem dX12_isLetter_12 : decode cX12_isLetter 12 = .ok (.iconst 1, 1) := by decide +kernel
theorem dX12_isLetter_13 : decode cX12_isLetter 13 = .ok (.goto 4, 3) := by decide +kernel
theorem dX12_isLetter_16 : decode cX12_isLetter 16 = .ok (.iconst 0, 1) := by decide +kernel
theorem dX12_isLetter_17 : decode cX12_isLetter 17 = .ok (.ireturn, 1) := by decide +kernel
theorem dX12_isDigit_0 : decode cX12_isDigit 0 = .ok (.iload_n 0, 1) := by decide +kernel
theorem dX12_isDigit_1 : decode cX12_isDigit 1 = .ok (.bipush 48, 2) := by decide +kernel
theorem dX12_isDigit_3 : decode cX12_isDigit 3 = .ok (.if_icmp .lt 13, 3) := by decide +kernel
theorem dX12_isDigit_6 : decode cX12_isDigit 6 = .ok (.iload_n 0, 1) := by decide +kernel
theorem dX12_isDigit_7 : decode cX12_isDigit 7 = .ok (.bipush 57, 2) := by decide +kernel
theorem dX12_isDigit_9 : decode cX12_isDigit 9 = .ok (.if_icmp .gt 7, 3) := by decide +kernel
theorem dX12_isDigit_12 : decode cX12_isDigit 12 = .ok (.iconst 1, 1) := by decide +kernel
theorem dX12_isDigit_13 : decode cX12_isDigit 13 = .ok (.goto 4, 3) := by decide +kernel
theorem dX12_isDigit_16 : decode cX12_isDigit 16 = .ok (.iconst 0, 1) := by decide +kernel
theorem dX12_isDigit_17 : decode cX12_isDigit 17 = .ok (.ireturn, 1) := by decide +kernel
theorem dX12_stepOn_0 : decode cX12_stepOn 0 = .ok (.aload_n 0, 1) := by decide +kernel
theorem dX12_stepOn_1 : decode cX12_stepOn 1 = .ok (.aload_n 0, 1) := by decide +kernel
theorem dX12_stepOn_2 : decode cX12_stepOn 2 = .ok (.getfield 127, 3) := by decide +kernel
theorem dX12_stepOn_5 : decode cX12_stepOn 5 = .ok (.invokevirtual 130, 3) := by decide +kernel
theorem dX12_stepOn_8 : decode cX12_stepOn 8 = .ok (.bipush 32, 2) := by decide +kernel
theorem dX12_stepOn_10 : decode cX12_stepOn 10 = .ok (.if_icmp .eq 16, 3) := by decide +kernel
theorem dX12_stepOn_13 : decode cX12_stepOn 13 = .ok (.aload_n 0, 1) := by decide +kernel
theorem dX12_stepOn_14 : decode cX12_stepOn 14 = .ok (.aload_n 0, 1) := by decide +kernel
theorem dX12_stepOn_15 : decode cX12_stepOn 15 = .ok (.getfield 127, 3) := by decide +kernel
theorem dX12_stepOn_18 : decode cX12_stepOn 18 = .ok (.invokevirtual 130, 3) := by decide +kernel
theorem dX12_stepOn_21 : decode cX12_stepOn 21 = .ok (.bipush 10, 2) := by decide +kernel
theorem dX12_stepOn_23 : decode cX12_stepOn 23 = .ok (.if_icmp .ne 16, 3) := by decide +kernel
theorem dX12_stepOn_26 : decode cX12_stepOn 26 = .ok (.aload_n 0, 1) := by decide +kernel
theorem dX12_stepOn_27 : decode cX12_stepOn 27 = .ok (.dup, 1) := by decide +kernel
theorem dX12_stepOn_28 : decode cX12_stepOn 28 = .ok (.getfield 127, 3) := by decide +kernel
theorem dX12_stepOn_31 : decode cX12_stepOn 31 = .ok (.iconst 1, 1) := by decide +kernel
theorem dX12_stepOn_32 : decode cX12_stepOn 32 = .ok (.iadd, 1) := by decide +kernel
theorem dX12_stepOn_33 : decode cX12_stepOn 33 = .ok (.putfield 127, 3) := by decide +kernel
theorem dX12_stepOn_36 : decode cX12_stepOn 36 = .ok (.goto (-36), 3) := by decide +kernel
theorem dX12_stepOn_39 : decode cX12_stepOn 39 = .ok (.aload_n 0, 1) := by decide +kernel
theorem dX12_stepOn_40 : decode cX12_stepOn 40 = .ok (.aload_n 0, 1) := by decide +kernel
theorem dX12_stepOn_41 : decode cX12_stepOn 41 = .ok (.getfield 127, 3) := by decide +kernel
theorem dX12_stepOn_44 : decode cX12_stepOn 44 = .ok (.putfield 134, 3) := by decide +kernel
theorem dX12_stepOn_47 : decode cX12_stepOn 47 = .ok (.aload_n 0, 1) := by decide +kernel
theorem dX12_stepOn_48 : decode cX12_stepOn 48 = .ok (.aload_n 0, 1) := by decide +kernel
theorem dX12_stepOn_49 : decode cX12_stepOn 49 = .ok (.getfield 127, 3) := by decide +kernel
theorem dX12_stepOn_52 : decode cX12_stepOn 52 = .ok (.invokevirtual 130, 3) := by decide +kernel
theorem dX12_stepOn_55 : decode cX12_stepOn 55 = .ok (.istore_n 1, 1) := by decide +kernel
theorem dX12_stepOn_56 : decode cX12_stepOn 56 = .ok (.iload_n 1, 1) := by decide +kernel
theorem dX12_stepOn_57 : decode cX12_stepOn 57 = .ok (.iconst (-1), 1) := by decide +kernel
theorem dX12_stepOn_58 : decode cX12_stepOn 58 = .ok (.if_icmp .ne 11, 3) := by decide +kernel
theorem dX12_stepOn_61 : decode cX12_stepOn 61 = .ok (.aload_n 0, 1) := by decide +kernel
theorem dX12_stepOn_62 : decode cX12_stepOn 62 = .ok (.iconst 0, 1) := by decide +kernel
theorem dX12_stepOn_63 : decode cX12_stepOn 63 = .ok (.putfield 137, 3) := by decide +kernel
theorem dX12_stepOn_66 : decode cX12_stepOn 66 = .ok (.goto 145, 3) := by decide +kernel
theorem dX12_stepOn_69 : decode cX12_stepOn 69 = .ok (.iload_n 1, 1) := by decide +kernel
theorem dX12_stepOn_70 : decode cX12_stepOn 70 = .ok (.invokestatic 140, 3) := by decide +kernel
theorem dX12_stepOn_73 : decode cX12_stepOn 73 = .ok (.ifCond .eq 38, 3) := by decide +kernel
theorem dX12_stepOn_76 : decode cX12_stepOn 76 = .ok (.aload_n 0, 1) := by decide +kernel
theorem dX12_stepOn_77 : decode cX12_stepOn 77 = .ok (.aload_n 0, 1) := by decide +kernel
theorem dX12_stepOn_78 : decode cX12_stepOn 78 = .ok (.getfield 127, 3) := by decide +kernel
theorem dX12_stepOn_81 : decode cX12_stepOn 81 = .ok (.invokevirtual 130, 3) := by decide +kernel
theorem dX12_stepOn_84 : decode cX12_stepOn 84 = .ok (.invokestatic 140, 3) := by decide +kernel
theorem dX12_stepOn_87 : decode cX12_stepOn 87 = .ok (.ifCond .eq 16, 3) := by decide +kernel
theorem dX12_stepOn_90 : decode cX12_stepOn 90 = .ok (.aload_n 0, 1) := by decide +kernel
theorem dX12_stepOn_91 : decode cX12_stepOn 91 = .ok (.dup, 1) := by decide +kernel
theorem dX12_stepOn_92 : decode cX12_stepOn 92 = .ok (.getfield 127, 3) := by decide +kernel
theorem dX12_stepOn_95 : decode cX12_stepOn 95 = .ok (.iconst 1, 1) := by decide +kernel
theorem dX12_stepOn_96 : decode cX12_stepOn 96 = .ok (.iadd, 1) := by decide +kernel
theorem dX12_stepOn_97 : decode cX12_stepOn 97 = .ok (.putfield 127, 3) := by decide +kernel
theorem dX12_stepOn_100 : decode cX12_stepOn 100 = .ok (.goto (-24), 3) := by decide +kernel
theorem dX12_stepOn_103 : decode cX12_stepOn 103 = .ok (.aload_n 0, 1) := by decide +kernel
theorem dX12_stepOn_104 : decode cX12_stepOn 104 = .ok (.iconst 1, 1) := by decide +kernel
theorem dX12_stepOn_105 : decode cX12_stepOn 105 = .ok (.putfield 137, 3) := by decide +kernel
theorem dX12_stepOn_108 : decode cX12_stepOn 108 = .ok (.goto 103, 3) := by decide +kernel
theorem dX12_stepOn_111 : decode cX12_stepOn 111 = .ok (.iload_n 1, 1) := by decide +kernel
theorem dX12_stepOn_112 : decode cX12_stepOn 112 = .ok (.invokestatic 144, 3) := by decide +kernel
theorem dX12_stepOn_115 : decode cX12_stepOn 115 = .ok (.ifCond .eq 71, 3) := by decide +kernel
theorem dX12_stepOn_118 : decode cX12_stepOn 118 = .ok (.aload_n 0, 1) := by decide +kernel
theorem dX12_stepOn_119 : decode cX12_stepOn 119 = .ok (.iconst 0, 1) := by decide +kernel
theorem dX12_stepOn_120 : decode cX12_stepOn 120 = .ok (.putfield 147, 3) := by decide +kernel
theorem dX12_stepOn_123 : decode cX12_stepOn 123 = .ok (.aload_n 0, 1) := by decide +kernel
theorem dX12_stepOn_124 : decode cX12_stepOn 124 = .ok (.aload_n 0, 1) := by decide +kernel
theorem dX12_stepOn_125 : decode cX12_stepOn 125 = .ok (.getfield 127, 3) := by decide +kernel
theorem dX12_stepOn_128 : decode cX12_stepOn 128 = .ok (.invokevirtual 130, 3) := by decide +kernel
theorem dX12_stepOn_131 : decode cX12_stepOn 131 = .ok (.invokestatic 144, 3) := by decide +kernel
theorem dX12_stepOn_134 : decode cX12_stepOn 134 = .ok (.ifCond .eq 44, 3) := by decide +kernel
theorem dX12_stepOn_137 : decode cX12_stepOn 137 = .ok (.aload_n 0, 1) := by decide +kernel
theorem dX12_stepOn_138 : decode cX12_stepOn 138 = .ok (.ldc 150, 2) := by decide +kernel
theorem dX12_stepOn_140 : decode cX12_stepOn 140 = .ok (.bipush 10, 2) := by decide +kernel
theorem dX12_stepOn_142 : decode cX12_stepOn 142 = .ok (.aload_n 0, 1) := by decide +kernel
theorem dX12_stepOn_143 : decode cX12_stepOn 143 = .ok (.getfield 147, 3) := by decide +kernel
theorem dX12_stepOn_146 : decode cX12_stepOn 146 = .ok (.imul, 1) := by decide +kernel
theorem dX12_stepOn_147 : decode cX12_stepOn 147 = .ok (.aload_n 0, 1) := by decide +kernel
theorem dX12_stepOn_148 : decode cX12_stepOn 148 = .ok (.aload_n 0, 1) := by decide +kernel
theorem dX12_stepOn_149 : decode cX12_stepOn 149 = .ok (.getfield 127, 3) := by decide +kernel
theorem dX12_stepOn_152 : decode cX12_stepOn 152 = .ok (.invokevirtual 130, 3) := by decide +kernel
theorem dX12_stepOn_155 : decode cX12_stepOn 155 = .ok (.iadd, 1) := by decide +kernel
theorem dX12_stepOn_156 : decode cX12_stepOn 156 = .ok (.bipush 48, 2) := by decide +kernel
theorem dX12_stepOn_158 : decode cX12_stepOn 158 = .ok (.isub, 1) := by decide +kernel
theorem dX12_stepOn_159 : decode cX12_stepOn 159 = .ok (.invokestatic 151, 3) := by decide +kernel
theorem dX12_stepOn_162 : decode cX12_stepOn 162 = .ok (.putfield 147, 3) := by decide +kernel
theorem dX12_stepOn_165 : decode cX12_stepOn 165 = .ok (.aload_n 0, 1) := by decide +kernel
theorem dX12_stepOn_166 : decode cX12_stepOn 166 = .ok (.dup, 1) := by decide +kernel
theorem dX12_stepOn_167 : decode cX12_stepOn 167 = .ok (.getfield 127, 3) := by decide +kernel
theorem dX12_stepOn_170 : decode cX12_stepOn 170 = .ok (.iconst 1, 1) := by decide +kernel
theorem dX12_stepOn_171 : decode cX12_stepOn 171 = .ok (.iadd, 1) := by decide +kernel
theorem dX12_stepOn_172 : decode cX12_stepOn 172 = .ok (.putfield 127, 3) := by decide +kernel
theorem dX12_stepOn_175 : decode cX12_stepOn 175 = .ok (.goto (-52), 3) := by decide +kernel
theorem dX12_stepOn_178 : decode cX12_stepOn 178 = .ok (.aload_n 0, 1) := by decide +kernel
theorem dX12_stepOn_179 : decode cX12_stepOn 179 = .ok (.iconst 2, 1) := by decide +kernel
theorem dX12_stepOn_180 : decode cX12_stepOn 180 = .ok (.putfield 137, 3) := by decide +kernel
theorem dX12_stepOn_183 : decode cX12_stepOn 183 = .ok (.goto 28, 3) := by decide +kernel
theorem dX12_stepOn_186 : decode cX12_stepOn 186 = .ok (.aload_n 0, 1) := by decide +kernel
theorem dX12_stepOn_187 : decode cX12_stepOn 187 = .ok (.dup, 1) := by decide +kernel
theorem dX12_stepOn_188 : decode cX12_stepOn 188 = .ok (.getfield 127, 3) := by decide +kernel
theorem dX12_stepOn_191 : decode cX12_stepOn 191 = .ok (.iconst 1, 1) := by decide +kernel
theorem dX12_stepOn_192 : decode cX12_stepOn 192 = .ok (.iadd, 1) := by decide +kernel
theorem dX12_stepOn_193 : decode cX12_stepOn 193 = .ok (.putfield 127, 3) := by decide +kernel
theorem dX12_stepOn_196 : decode cX12_stepOn 196 = .ok (.aload_n 0, 1) := by decide +kernel
theorem dX12_stepOn_197 : decode cX12_stepOn 197 = .ok (.iload_n 1, 1) := by decide +kernel
theorem dX12_stepOn_198 : decode cX12_stepOn 198 = .ok (.bipush 59, 2) := by decide +kernel
theorem dX12_stepOn_200 : decode cX12_stepOn 200 = .ok (.if_icmp .ne 7, 3) := by decide +kernel
theorem dX12_stepOn_203 : decode cX12_stepOn 203 = .ok (.iconst 3, 1) := by decide +kernel
theorem dX12_stepOn_204 : decode cX12_stepOn 204 = .ok (.goto 4, 3) := by decide +kernel
theorem dX12_stepOn_207 : decode cX12_stepOn 207 = .ok (.iconst 4, 1) := by decide +kernel
theorem dX12_stepOn_208 : decode cX12_stepOn 208 = .ok (.putfield 137, 3) := by decide +kernel
theorem dX12_stepOn_211 : decode cX12_stepOn 211 = .ok (.aload_n 0, 1) := by decide +kernel
theorem dX12_stepOn_212 : decode cX12_stepOn 212 = .ok (.aload_n 0, 1) := by decide +kernel
theorem dX12_stepOn_213 : decode cX12_stepOn 213 = .ok (.getfield 127, 3) := by decide +kernel
theorem dX12_stepOn_216 : decode cX12_stepOn 216 = .ok (.putfield 157, 3) := by decide +kernel
theorem dX12_stepOn_219 : decode cX12_stepOn 219 = .ok (.return_, 1) := by decide +kernel
theorem dX12_wrong_0 : decode cX12_wrong 0 = .ok (.aload_n 0, 1) := by decide +kernel
theorem dX12_wrong_1 : decode cX12_wrong 1 = .ok (.getfield 160, 3) := by decide +kernel
theorem dX12_wrong_4 : decode cX12_wrong 4 = .ok (.ifCond .eq 4, 3) := by decide +kernel
theorem dX12_wrong_7 : decode cX12_wrong 7 = .ok (.return_, 1) := by decide +kernel
theorem dX12_wrong_8 : decode cX12_wrong 8 = .ok (.aload_n 0, 1) := by decide +kernel
theorem dX12_wrong_9 : decode cX12_wrong 9 = .ok (.iload_n 1, 1) := by decide +kernel
theorem dX12_wrong_10 : decode cX12_wrong 10 = .ok (.putfield 160, 3) := by decide +kernel
theorem dX12_wrong_13 : decode cX12_wrong 13 = .ok (.aload_n 0, 1) := by decide +kernel
theorem dX12_wrong_14 : decode cX12_wrong 14 = .ok (.aload_n 0, 1) := by decide +kernel
theorem dX12_wrong_15 : decode cX12_wrong 15 = .ok (.getfield 134, 3) := by decide +kernel
theorem dX12_wrong_18 : decode cX12_wrong 18 = .ok (.putfield 163, 3) := by decide +kernel
theorem dX12_wrong_21 : decode cX12_wrong 21 = .ok (.return_, 1) := by decide +kernel
theorem dX12_is_0 : decode cX12_is 0 = .ok (.aload_n 0, 1) := by decide +kernel
theorem dX12_is_1 : decode cX12_is 1 = .ok (.getfield 160, 3) := by decide +kernel
theorem dX12_is_4 : decode cX12_is 4 = .ok (.ifCond .ne 31, 3) := by decide +kernel
theorem dX12_is_7 : decode cX12_is 7 = .ok (.aload_n 0, 1) := by decide +kernel
theorem dX12_is_8 : decode cX12_is 8 = .ok (.getfield 137, 3) := by decide +kernel
theorem dX12_is_11 : decode cX12_is 11 = .ok (.iconst 1, 1) := by decide +kernel
theorem dX12_is_12 : decode cX12_is 12 = .ok (.if_icmp .ne 23, 3) := by decide +kernel
theorem dX12_is_15 : decode cX12_is 15 = .ok (.aload_n 1, 1) := by decide +kernel
theorem dX12_is_16 : decode cX12_is 16 = .ok (.invokevirtual 166, 3) := by decide +kernel
theorem dX12_is_19 : decode cX12_is 19 = .ok (.aload_n 0, 1) := by decide +kernel
theorem dX12_is_20 : decode cX12_is 20 = .ok (.getfield 157, 3) := by decide +kernel
theorem dX12_is_23 : decode cX12_is 23 = .ok (.aload_n 0, 1) := by decide +kernel
theorem dX12_is_24 : decode cX12_is 24 = .ok (.getfield 134, 3) := by decide +kernel
theorem dX12_is_27 : decode cX12_is 27 = .ok (.isub, 1) := by decide +kernel
theorem dX12_is_28 : decode cX12_is 28 = .ok (.if_icmp .ne 7, 3) := by decide +kernel
theorem dX12_is_31 : decode cX12_is 31 = .ok (.iconst 1, 1) := by decide +kernel
theorem dX12_is_32 : decode cX12_is 32 = .ok (.goto 4, 3) := by decide +kernel
theorem dX12_is_35 : decode cX12_is 35 = .ok (.iconst 0, 1) := by decide +kernel
theorem dX12_is_36 : decode cX12_is 36 = .ok (.istore_n 2, 1) := by decide +kernel
theorem dX12_is_37 : decode cX12_is 37 = .ok (.iconst 0, 1) := by decide +kernel
theorem dX12_is_38 : decode cX12_is 38 = .ok (.istore_n 3, 1) := by decide +kernel
theorem dX12_is_39 : decode cX12_is 39 = .ok (.iload_n 2, 1) := by decide +kernel
theorem dX12_is_40 : decode cX12_is 40 = .ok (.ifCond .eq 42, 3) := by decide +kernel
theorem dX12_is_43 : decode cX12_is 43 = .ok (.iload_n 3, 1) := by decide +kernel
theorem dX12_is_44 : decode cX12_is 44 = .ok (.aload_n 1, 1) := by decide +kernel
theorem dX12_is_45 : decode cX12_is 45 = .ok (.invokevirtual 166, 3) := by decide +kernel
theorem dX12_is_48 : decode cX12_is 48 = .ok (.if_icmp .ge 34, 3) := by decide +kernel
theorem dX12_is_51 : decode cX12_is 51 = .ok (.aload_n 1, 1) := by decide +kernel
theorem dX12_is_52 : decode cX12_is 52 = .ok (.iload_n 3, 1) := by decide +kernel
theorem dX12_is_53 : decode cX12_is 53 = .ok (.invokevirtual 170, 3) := by decide +kernel
theorem dX12_is_56 : decode cX12_is 56 = .ok (.aload_n 0, 1) := by decide +kernel
theorem dX12_is_57 : decode cX12_is 57 = .ok (.getfield 49, 3) := by decide +kernel
theorem dX12_is_60 : decode cX12_is 60 = .ok (.aload_n 0, 1) := by decide +kernel
theorem dX12_is_61 : decode cX12_is 61 = .ok (.getfield 134, 3) := by decide +kernel
theorem dX12_is_64 : decode cX12_is 64 = .ok (.iload_n 3, 1) := by decide +kernel
theorem dX12_is_65 : decode cX12_is 65 = .ok (.iadd, 1) := by decide +kernel
theorem dX12_is_66 : decode cX12_is 66 = .ok (.iaload, 1) := by decide +kernel
theorem dX12_is_67 : decode cX12_is 67 = .ok (.if_icmp .ne 7, 3) := by decide +kernel
theorem dX12_is_70 : decode cX12_is 70 = .ok (.iconst 1, 1) := by decide +kernel
theorem dX12_is_71 : decode cX12_is 71 = .ok (.goto 4, 3) := by decide +kernel
theorem dX12_is_74 : decode cX12_is 74 = .ok (.iconst 0, 1) := by decide +kernel
theorem dX12_is_75 : decode cX12_is 75 = .ok (.istore_n 2, 1) := by decide +kernel
theorem dX12_is_76 : decode cX12_is 76 = .ok (.iinc 3 1, 3) := by decide +kernel
theorem dX12_is_79 : decode cX12_is 79 = .ok (.goto (-40), 3) := by decide +kernel
theorem dX12_is_82 : decode cX12_is 82 = .ok (.iload_n 2, 1) := by decide +kernel
theorem dX12_is_83 : decode cX12_is 83 = .ok (.ireturn, 1) := by decide +kernel
theorem dX12_which_0 : decode cX12_which 0 = .ok (.iconst 0, 1) := by decide +kernel
theorem dX12_which_1 : decode cX12_which 1 = .ok (.istore_n 2, 1) := by decide +kernel
theorem dX12_which_2 : decode cX12_which 2 = .ok (.iload_n 2, 1) := by decide +kernel
theorem dX12_which_3 : decode cX12_which 3 = .ok (.aload_n 1, 1) := by decide +kernel
theorem dX12_which_4 : decode cX12_which 4 = .ok (.arraylength, 1) := by decide +kernel
theorem dX12_which_5 : decode cX12_which 5 = .ok (.if_icmp .ge 21, 3) := by decide +kernel
theorem dX12_which_8 : decode cX12_which 8 = .ok (.aload_n 0, 1) := by decide +kernel
theorem dX12_which_9 : decode cX12_which 9 = .ok (.aload_n 1, 1) := by decide +kernel
theorem dX12_which_10 : decode cX12_which 10 = .ok (.iload_n 2, 1) := by decide +kernel
theorem dX12_which_11 : decode cX12_which 11 = .ok (.aaload, 1) := by decide +kernel
theorem dX12_which_12 : decode cX12_which 12 = .ok (.invokevirtual 174, 3) := by decide +kernel
theorem dX12_which_15 : decode cX12_which 15 = .ok (.ifCond .eq 5, 3) := by decide +kernel
theorem dX12_which_18 : decode cX12_which 18 = .ok (.iload_n 2, 1) := by decide +kernel
theorem dX12_which_19 : decode cX12_which 19 = .ok (.ireturn, 1) := by decide +kernel
theorem dX12_which_20 : decode cX12_which 20 = .ok (.iinc 2 1, 3) := by decide +kernel
theorem dX12_which_23 : decode cX12_which 23 = .ok (.goto (-21), 3) := by decide +kernel
theorem dX12_which_26 : decode cX12_which 26 = .ok (.iconst (-1), 1) := by decide +kernel
theorem dX12_which_27 : decode cX12_which 27 = .ok (.ireturn, 1) := by decide +kernel
