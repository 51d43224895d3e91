theorem dX0_init_0 : decode cX0_init 0 = .ok (.aload_n 0, 1) := by decide +kernel
theorem dX0_init_1 : decode cX0_init 1 = .ok (.invokespecial 3, 3) := by decide +kernel
theorem dX0_init_4 : decode cX0_init 4 = .ok (.aload_n 0, 1) := by decide +kernel
theorem dX0_init_5 : decode cX0_init 5 = .ok (.iconst 0, 1) := by decide +kernel
theorem dX0_init_6 : decode cX0_init 6 = .ok (.putfield 9, 3) := by decide +kernel
theorem dX0_init_9 : decode cX0_init 9 = .ok (.aload_n 0, 1) := by decide +kernel
theorem dX0_init_10 : decode cX0_init 10 = .ok (.aload_n 1, 1) := by decide +kernel
theorem dX0_init_11 : decode cX0_init 11 = .ok (.putfield 15, 3) := by decide +kernel
theorem dX0_init_14 : decode cX0_init 14 = .ok (.aload_n 0, 1) := by decide +kernel
theorem dX0_init_15 : decode cX0_init 15 = .ok (.aload_n 2, 1) := by decide +kernel
theorem dX0_init_16 : decode cX0_init 16 = .ok (.putfield 19, 3) := by decide +kernel
theorem dX0_init_19 : decode cX0_init 19 = .ok (.aload_n 0, 1) := by decide +kernel
theorem dX0_init_20 : decode cX0_init 20 = .ok (.aload_n 3, 1) := by decide +kernel
theorem dX0_init_21 : decode cX0_init 21 = .ok (.putfield 23, 3) := by decide +kernel
theorem dX0_init_24 : decode cX0_init 24 = .ok (.return_, 1) := by decide +kernel
theorem dX0_liveThrough_0 : decode cX0_liveThrough 0 = .ok (.aload_n 0, 1) := by decide +kernel
theorem dX0_liveThrough_1 : decode cX0_liveThrough 1 = .ok (.iload_n 1, 1) := by decide +kernel
theorem dX0_liveThrough_2 : decode cX0_liveThrough 2 = .ok (.putfield 9, 3) := by decide +kernel
theorem dX0_liveThrough_5 : decode cX0_liveThrough 5 = .ok (.aload_n 0, 1) := by decide +kernel
theorem dX0_liveThrough_6 : decode cX0_liveThrough 6 = .ok (.getfield 23, 3) := by decide +kernel
theorem dX0_liveThrough_9 : decode cX0_liveThrough 9 = .ok (.aload_n 0, 1) := by decide +kernel
theorem dX0_liveThrough_10 : decode cX0_liveThrough 10 = .ok (.getfield 19, 3) := by decide +kernel
theorem dX0_liveThrough_13 : decode cX0_liveThrough 13 = .ok (.invokevirtual 30, 3) := by decide +kernel
theorem dX0_liveThrough_16 : decode cX0_liveThrough 16 = .ok (.iconst 0, 1) := by decide +kernel
theorem dX0_liveThrough_17 : decode cX0_liveThrough 17 = .ok (.istore 4, 2) := by decide +kernel
theorem dX0_liveThrough_19 : decode cX0_liveThrough 19 = .ok (.iconst 0, 1) := by decide +kernel
theorem dX0_liveThrough_20 : decode cX0_liveThrough 20 = .ok (.istore 5, 2) := by decide +kernel
theorem dX0_liveThrough_22 : decode cX0_liveThrough 22 = .ok (.iload 5, 2) := by decide +kernel
theorem dX0_liveThrough_24 : decode cX0_liveThrough 24 = .ok (.iload_n 2, 1) := by decide +kernel
theorem dX0_liveThrough_25 : decode cX0_liveThrough 25 = .ok (.if_icmp .ge 60, 3) := by decide +kernel
theorem dX0_liveThrough_28 : decode cX0_liveThrough 28 = .ok (.aload_n 0, 1) := by decide +kernel
theorem dX0_liveThrough_29 : decode cX0_liveThrough 29 = .ok (.aload_n 0, 1) := by decide +kernel
theorem dX0_liveThrough_30 : decode cX0_liveThrough 30 = .ok (.bipush 6, 2) := by decide +kernel
theorem dX0_liveThrough_32 : decode cX0_liveThrough 32 = .ok (.invokevirtual 56, 3) := by decide +kernel
theorem dX0_liveThrough_35 : decode cX0_liveThrough 35 = .ok (.invokevirtual 60, 3) := by decide +kernel
theorem dX0_liveThrough_38 : decode cX0_liveThrough 38 = .ok (.aload_n 0, 1) := by decide +kernel
theorem dX0_liveThrough_39 : decode cX0_liveThrough 39 = .ok (.getfield 23, 3) := by decide +kernel
theorem dX0_liveThrough_42 : decode cX0_liveThrough 42 = .ok (.bipush 10, 2) := by decide +kernel
theorem dX0_liveThrough_44 : decode cX0_liveThrough 44 = .ok (.invokevirtual 48, 3) := by decide +kernel
theorem dX0_liveThrough_47 : decode cX0_liveThrough 47 = .ok (.aload_n 0, 1) := by decide +kernel
theorem dX0_liveThrough_48 : decode cX0_liveThrough 48 = .ok (.getfield 23, 3) := by decide +kernel
theorem dX0_liveThrough_51 : decode cX0_liveThrough 51 = .ok (.getfield 52, 3) := by decide +kernel
theorem dX0_liveThrough_54 : decode cX0_liveThrough 54 = .ok (.bipush 12, 2) := by decide +kernel
theorem dX0_liveThrough_56 : decode cX0_liveThrough 56 = .ok (.iaload, 1) := by decide +kernel
theorem dX0_liveThrough_57 : decode cX0_liveThrough 57 = .ok (.iload 4, 2) := by decide +kernel
theorem dX0_liveThrough_59 : decode cX0_liveThrough 59 = .ok (.if_icmp .le 16, 3) := by decide +kernel
theorem dX0_liveThrough_62 : decode cX0_liveThrough 62 = .ok (.aload_n 0, 1) := by decide +kernel
theorem dX0_liveThrough_63 : decode cX0_liveThrough 63 = .ok (.getfield 23, 3) := by decide +kernel
theorem dX0_liveThrough_66 : decode cX0_liveThrough 66 = .ok (.getfield 52, 3) := by decide +kernel
theorem dX0_liveThrough_69 : decode cX0_liveThrough 69 = .ok (.bipush 12, 2) := by decide +kernel
theorem dX0_liveThrough_71 : decode cX0_liveThrough 71 = .ok (.iaload, 1) := by decide +kernel
theorem dX0_liveThrough_72 : decode cX0_liveThrough 72 = .ok (.goto 5, 3) := by decide +kernel
theorem dX0_liveThrough_75 : decode cX0_liveThrough 75 = .ok (.iload 4, 2) := by decide +kernel
theorem dX0_liveThrough_77 : decode cX0_liveThrough 77 = .ok (.istore 4, 2) := by decide +kernel
theorem dX0_liveThrough_79 : decode cX0_liveThrough 79 = .ok (.iinc 5 1, 3) := by decide +kernel
theorem dX0_liveThrough_82 : decode cX0_liveThrough 82 = .ok (.goto (-60), 3) := by decide +kernel
theorem dX0_liveThrough_85 : decode cX0_liveThrough 85 = .ok (.iload_n 3, 1) := by decide +kernel
theorem dX0_liveThrough_86 : decode cX0_liveThrough 86 = .ok (.lookupswitch 58 #[(0, 26), (1, 42)], 26) := by decide +kernel
theorem dX0_liveThrough_112 : decode cX0_liveThrough 112 = .ok (.aload_n 0, 1) := by decide +kernel
theorem dX0_liveThrough_113 : decode cX0_liveThrough 113 = .ok (.getfield 23, 3) := by decide +kernel
theorem dX0_liveThrough_116 : decode cX0_liveThrough 116 = .ok (.invokevirtual 63, 3) := by decide +kernel
theorem dX0_liveThrough_119 : decode cX0_liveThrough 119 = .ok (.aload_n 0, 1) := by decide +kernel
theorem dX0_liveThrough_120 : decode cX0_liveThrough 120 = .ok (.getfield 19, 3) := by decide +kernel
theorem dX0_liveThrough_123 : decode cX0_liveThrough 123 = .ok (.invokevirtual 63, 3) := by decide +kernel
theorem dX0_liveThrough_126 : decode cX0_liveThrough 126 = .ok (.isub, 1) := by decide +kernel
theorem dX0_liveThrough_127 : decode cX0_liveThrough 127 = .ok (.ireturn, 1) := by decide +kernel
theorem dX0_liveThrough_128 : decode cX0_liveThrough 128 = .ok (.aload_n 0, 1) := by decide +kernel
theorem dX0_liveThrough_129 : decode cX0_liveThrough 129 = .ok (.getfield 23, 3) := by decide +kernel
theorem dX0_liveThrough_132 : decode cX0_liveThrough 132 = .ok (.invokevirtual 67, 3) := by decide +kernel
theorem dX0_liveThrough_135 : decode cX0_liveThrough 135 = .ok (.aload_n 0, 1) := by decide +kernel
theorem dX0_liveThrough_136 : decode cX0_liveThrough 136 = .ok (.getfield 19, 3) := by decide +kernel
theorem dX0_liveThrough_139 : decode cX0_liveThrough 139 = .ok (.invokevirtual 67, 3) := by decide +kernel
theorem dX0_liveThrough_142 : decode cX0_liveThrough 142 = .ok (.isub, 1) := by decide +kernel
theorem dX0_liveThrough_143 : decode cX0_liveThrough 143 = .ok (.ireturn, 1) := by decide +kernel
theorem dX0_liveThrough_144 : decode cX0_liveThrough 144 = .ok (.iload 4, 2) := by decide +kernel
theorem dX0_liveThrough_146 : decode cX0_liveThrough 146 = .ok (.ireturn, 1) := by decide +kernel
theorem dX0_happen_0 : decode cX0_happen 0 = .ok (.iload_n 1, 1) := by decide +kernel
theorem dX0_happen_1 : decode cX0_happen 1 = .ok (.iconst 2, 1) := by decide +kernel
theorem dX0_happen_2 : decode cX0_happen 2 = .ok (.if_icmp .gt 29, 3) := by decide +kernel
theorem dX0_happen_5 : decode cX0_happen 5 = .ok (.aload_n 0, 1) := by decide +kernel
theorem dX0_happen_6 : decode cX0_happen 6 = .ok (.getfield 15, 3) := by decide +kernel
theorem dX0_happen_9 : decode cX0_happen 9 = .ok (.getfield 70, 3) := by decide +kernel
theorem dX0_happen_12 : decode cX0_happen 12 = .ok (.ifCond .le 19, 3) := by decide +kernel
theorem dX0_happen_15 : decode cX0_happen 15 = .ok (.aload_n 0, 1) := by decide +kernel
theorem dX0_happen_16 : decode cX0_happen 16 = .ok (.aload_n 0, 1) := by decide +kernel
theorem dX0_happen_17 : decode cX0_happen 17 = .ok (.aload_n 0, 1) := by decide +kernel
theorem dX0_happen_18 : decode cX0_happen 18 = .ok (.getfield 15, 3) := by decide +kernel
theorem dX0_happen_21 : decode cX0_happen 21 = .ok (.getfield 70, 3) := by decide +kernel
theorem dX0_happen_24 : decode cX0_happen 24 = .ok (.invokevirtual 56, 3) := by decide +kernel
theorem dX0_happen_27 : decode cX0_happen 27 = .ok (.iload_n 1, 1) := by decide +kernel
theorem dX0_happen_28 : decode cX0_happen 28 = .ok (.invokevirtual 73, 3) := by decide +kernel
theorem dX0_happen_31 : decode cX0_happen 31 = .ok (.iload_n 1, 1) := by decide +kernel
theorem dX0_happen_32 : decode cX0_happen 32 = .ok (.iconst 3, 1) := by decide +kernel
theorem dX0_happen_33 : decode cX0_happen 33 = .ok (.if_icmp .ne 31, 3) := by decide +kernel
theorem dX0_happen_36 : decode cX0_happen 36 = .ok (.aload_n 0, 1) := by decide +kernel
theorem dX0_happen_37 : decode cX0_happen 37 = .ok (.getfield 15, 3) := by decide +kernel
theorem dX0_happen_40 : decode cX0_happen 40 = .ok (.getfield 77, 3) := by decide +kernel
theorem dX0_happen_43 : decode cX0_happen 43 = .ok (.ifCond .le 21, 3) := by decide +kernel
theorem dX0_happen_46 : decode cX0_happen 46 = .ok (.aload_n 0, 1) := by decide +kernel
theorem dX0_happen_47 : decode cX0_happen 47 = .ok (.getfield 23, 3) := by decide +kernel
theorem dX0_happen_50 : decode cX0_happen 50 = .ok (.aload_n 0, 1) := by decide +kernel
theorem dX0_happen_51 : decode cX0_happen 51 = .ok (.aload_n 0, 1) := by decide +kernel
theorem dX0_happen_52 : decode cX0_happen 52 = .ok (.getfield 15, 3) := by decide +kernel
theorem dX0_happen_55 : decode cX0_happen 55 = .ok (.getfield 77, 3) := by decide +kernel
theorem dX0_happen_58 : decode cX0_happen 58 = .ok (.invokevirtual 56, 3) := by decide +kernel
theorem dX0_happen_61 : decode cX0_happen 61 = .ok (.invokevirtual 80, 3) := by decide +kernel
theorem dX0_happen_64 : decode cX0_happen 64 = .ok (.return_, 1) := by decide +kernel
theorem dX0_happenTo_0 : decode cX0_happenTo 0 = .ok (.iload_n 2, 1) := by decide +kernel
theorem dX0_happenTo_1 : decode cX0_happenTo 1 = .ok (.ifCond .ne 35, 3) := by decide +kernel
theorem dX0_happenTo_4 : decode cX0_happenTo 4 = .ok (.aload_n 0, 1) := by decide +kernel
theorem dX0_happenTo_5 : decode cX0_happenTo 5 = .ok (.bipush 64, 2) := by decide +kernel
theorem dX0_happenTo_7 : decode cX0_happenTo 7 = .ok (.invokevirtual 56, 3) := by decide +kernel
theorem dX0_happenTo_10 : decode cX0_happenTo 10 = .ok (.iconst 1, 1) := by decide +kernel
theorem dX0_happenTo_11 : decode cX0_happenTo 11 = .ok (.iadd, 1) := by decide +kernel
theorem dX0_happenTo_12 : decode cX0_happenTo 12 = .ok (.istore_n 3, 1) := by decide +kernel
theorem dX0_happenTo_13 : decode cX0_happenTo 13 = .ok (.aload_n 0, 1) := by decide +kernel
theorem dX0_happenTo_14 : decode cX0_happenTo 14 = .ok (.getfield 15, 3) := by decide +kernel
theorem dX0_happenTo_17 : decode cX0_happenTo 17 = .ok (.iload_n 1, 1) := by decide +kernel
theorem dX0_happenTo_18 : decode cX0_happenTo 18 = .ok (.invokevirtual 83, 3) := by decide +kernel
theorem dX0_happenTo_21 : decode cX0_happenTo 21 = .ok (.ifCond .eq 12, 3) := by decide +kernel
theorem dX0_happenTo_24 : decode cX0_happenTo 24 = .ok (.aload_n 0, 1) := by decide +kernel
theorem dX0_happenTo_25 : decode cX0_happenTo 25 = .ok (.getfield 23, 3) := by decide +kernel
theorem dX0_happenTo_28 : decode cX0_happenTo 28 = .ok (.iload_n 1, 1) := by decide +kernel
theorem dX0_happenTo_29 : decode cX0_happenTo 29 = .ok (.iload_n 3, 1) := by decide +kernel
theorem dX0_happenTo_30 : decode cX0_happenTo 30 = .ok (.invokevirtual 87, 3) := by decide +kernel
theorem dX0_happenTo_33 : decode cX0_happenTo 33 = .ok (.goto 52, 3) := by decide +kernel
theorem dX0_happenTo_36 : decode cX0_happenTo 36 = .ok (.iload_n 2, 1) := by decide +kernel
theorem dX0_happenTo_37 : decode cX0_happenTo 37 = .ok (.iconst 1, 1) := by decide +kernel
theorem dX0_happenTo_38 : decode cX0_happenTo 38 = .ok (.if_icmp .ne 27, 3) := by decide +kernel
theorem dX0_happenTo_41 : decode cX0_happenTo 41 = .ok (.aload_n 0, 1) := by decide +kernel
theorem dX0_happenTo_42 : decode cX0_happenTo 42 = .ok (.bipush 100, 2) := by decide +kernel
theorem dX0_happenTo_44 : decode cX0_happenTo 44 = .ok (.invokevirtual 56, 3) := by decide +kernel
theorem dX0_happenTo_47 : decode cX0_happenTo 47 = .ok (.iconst 1, 1) := by decide +kernel
theorem dX0_happenTo_48 : decode cX0_happenTo 48 = .ok (.iadd, 1) := by decide +kernel
theorem dX0_happenTo_49 : decode cX0_happenTo 49 = .ok (.istore_n 3, 1) := by decide +kernel
theorem dX0_happenTo_50 : decode cX0_happenTo 50 = .ok (.aload_n 0, 1) := by decide +kernel
theorem dX0_happenTo_51 : decode cX0_happenTo 51 = .ok (.getfield 23, 3) := by decide +kernel
theorem dX0_happenTo_54 : decode cX0_happenTo 54 = .ok (.iload_n 1, 1) := by decide +kernel
theorem dX0_happenTo_55 : decode cX0_happenTo 55 = .ok (.iconst 1, 1) := by decide +kernel
theorem dX0_happenTo_56 : decode cX0_happenTo 56 = .ok (.iload_n 3, 1) := by decide +kernel
theorem dX0_happenTo_57 : decode cX0_happenTo 57 = .ok (.iconst 0, 1) := by decide +kernel
theorem dX0_happenTo_58 : decode cX0_happenTo 58 = .ok (.iload_n 3, 1) := by decide +kernel
theorem dX0_happenTo_59 : decode cX0_happenTo 59 = .ok (.invokevirtual 90, 3) := by decide +kernel
theorem dX0_happenTo_62 : decode cX0_happenTo 62 = .ok (.goto 23, 3) := by decide +kernel
theorem dX0_happenTo_65 : decode cX0_happenTo 65 = .ok (.aload_n 0, 1) := by decide +kernel
theorem dX0_happenTo_66 : decode cX0_happenTo 66 = .ok (.getfield 23, 3) := by decide +kernel
theorem dX0_happenTo_69 : decode cX0_happenTo 69 = .ok (.iload_n 1, 1) := by decide +kernel
theorem dX0_happenTo_70 : decode cX0_happenTo 70 = .ok (.invokevirtual 94, 3) := by decide +kernel
theorem dX0_happenTo_73 : decode cX0_happenTo 73 = .ok (.ifCond .le 12, 3) := by decide +kernel
theorem dX0_happenTo_76 : decode cX0_happenTo 76 = .ok (.aload_n 0, 1) := by decide +kernel
theorem dX0_happenTo_77 : decode cX0_happenTo 77 = .ok (.getfield 23, 3) := by decide +kernel
theorem dX0_happenTo_80 : decode cX0_happenTo 80 = .ok (.iload_n 1, 1) := by decide +kernel
theorem dX0_happenTo_81 : decode cX0_happenTo 81 = .ok (.invokevirtual 97, 3) := by decide +kernel
theorem dX0_happenTo_84 : decode cX0_happenTo 84 = .ok (.pop, 1) := by decide +kernel
theorem dX0_happenTo_85 : decode cX0_happenTo 85 = .ok (.return_, 1) := by decide +kernel
theorem dX0_draw_0 : decode cX0_draw 0 = .ok (.aload_n 0, 1) := by decide +kernel
theorem dX0_draw_1 : decode cX0_draw 1 = .ok (.aload_n 0, 1) := by decide +kernel
theorem dX0_draw_2 : decode cX0_draw 2 = .ok (.getfield 9, 3) := by decide +kernel
theorem dX0_draw_5 : decode cX0_draw 5 = .ok (.ldc 100, 2) := by decide +kernel
theorem dX0_draw_7 : decode cX0_draw 7 = .ok (.imul, 1) := by decide +kernel
theorem dX0_draw_8 : decode cX0_draw 8 = .ok (.sipush 12345, 3) := by decide +kernel
theorem dX0_draw_11 : decode cX0_draw 11 = .ok (.iadd, 1) := by decide +kernel
theorem dX0_draw_12 : decode cX0_draw 12 = .ok (.putfield 9, 3) := by decide +kernel
theorem dX0_draw_15 : decode cX0_draw 15 = .ok (.iload_n 1, 1) := by decide +kernel
theorem dX0_draw_16 : decode cX0_draw 16 = .ok (.ifCond .le 19, 3) := by decide +kernel
theorem dX0_draw_19 : decode cX0_draw 19 = .ok (.aload_n 0, 1) := by decide +kernel
theorem dX0_draw_20 : decode cX0_draw 20 = .ok (.getfield 9, 3) := by decide +kernel
theorem dX0_draw_23 : decode cX0_draw 23 = .ok (.bipush 16, 2) := by decide +kernel
theorem dX0_draw_25 : decode cX0_draw 25 = .ok (.iushr, 1) := by decide +kernel
theorem dX0_draw_26 : decode cX0_draw 26 = .ok (.sipush 32767, 3) := by decide +kernel
theorem dX0_draw_29 : decode cX0_draw 29 = .ok (.iand, 1) := by decide +kernel
theorem dX0_draw_30 : decode cX0_draw 30 = .ok (.iload_n 1, 1) := by decide +kernel
theorem dX0_draw_31 : decode cX0_draw 31 = .ok (.irem, 1) := by decide +kernel
theorem dX0_draw_32 : decode cX0_draw 32 = .ok (.goto 4, 3) := by decide +kernel
theorem dX0_draw_35 : decode cX0_draw 35 = .ok (.iconst 0, 1) := by decide +kernel
theorem dX0_draw_36 : decode cX0_draw 36 = .ok (.ireturn, 1) := by decide +kernel
theorem dX1_init_0 : decode cX1_init 0 = .ok (.aload_n 0, 1) := by decide +kernel
theorem dX1_init_1 : decode cX1_init 1 = .ok (.invokespecial 3, 3) := by decide +kernel
theorem dX1_init_4 : decode cX1_init 4 = .ok (.aload_n 0, 1) := by decide +kernel
theorem dX1_init_5 : decode cX1_init 5 = .ok (.bipush 36, 2) := by decide +kernel
theorem dX1_init_7 : decode cX1_init 7 = .ok (.newarray .int, 2) := by decide +kernel
theorem dX1_init_9 : decode cX1_init 9 = .ok (.putfield 11, 3) := by decide +kernel
theorem dX1_init_12 : decode cX1_init 12 = .ok (.aload_n 0, 1) := by decide +kernel
theorem dX1_init_13 : decode cX1_init 13 = .ok (.bipush 36, 2) := by decide +kernel
theorem dX1_init_15 : decode cX1_init 15 = .ok (.newarray .int, 2) := by decide +kernel
theorem dX1_init_17 : decode cX1_init 17 = .ok (.putfield 15, 3) := by decide +kernel
theorem dX1_init_20 : decode cX1_init 20 = .ok (.aload_n 0, 1) := by decide +kernel
theorem dX1_init_21 : decode cX1_init 21 = .ok (.bipush 36, 2) := by decide +kernel
theorem dX1_init_23 : decode cX1_init 23 = .ok (.newarray .int, 2) := by decide +kernel
theorem dX1_init_25 : decode cX1_init 25 = .ok (.putfield 18, 3) := by decide +kernel
theorem dX1_init_28 : decode cX1_init 28 = .ok (.aload_n 0, 1) := by decide +kernel
theorem dX1_init_29 : decode cX1_init 29 = .ok (.bipush 36, 2) := by decide +kernel
theorem dX1_init_31 : decode cX1_init 31 = .ok (.newarray .int, 2) := by decide +kernel
theorem dX1_init_33 : decode cX1_init 33 = .ok (.putfield 21, 3) := by decide +kernel
theorem dX1_init_36 : decode cX1_init 36 = .ok (.aload_n 0, 1) := by decide +kernel
theorem dX1_init_37 : decode cX1_init 37 = .ok (.bipush 36, 2) := by decide +kernel
theorem dX1_init_39 : decode cX1_init 39 = .ok (.newarray .int, 2) := by decide +kernel
theorem dX1_init_41 : decode cX1_init 41 = .ok (.putfield 24, 3) := by decide +kernel
theorem dX1_init_44 : decode cX1_init 44 = .ok (.aload_n 0, 1) := by decide +kernel
theorem dX1_init_45 : decode cX1_init 45 = .ok (.sipush 1152, 3) := by decide +kernel
theorem dX1_init_48 : decode cX1_init 48 = .ok (.newarray .int, 2) := by decide +kernel
theorem dX1_init_50 : decode cX1_init 50 = .ok (.putfield 27, 3) := by decide +kernel
theorem dX1_init_53 : decode cX1_init 53 = .ok (.aload_n 0, 1) := by decide +kernel
theorem dX1_init_54 : decode cX1_init 54 = .ok (.sipush 1152, 3) := by decide +kernel
theorem dX1_init_57 : decode cX1_init 57 = .ok (.newarray .int, 2) := by decide +kernel
theorem dX1_init_59 : decode cX1_init 59 = .ok (.putfield 30, 3) := by decide +kernel
theorem dX1_init_62 : decode cX1_init 62 = .ok (.return_, 1) := by decide +kernel
theorem dX1_clear_0 : decode cX1_clear 0 = .ok (.iconst 0, 1) := by decide +kernel
theorem dX1_clear_1 : decode cX1_clear 1 = .ok (.istore_n 1, 1) := by decide +kernel
theorem dX1_clear_2 : decode cX1_clear 2 = .ok (.iload_n 1, 1) := by decide +kernel
theorem dX1_clear_3 : decode cX1_clear 3 = .ok (.bipush 36, 2) := by decide +kernel
theorem dX1_clear_5 : decode cX1_clear 5 = .ok (.if_icmp .ge 14, 3) := by decide +kernel
theorem dX1_clear_8 : decode cX1_clear 8 = .ok (.aload_n 0, 1) := by decide +kernel
theorem dX1_clear_9 : decode cX1_clear 9 = .ok (.iload_n 1, 1) := by decide +kernel
theorem dX1_clear_10 : decode cX1_clear 10 = .ok (.invokevirtual 33, 3) := by decide +kernel
theorem dX1_clear_13 : decode cX1_clear 13 = .ok (.iinc 1 1, 3) := by decide +kernel
theorem dX1_clear_16 : decode cX1_clear 16 = .ok (.goto (-14), 3) := by decide +kernel
theorem dX1_clear_19 : decode cX1_clear 19 = .ok (.return_, 1) := by decide +kernel
theorem dX1_copyFrom_0 : decode cX1_copyFrom 0 = .ok (.iload_n 2, 1) := by decide +kernel
theorem dX1_copyFrom_1 : decode cX1_copyFrom 1 = .ok (.iconst 3, 1) := by decide +kernel
theorem dX1_copyFrom_2 : decode cX1_copyFrom 2 = .ok (.imul, 1) := by decide +kernel
theorem dX1_copyFrom_3 : decode cX1_copyFrom 3 = .ok (.istore_n 3, 1) := by decide +kernel
theorem dX1_copyFrom_4 : decode cX1_copyFrom 4 = .ok (.aload_n 1, 1) := by decide +kernel
theorem dX1_copyFrom_5 : decode cX1_copyFrom 5 = .ok (.getfield 11, 3) := by decide +kernel
theorem dX1_copyFrom_8 : decode cX1_copyFrom 8 = .ok (.iconst 0, 1) := by decide +kernel
theorem dX1_copyFrom_9 : decode cX1_copyFrom 9 = .ok (.aload_n 0, 1) := by decide +kernel
theorem dX1_copyFrom_10 : decode cX1_copyFrom 10 = .ok (.getfield 11, 3) := by decide +kernel
theorem dX1_copyFrom_13 : decode cX1_copyFrom 13 = .ok (.iconst 0, 1) := by decide +kernel
theorem dX1_copyFrom_14 : decode cX1_copyFrom 14 = .ok (.iload_n 3, 1) := by decide +kernel
theorem dX1_copyFrom_15 : decode cX1_copyFrom 15 = .ok (.invokestatic 37, 3) := by decide +kernel
theorem dX1_copyFrom_18 : decode cX1_copyFrom 18 = .ok (.aload_n 1, 1) := by decide +kernel
theorem dX1_copyFrom_19 : decode cX1_copyFrom 19 = .ok (.getfield 15, 3) := by decide +kernel
theorem dX1_copyFrom_22 : decode cX1_copyFrom 22 = .ok (.iconst 0, 1) := by decide +kernel
theorem dX1_copyFrom_23 : decode cX1_copyFrom 23 = .ok (.aload_n 0, 1) := by decide +kernel
theorem dX1_copyFrom_24 : decode cX1_copyFrom 24 = .ok (.getfield 15, 3) := by decide +kernel
theorem dX1_copyFrom_27 : decode cX1_copyFrom 27 = .ok (.iconst 0, 1) := by decide +kernel
theorem dX1_copyFrom_28 : decode cX1_copyFrom 28 = .ok (.iload_n 3, 1) := by decide +kernel
theorem dX1_copyFrom_29 : decode cX1_copyFrom 29 = .ok (.invokestatic 37, 3) := by decide +kernel
theorem dX1_copyFrom_32 : decode cX1_copyFrom 32 = .ok (.aload_n 1, 1) := by decide +kernel
theorem dX1_copyFrom_33 : decode cX1_copyFrom 33 = .ok (.getfield 18, 3) := by decide +kernel
theorem dX1_copyFrom_36 : decode cX1_copyFrom 36 = .ok (.iconst 0, 1) := by decide +kernel
theorem dX1_copyFrom_37 : decode cX1_copyFrom 37 = .ok (.aload_n 0, 1) := by decide +kernel
theorem dX1_copyFrom_38 : decode cX1_copyFrom 38 = .ok (.getfield 18, 3) := by decide +kernel
theorem dX1_copyFrom_41 : decode cX1_copyFrom 41 = .ok (.iconst 0, 1) := by decide +kernel
theorem dX1_copyFrom_42 : decode cX1_copyFrom 42 = .ok (.iload_n 3, 1) := by decide +kernel
theorem dX1_copyFrom_43 : decode cX1_copyFrom 43 = .ok (.invokestatic 37, 3) := by decide +kernel
theorem dX1_copyFrom_46 : decode cX1_copyFrom 46 = .ok (.aload_n 1, 1) := by decide +kernel
theorem dX1_copyFrom_47 : decode cX1_copyFrom 47 = .ok (.getfield 21, 3) := by decide +kernel
theorem dX1_copyFrom_50 : decode cX1_copyFrom 50 = .ok (.iconst 0, 1) := by decide +kernel
theorem dX1_copyFrom_51 : decode cX1_copyFrom 51 = .ok (.aload_n 0, 1) := by decide +kernel
theorem dX1_copyFrom_52 : decode cX1_copyFrom 52 = .ok (.getfield 21, 3) := by decide +kernel
theorem dX1_copyFrom_55 : decode cX1_copyFrom 55 = .ok (.iconst 0, 1) := by decide +kernel
theorem dX1_copyFrom_56 : decode cX1_copyFrom 56 = .ok (.iload_n 3, 1) := by decide +kernel
theorem dX1_copyFrom_57 : decode cX1_copyFrom 57 = .ok (.invokestatic 37, 3) := by decide +kernel
theorem dX1_copyFrom_60 : decode cX1_copyFrom 60 = .ok (.aload_n 1, 1) := by decide +kernel
theorem dX1_copyFrom_61 : decode cX1_copyFrom 61 = .ok (.getfield 24, 3) := by decide +kernel
theorem dX1_copyFrom_64 : decode cX1_copyFrom 64 = .ok (.iconst 0, 1) := by decide +kernel
theorem dX1_copyFrom_65 : decode cX1_copyFrom 65 = .ok (.aload_n 0, 1) := by decide +kernel
theorem dX1_copyFrom_66 : decode cX1_copyFrom 66 = .ok (.getfield 24, 3) := by decide +kernel
theorem dX1_copyFrom_69 : decode cX1_copyFrom 69 = .ok (.iconst 0, 1) := by decide +kernel
theorem dX1_copyFrom_70 : decode cX1_copyFrom 70 = .ok (.iload_n 3, 1) := by decide +kernel
theorem dX1_copyFrom_71 : decode cX1_copyFrom 71 = .ok (.invokestatic 37, 3) := by decide +kernel
theorem dX1_copyFrom_74 : decode cX1_copyFrom 74 = .ok (.iconst 0, 1) := by decide +kernel
theorem dX1_copyFrom_75 : decode cX1_copyFrom 75 = .ok (.istore 4, 2) := by decide +kernel
theorem dX1_copyFrom_77 : decode cX1_copyFrom 77 = .ok (.iload 4, 2) := by decide +kernel
theorem dX1_copyFrom_79 : decode cX1_copyFrom 79 = .ok (.iload_n 3, 1) := by decide +kernel
theorem dX1_copyFrom_80 : decode cX1_copyFrom 80 = .ok (.if_icmp .ge 69, 3) := by decide +kernel
theorem dX1_copyFrom_83 : decode cX1_copyFrom 83 = .ok (.iload 4, 2) := by decide +kernel
theorem dX1_copyFrom_85 : decode cX1_copyFrom 85 = .ok (.bipush 32, 2) := by decide +kernel
theorem dX1_copyFrom_87 : decode cX1_copyFrom 87 = .ok (.imul, 1) := by decide +kernel
theorem dX1_copyFrom_88 : decode cX1_copyFrom 88 = .ok (.istore 5, 2) := by decide +kernel
theorem dX1_copyFrom_90 : decode cX1_copyFrom 90 = .ok (.iload 5, 2) := by decide +kernel
theorem dX1_copyFrom_92 : decode cX1_copyFrom 92 = .ok (.istore 6, 2) := by decide +kernel
theorem dX1_copyFrom_94 : decode cX1_copyFrom 94 = .ok (.iload 6, 2) := by decide +kernel
theorem dX1_copyFrom_96 : decode cX1_copyFrom 96 = .ok (.iload 5, 2) := by decide +kernel
theorem dX1_copyFrom_98 : decode cX1_copyFrom 98 = .ok (.aload_n 0, 1) := by decide +kernel
theorem dX1_copyFrom_99 : decode cX1_copyFrom 99 = .ok (.getfield 24, 3) := by decide +kernel
theorem dX1_copyFrom_102 : decode cX1_copyFrom 102 = .ok (.iload 4, 2) := by decide +kernel
theorem dX1_copyFrom_104 : decode cX1_copyFrom 104 = .ok (.iaload, 1) := by decide +kernel
theorem dX1_copyFrom_105 : decode cX1_copyFrom 105 = .ok (.iadd, 1) := by decide +kernel
theorem dX1_copyFrom_106 : decode cX1_copyFrom 106 = .ok (.if_icmp .ge 37, 3) := by decide +kernel
theorem dX1_copyFrom_109 : decode cX1_copyFrom 109 = .ok (.aload_n 0, 1) := by decide +kernel
theorem dX1_copyFrom_110 : decode cX1_copyFrom 110 = .ok (.getfield 27, 3) := by decide +kernel
theorem dX1_copyFrom_113 : decode cX1_copyFrom 113 = .ok (.iload 6, 2) := by decide +kernel
theorem dX1_copyFrom_115 : decode cX1_copyFrom 115 = .ok (.aload_n 1, 1) := by decide +kernel
theorem dX1_copyFrom_116 : decode cX1_copyFrom 116 = .ok (.getfield 27, 3) := by decide +kernel
theorem dX1_copyFrom_119 : decode cX1_copyFrom 119 = .ok (.iload 6, 2) := by decide +kernel
theorem dX1_copyFrom_121 : decode cX1_copyFrom 121 = .ok (.iaload, 1) := by decide +kernel
theorem dX1_copyFrom_122 : decode cX1_copyFrom 122 = .ok (.iastore, 1) := by decide +kernel
theorem dX1_copyFrom_123 : decode cX1_copyFrom 123 = .ok (.aload_n 0, 1) := by decide +kernel
theorem dX1_copyFrom_124 : decode cX1_copyFrom 124 = .ok (.getfield 30, 3) := by decide +kernel
theorem dX1_copyFrom_127 : decode cX1_copyFrom 127 = .ok (.iload 6, 2) := by decide +kernel
theorem dX1_copyFrom_129 : decode cX1_copyFrom 129 = .ok (.aload_n 1, 1) := by decide +kernel
theorem dX1_copyFrom_130 : decode cX1_copyFrom 130 = .ok (.getfield 30, 3) := by decide +kernel
theorem dX1_copyFrom_133 : decode cX1_copyFrom 133 = .ok (.iload 6, 2) := by decide +kernel
theorem dX1_copyFrom_135 : decode cX1_copyFrom 135 = .ok (.iaload, 1) := by decide +kernel
theorem dX1_copyFrom_136 : decode cX1_copyFrom 136 = .ok (.iastore, 1) := by decide +kernel
theorem dX1_copyFrom_137 : decode cX1_copyFrom 137 = .ok (.iinc 6 1, 3) := by decide +kernel
theorem dX1_copyFrom_140 : decode cX1_copyFrom 140 = .ok (.goto (-46), 3) := by decide +kernel
theorem dX1_copyFrom_143 : decode cX1_copyFrom 143 = .ok (.iinc 4 1, 3) := by decide +kernel
theorem dX1_copyFrom_146 : decode cX1_copyFrom 146 = .ok (.goto (-69), 3) := by decide +kernel
theorem dX1_copyFrom_149 : decode cX1_copyFrom 149 = .ok (.return_, 1) := by decide +kernel
theorem dX1_has_0 : decode cX1_has 0 = .ok (.aload_n 0, 1) := by decide +kernel
theorem dX1_has_1 : decode cX1_has 1 = .ok (.getfield 18, 3) := by decide +kernel
theorem dX1_has_4 : decode cX1_has 4 = .ok (.iload_n 1, 1) := by decide +kernel
theorem dX1_has_5 : decode cX1_has 5 = .ok (.iaload, 1) := by decide +kernel
theorem dX1_has_6 : decode cX1_has 6 = .ok (.ifCond .le 7, 3) := by decide +kernel
theorem dX1_has_9 : decode cX1_has 9 = .ok (.iconst 1, 1) := by decide +kernel
theorem dX1_has_10 : decode cX1_has 10 = .ok (.goto 4, 3) := by decide +kernel
theorem dX1_has_13 : decode cX1_has 13 = .ok (.iconst 0, 1) := by decide +kernel
theorem dX1_has_14 : decode cX1_has 14 = .ok (.ireturn, 1) := by decide +kernel
theorem dX1_put_0 : decode cX1_put 0 = .ok (.aload_n 0, 1) := by decide +kernel
theorem dX1_put_1 : decode cX1_put 1 = .ok (.getfield 11, 3) := by decide +kernel
theorem dX1_put_4 : decode cX1_put 4 = .ok (.iload_n 1, 1) := by decide +kernel
theorem dX1_put_5 : decode cX1_put 5 = .ok (.iload_n 2, 1) := by decide +kernel
theorem dX1_put_6 : decode cX1_put 6 = .ok (.iastore, 1) := by decide +kernel
theorem dX1_put_7 : decode cX1_put 7 = .ok (.aload_n 0, 1) := by decide +kernel
theorem dX1_put_8 : decode cX1_put 8 = .ok (.getfield 15, 3) := by decide +kernel
theorem dX1_put_11 : decode cX1_put 11 = .ok (.iload_n 1, 1) := by decide +kernel
theorem dX1_put_12 : decode cX1_put 12 = .ok (.iload_n 3, 1) := by decide +kernel
theorem dX1_put_13 : decode cX1_put 13 = .ok (.iastore, 1) := by decide +kernel
theorem dX1_put_14 : decode cX1_put 14 = .ok (.aload_n 0, 1) := by decide +kernel
theorem dX1_put_15 : decode cX1_put 15 = .ok (.getfield 18, 3) := by decide +kernel
theorem dX1_put_18 : decode cX1_put 18 = .ok (.iload_n 1, 1) := by decide +kernel
theorem dX1_put_19 : decode cX1_put 19 = .ok (.iload 4, 2) := by decide +kernel
theorem dX1_put_21 : decode cX1_put 21 = .ok (.iastore, 1) := by decide +kernel
theorem dX1_put_22 : decode cX1_put 22 = .ok (.iload_n 3, 1) := by decide +kernel
theorem dX1_put_23 : decode cX1_put 23 = .ok (.ifCond .eq 9, 3) := by decide +kernel
theorem dX1_put_26 : decode cX1_put 26 = .ok (.iload_n 2, 1) := by decide +kernel
theorem dX1_put_27 : decode cX1_put 27 = .ok (.iload 4, 2) := by decide +kernel
theorem dX1_put_29 : decode cX1_put 29 = .ok (.if_icmp .ne 7, 3) := by decide +kernel
theorem dX1_put_32 : decode cX1_put 32 = .ok (.iconst 1, 1) := by decide +kernel
theorem dX1_put_33 : decode cX1_put 33 = .ok (.goto 4, 3) := by decide +kernel
theorem dX1_put_36 : decode cX1_put 36 = .ok (.iconst 0, 1) := by decide +kernel
theorem dX1_put_37 : decode cX1_put 37 = .ok (.istore 5, 2) := by decide +kernel
theorem dX1_put_39 : decode cX1_put 39 = .ok (.aload_n 0, 1) := by decide +kernel
theorem dX1_put_40 : decode cX1_put 40 = .ok (.getfield 21, 3) := by decide +kernel
theorem dX1_put_43 : decode cX1_put 43 = .ok (.iload_n 1, 1) := by decide +kernel
theorem dX1_put_44 : decode cX1_put 44 = .ok (.iload 5, 2) := by decide +kernel
theorem dX1_put_46 : decode cX1_put 46 = .ok (.ifCond .eq 7, 3) := by decide +kernel
theorem dX1_put_49 : decode cX1_put 49 = .ok (.iconst 0, 1) := by decide +kernel
theorem dX1_put_50 : decode cX1_put 50 = .ok (.goto 16, 3) := by decide +kernel
theorem dX1_put_53 : decode cX1_put 53 = .ok (.iconst 1, 1) := by decide +kernel
theorem dX1_put_54 : decode cX1_put 54 = .ok (.iload_n 2, 1) := by decide +kernel
theorem dX1_put_55 : decode cX1_put 55 = .ok (.iload_n 3, 1) := by decide +kernel
theorem dX1_put_56 : decode cX1_put 56 = .ok (.imul, 1) := by decide +kernel
theorem dX1_put_57 : decode cX1_put 57 = .ok (.bipush 99, 2) := by decide +kernel
theorem dX1_put_59 : decode cX1_put 59 = .ok (.iadd, 1) := by decide +kernel
theorem dX1_put_60 : decode cX1_put 60 = .ok (.bipush 100, 2) := by decide +kernel
theorem dX1_put_62 : decode cX1_put 62 = .ok (.idiv, 1) := by decide +kernel
theorem dX1_put_63 : decode cX1_put 63 = .ok (.invokestatic 43, 3) := by decide +kernel
theorem dX1_put_66 : decode cX1_put 66 = .ok (.iastore, 1) := by decide +kernel
theorem dX1_put_67 : decode cX1_put 67 = .ok (.aload_n 0, 1) := by decide +kernel
theorem dX1_put_68 : decode cX1_put 68 = .ok (.getfield 24, 3) := by decide +kernel
theorem dX1_put_71 : decode cX1_put 71 = .ok (.iload_n 1, 1) := by decide +kernel
theorem dX1_put_72 : decode cX1_put 72 = .ok (.iconst 0, 1) := by decide +kernel
theorem dX1_put_73 : decode cX1_put 73 = .ok (.iastore, 1) := by decide +kernel
theorem dX1_put_74 : decode cX1_put 74 = .ok (.return_, 1) := by decide +kernel
theorem dX1_drop_0 : decode cX1_drop 0 = .ok (.aload_n 0, 1) := by decide +kernel
theorem dX1_drop_1 : decode cX1_drop 1 = .ok (.getfield 18, 3) := by decide +kernel
theorem dX1_drop_4 : decode cX1_drop 4 = .ok (.iload_n 1, 1) := by decide +kernel
theorem dX1_drop_5 : decode cX1_drop 5 = .ok (.iconst 0, 1) := by decide +kernel
theorem dX1_drop_6 : decode cX1_drop 6 = .ok (.iastore, 1) := by decide +kernel
theorem dX1_drop_7 : decode cX1_drop 7 = .ok (.aload_n 0, 1) := by decide +kernel
theorem dX1_drop_8 : decode cX1_drop 8 = .ok (.getfield 24, 3) := by decide +kernel
theorem dX1_drop_11 : decode cX1_drop 11 = .ok (.iload_n 1, 1) := by decide +kernel
theorem dX1_drop_12 : decode cX1_drop 12 = .ok (.iconst 0, 1) := by decide +kernel
theorem dX1_drop_13 : decode cX1_drop 13 = .ok (.iastore, 1) := by decide +kernel
theorem dX1_drop_14 : decode cX1_drop 14 = .ok (.return_, 1) := by decide +kernel
theorem dX1_lay_0 : decode cX1_lay 0 = .ok (.aload_n 0, 1) := by decide +kernel
theorem dX1_lay_1 : decode cX1_lay 1 = .ok (.getfield 18, 3) := by decide +kernel
theorem dX1_lay_4 : decode cX1_lay 4 = .ok (.iload_n 1, 1) := by decide +kernel
theorem dX1_lay_5 : decode cX1_lay 5 = .ok (.iaload, 1) := by decide +kernel
theorem dX1_lay_6 : decode cX1_lay 6 = .ok (.ifCond .ne 4, 3) := by decide +kernel
theorem dX1_lay_9 : decode cX1_lay 9 = .ok (.return_, 1) := by decide +kernel
theorem dX1_lay_10 : decode cX1_lay 10 = .ok (.iload_n 1, 1) := by decide +kernel
theorem dX1_lay_11 : decode cX1_lay 11 = .ok (.bipush 32, 2) := by decide +kernel
theorem dX1_lay_13 : decode cX1_lay 13 = .ok (.imul, 1) := by decide +kernel
theorem dX1_lay_14 : decode cX1_lay 14 = .ok (.istore 4, 2) := by decide +kernel
theorem dX1_lay_16 : decode cX1_lay 16 = .ok (.iload 4, 2) := by decide +kernel
theorem dX1_lay_18 : decode cX1_lay 18 = .ok (.aload_n 0, 1) := by decide +kernel
theorem dX1_lay_19 : decode cX1_lay 19 = .ok (.getfield 24, 3) := by decide +kernel
theorem dX1_lay_22 : decode cX1_lay 22 = .ok (.iload_n 1, 1) := by decide +kernel
theorem dX1_lay_23 : decode cX1_lay 23 = .ok (.iaload, 1) := by decide +kernel
theorem dX1_lay_24 : decode cX1_lay 24 = .ok (.iadd, 1) := by decide +kernel
theorem dX1_lay_25 : decode cX1_lay 25 = .ok (.istore 5, 2) := by decide +kernel
theorem dX1_lay_27 : decode cX1_lay 27 = .ok (.iload 4, 2) := by decide +kernel
theorem dX1_lay_29 : decode cX1_lay 29 = .ok (.istore 6, 2) := by decide +kernel
theorem dX1_lay_31 : decode cX1_lay 31 = .ok (.iload 4, 2) := by decide +kernel
theorem dX1_lay_33 : decode cX1_lay 33 = .ok (.istore 7, 2) := by decide +kernel
theorem dX1_lay_35 : decode cX1_lay 35 = .ok (.iload 7, 2) := by decide +kernel
theorem dX1_lay_37 : decode cX1_lay 37 = .ok (.iload 5, 2) := by decide +kernel
theorem dX1_lay_39 : decode cX1_lay 39 = .ok (.if_icmp .ge 91, 3) := by decide +kernel
theorem dX1_lay_42 : decode cX1_lay 42 = .ok (.iload_n 3, 1) := by decide +kernel
theorem dX1_lay_43 : decode cX1_lay 43 = .ok (.aload_n 0, 1) := by decide +kernel
theorem dX1_lay_44 : decode cX1_lay 44 = .ok (.getfield 30, 3) := by decide +kernel
theorem dX1_lay_47 : decode cX1_lay 47 = .ok (.iload 7, 2) := by decide +kernel
theorem dX1_lay_49 : decode cX1_lay 49 = .ok (.iaload, 1) := by decide +kernel
theorem dX1_lay_50 : decode cX1_lay 50 = .ok (.isub, 1) := by decide +kernel
theorem dX1_lay_51 : decode cX1_lay 51 = .ok (.aload_n 0, 1) := by decide +kernel
theorem dX1_lay_52 : decode cX1_lay 52 = .ok (.getfield 21, 3) := by decide +kernel
theorem dX1_lay_55 : decode cX1_lay 55 = .ok (.iload_n 1, 1) := by decide +kernel
theorem dX1_lay_56 : decode cX1_lay 56 = .ok (.iaload, 1) := by decide +kernel
theorem dX1_lay_57 : decode cX1_lay 57 = .ok (.if_icmp .lt 73, 3) := by decide +kernel
theorem dX1_lay_60 : decode cX1_lay 60 = .ok (.aload_n 0, 1) := by decide +kernel
theorem dX1_lay_61 : decode cX1_lay 61 = .ok (.getfield 18, 3) := by decide +kernel
theorem dX1_lay_64 : decode cX1_lay 64 = .ok (.iload_n 1, 1) := by decide +kernel
theorem dX1_lay_65 : decode cX1_lay 65 = .ok (.iaload, 1) := by decide +kernel
theorem dX1_lay_66 : decode cX1_lay 66 = .ok (.aload_n 0, 1) := by decide +kernel
theorem dX1_lay_67 : decode cX1_lay 67 = .ok (.getfield 27, 3) := by decide +kernel
theorem dX1_lay_70 : decode cX1_lay 70 = .ok (.iload 7, 2) := by decide +kernel
theorem dX1_lay_72 : decode cX1_lay 72 = .ok (.iaload, 1) := by decide +kernel
theorem dX1_lay_73 : decode cX1_lay 73 = .ok (.aload_n 0, 1) := by decide +kernel
theorem dX1_lay_74 : decode cX1_lay 74 = .ok (.getfield 27, 3) := by decide +kernel
theorem dX1_lay_77 : decode cX1_lay 77 = .ok (.iload 6, 2) := by decide +kernel
theorem dX1_lay_79 : decode cX1_lay 79 = .ok (.iaload, 1) := by decide +kernel
theorem dX1_lay_80 : decode cX1_lay 80 = .ok (.isub, 1) := by decide +kernel
theorem dX1_lay_81 : decode cX1_lay 81 = .ok (.imul, 1) := by decide +kernel
theorem dX1_lay_82 : decode cX1_lay 82 = .ok (.bipush 100, 2) := by decide +kernel
theorem dX1_lay_84 : decode cX1_lay 84 = .ok (.aload_n 0, 1) := by decide +kernel
theorem dX1_lay_85 : decode cX1_lay 85 = .ok (.getfield 30, 3) := by decide +kernel
theorem dX1_lay_88 : decode cX1_lay 88 = .ok (.iload 7, 2) := by decide +kernel
theorem dX1_lay_90 : decode cX1_lay 90 = .ok (.iaload, 1) := by decide +kernel
theorem dX1_lay_91 : decode cX1_lay 91 = .ok (.aload_n 0, 1) := by decide +kernel
theorem dX1_lay_92 : decode cX1_lay 92 = .ok (.getfield 30, 3) := by decide +kernel
theorem dX1_lay_95 : decode cX1_lay 95 = .ok (.iload 6, 2) := by decide +kernel
theorem dX1_lay_97 : decode cX1_lay 97 = .ok (.iaload, 1) := by decide +kernel
theorem dX1_lay_98 : decode cX1_lay 98 = .ok (.isub, 1) := by decide +kernel
theorem dX1_lay_99 : decode cX1_lay 99 = .ok (.imul, 1) := by decide +kernel
theorem dX1_lay_100 : decode cX1_lay 100 = .ok (.if_icmp .le 7, 3) := by decide +kernel
theorem dX1_lay_103 : decode cX1_lay 103 = .ok (.iconst 1, 1) := by decide +kernel
theorem dX1_lay_104 : decode cX1_lay 104 = .ok (.goto 4, 3) := by decide +kernel
theorem dX1_lay_107 : decode cX1_lay 107 = .ok (.iconst 0, 1) := by decide +kernel
theorem dX1_lay_108 : decode cX1_lay 108 = .ok (.istore 8, 2) := by decide +kernel
theorem dX1_lay_110 : decode cX1_lay 110 = .ok (.iload 8, 2) := by decide +kernel
theorem dX1_lay_112 : decode cX1_lay 112 = .ok (.ifCond .eq 8, 3) := by decide +kernel
theorem dX1_lay_115 : decode cX1_lay 115 = .ok (.iload 7, 2) := by decide +kernel
theorem dX1_lay_117 : decode cX1_lay 117 = .ok (.goto 5, 3) := by decide +kernel
theorem dX1_lay_120 : decode cX1_lay 120 = .ok (.iload 6, 2) := by decide +kernel
theorem dX1_lay_122 : decode cX1_lay 122 = .ok (.istore 6, 2) := by decide +kernel
theorem dX1_lay_124 : decode cX1_lay 124 = .ok (.iinc 7 1, 3) := by decide +kernel
theorem dX1_lay_127 : decode cX1_lay 127 = .ok (.goto (-92), 3) := by decide +kernel
theorem dX1_lay_130 : decode cX1_lay 130 = .ok (.iload 7, 2) := by decide +kernel
theorem dX1_lay_132 : decode cX1_lay 132 = .ok (.iload 4, 2) := by decide +kernel
theorem dX1_lay_134 : decode cX1_lay 134 = .ok (.isub, 1) := by decide +kernel
theorem dX1_lay_135 : decode cX1_lay 135 = .ok (.iconst 1, 1) := by decide +kernel
theorem dX1_lay_136 : decode cX1_lay 136 = .ok (.if_icmp .le 104, 3) := by decide +kernel
theorem dX1_lay_139 : decode cX1_lay 139 = .ok (.aload_n 0, 1) := by decide +kernel
theorem dX1_lay_140 : decode cX1_lay 140 = .ok (.getfield 27, 3) := by decide +kernel
theorem dX1_lay_143 : decode cX1_lay 143 = .ok (.iload 4, 2) := by decide +kernel
theorem dX1_lay_145 : decode cX1_lay 145 = .ok (.aload_n 0, 1) := by decide +kernel
theorem dX1_lay_146 : decode cX1_lay 146 = .ok (.getfield 27, 3) := by decide +kernel
theorem dX1_lay_149 : decode cX1_lay 149 = .ok (.iload 6, 2) := by decide +kernel
theorem dX1_lay_151 : decode cX1_lay 151 = .ok (.iaload, 1) := by decide +kernel
theorem dX1_lay_152 : decode cX1_lay 152 = .ok (.iastore, 1) := by decide +kernel
theorem dX1_lay_153 : decode cX1_lay 153 = .ok (.aload_n 0, 1) := by decide +kernel
theorem dX1_lay_154 : decode cX1_lay 154 = .ok (.getfield 30, 3) := by decide +kernel
theorem dX1_lay_157 : decode cX1_lay 157 = .ok (.iload 4, 2) := by decide +kernel
theorem dX1_lay_159 : decode cX1_lay 159 = .ok (.aload_n 0, 1) := by decide +kernel
theorem dX1_lay_160 : decode cX1_lay 160 = .ok (.getfield 30, 3) := by decide +kernel
theorem dX1_lay_163 : decode cX1_lay 163 = .ok (.iload 6, 2) := by decide +kernel
theorem dX1_lay_165 : decode cX1_lay 165 = .ok (.iaload, 1) := by decide +kernel
theorem dX1_lay_166 : decode cX1_lay 166 = .ok (.iastore, 1) := by decide +kernel
theorem dX1_lay_167 : decode cX1_lay 167 = .ok (.iload 7, 2) := by decide +kernel
theorem dX1_lay_169 : decode cX1_lay 169 = .ok (.istore 8, 2) := by decide +kernel
theorem dX1_lay_171 : decode cX1_lay 171 = .ok (.iload 8, 2) := by decide +kernel
theorem dX1_lay_173 : decode cX1_lay 173 = .ok (.iload 5, 2) := by decide +kernel
theorem dX1_lay_175 : decode cX1_lay 175 = .ok (.if_icmp .ge 53, 3) := by decide +kernel
theorem dX1_lay_178 : decode cX1_lay 178 = .ok (.aload_n 0, 1) := by decide +kernel
theorem dX1_lay_179 : decode cX1_lay 179 = .ok (.getfield 27, 3) := by decide +kernel
theorem dX1_lay_182 : decode cX1_lay 182 = .ok (.iload 4, 2) := by decide +kernel
theorem dX1_lay_184 : decode cX1_lay 184 = .ok (.iconst 1, 1) := by decide +kernel
theorem dX1_lay_185 : decode cX1_lay 185 = .ok (.iadd, 1) := by decide +kernel
theorem dX1_lay_186 : decode cX1_lay 186 = .ok (.iload 8, 2) := by decide +kernel
theorem dX1_lay_188 : decode cX1_lay 188 = .ok (.iadd, 1) := by decide +kernel
theorem dX1_lay_189 : decode cX1_lay 189 = .ok (.iload 7, 2) := by decide +kernel
theorem dX1_lay_191 : decode cX1_lay 191 = .ok (.isub, 1) := by decide +kernel
theorem dX1_lay_192 : decode cX1_lay 192 = .ok (.aload_n 0, 1) := by decide +kernel
theorem dX1_lay_193 : decode cX1_lay 193 = .ok (.getfield 27, 3) := by decide +kernel
theorem dX1_lay_196 : decode cX1_lay 196 = .ok (.iload 8, 2) := by decide +kernel
theorem dX1_lay_198 : decode cX1_lay 198 = .ok (.iaload, 1) := by decide +kernel
theorem dX1_lay_199 : decode cX1_lay 199 = .ok (.iastore, 1) := by decide +kernel
theorem dX1_lay_200 : decode cX1_lay 200 = .ok (.aload_n 0, 1) := by decide +kernel
theorem dX1_lay_201 : decode cX1_lay 201 = .ok (.getfield 30, 3) := by decide +kernel
theorem dX1_lay_204 : decode cX1_lay 204 = .ok (.iload 4, 2) := by decide +kernel
theorem dX1_lay_206 : decode cX1_lay 206 = .ok (.iconst 1, 1) := by decide +kernel
theorem dX1_lay_207 : decode cX1_lay 207 = .ok (.iadd, 1) := by decide +kernel
theorem dX1_lay_208 : decode cX1_lay 208 = .ok (.iload 8, 2) := by decide +kernel
theorem dX1_lay_210 : decode cX1_lay 210 = .ok (.iadd, 1) := by decide +kernel
theorem dX1_lay_211 : decode cX1_lay 211 = .ok (.iload 7, 2) := by decide +kernel
theorem dX1_lay_213 : decode cX1_lay 213 = .ok (.isub, 1) := by decide +kernel
theorem dX1_lay_214 : decode cX1_lay 214 = .ok (.aload_n 0, 1) := by decide +kernel
theorem dX1_lay_215 : decode cX1_lay 215 = .ok (.getfield 30, 3) := by decide +kernel
theorem dX1_lay_218 : decode cX1_lay 218 = .ok (.iload 8, 2) := by decide +kernel
theorem dX1_lay_220 : decode cX1_lay 220 = .ok (.iaload, 1) := by decide +kernel
theorem dX1_lay_221 : decode cX1_lay 221 = .ok (.iastore, 1) := by decide +kernel
theorem dX1_lay_222 : decode cX1_lay 222 = .ok (.iinc 8 1, 3) := by decide +kernel
theorem dX1_lay_225 : decode cX1_lay 225 = .ok (.goto (-54), 3) := by decide +kernel
theorem dX1_lay_228 : decode cX1_lay 228 = .ok (.iload 5, 2) := by decide +kernel
theorem dX1_lay_230 : decode cX1_lay 230 = .ok (.iload 7, 2) := by decide +kernel
theorem dX1_lay_232 : decode cX1_lay 232 = .ok (.iload 4, 2) := by decide +kernel
theorem dX1_lay_234 : decode cX1_lay 234 = .ok (.isub, 1) := by decide +kernel
theorem dX1_lay_235 : decode cX1_lay 235 = .ok (.iconst 1, 1) := by decide +kernel
theorem dX1_lay_236 : decode cX1_lay 236 = .ok (.isub, 1) := by decide +kernel
theorem dX1_lay_237 : decode cX1_lay 237 = .ok (.isub, 1) := by decide +kernel
theorem dX1_lay_238 : decode cX1_lay 238 = .ok (.istore 5, 2) := by decide +kernel
theorem dX1_lay_240 : decode cX1_lay 240 = .ok (.iload 5, 2) := by decide +kernel
theorem dX1_lay_242 : decode cX1_lay 242 = .ok (.iload 4, 2) := by decide +kernel
theorem dX1_lay_244 : decode cX1_lay 244 = .ok (.if_icmp .le 54, 3) := by decide +kernel
theorem dX1_lay_247 : decode cX1_lay 247 = .ok (.aload_n 0, 1) := by decide +kernel
theorem dX1_lay_248 : decode cX1_lay 248 = .ok (.getfield 30, 3) := by decide +kernel
theorem dX1_lay_251 : decode cX1_lay 251 = .ok (.iload 5, 2) := by decide +kernel
theorem dX1_lay_253 : decode cX1_lay 253 = .ok (.iconst 1, 1) := by decide +kernel
theorem dX1_lay_254 : decode cX1_lay 254 = .ok (.isub, 1) := by decide +kernel
theorem dX1_lay_255 : decode cX1_lay 255 = .ok (.iaload, 1) := by decide +kernel
theorem dX1_lay_256 : decode cX1_lay 256 = .ok (.iload_n 3, 1) := by decide +kernel
theorem dX1_lay_257 : decode cX1_lay 257 = .ok (.if_icmp .ne 41, 3) := by decide +kernel
theorem dX1_lay_260 : decode cX1_lay 260 = .ok (.aload_n 0, 1) := by decide +kernel
theorem dX1_lay_261 : decode cX1_lay 261 = .ok (.getfield 27, 3) := by decide +kernel
theorem dX1_lay_264 : decode cX1_lay 264 = .ok (.iload 5, 2) := by decide +kernel
theorem dX1_lay_266 : decode cX1_lay 266 = .ok (.iconst 1, 1) := by decide +kernel
theorem dX1_lay_267 : decode cX1_lay 267 = .ok (.isub, 1) := by decide +kernel
theorem dX1_lay_268 : decode cX1_lay 268 = .ok (.iload_n 2, 1) := by decide +kernel
theorem dX1_lay_269 : decode cX1_lay 269 = .ok (.aload_n 0, 1) := by decide +kernel
theorem dX1_lay_270 : decode cX1_lay 270 = .ok (.getfield 27, 3) := by decide +kernel
theorem dX1_lay_273 : decode cX1_lay 273 = .ok (.iload 5, 2) := by decide +kernel
theorem dX1_lay_275 : decode cX1_lay 275 = .ok (.iconst 1, 1) := by decide +kernel
theorem dX1_lay_276 : decode cX1_lay 276 = .ok (.isub, 1) := by decide +kernel
theorem dX1_lay_277 : decode cX1_lay 277 = .ok (.iaload, 1) := by decide +kernel
theorem dX1_lay_278 : decode cX1_lay 278 = .ok (.if_icmp .le 7, 3) := by decide +kernel
theorem dX1_lay_281 : decode cX1_lay 281 = .ok (.iload_n 2, 1) := by decide +kernel
theorem dX1_lay_282 : decode cX1_lay 282 = .ok (.goto 12, 3) := by decide +kernel
theorem dX1_lay_285 : decode cX1_lay 285 = .ok (.aload_n 0, 1) := by decide +kernel
theorem dX1_lay_286 : decode cX1_lay 286 = .ok (.getfield 27, 3) := by decide +kernel
theorem dX1_lay_289 : decode cX1_lay 289 = .ok (.iload 5, 2) := by decide +kernel
theorem dX1_lay_291 : decode cX1_lay 291 = .ok (.iconst 1, 1) := by decide +kernel
theorem dX1_lay_292 : decode cX1_lay 292 = .ok (.isub, 1) := by decide +kernel
theorem dX1_lay_293 : decode cX1_lay 293 = .ok (.iaload, 1) := by decide +kernel
theorem dX1_lay_294 : decode cX1_lay 294 = .ok (.iastore, 1) := by decide +kernel
theorem dX1_lay_295 : decode cX1_lay 295 = .ok (.goto 32, 3) := by decide +kernel
theorem dX1_lay_298 : decode cX1_lay 298 = .ok (.iload 5, 2) := by decide +kernel
theorem dX1_lay_300 : decode cX1_lay 300 = .ok (.iload 4, 2) := by decide +kernel
theorem dX1_lay_302 : decode cX1_lay 302 = .ok (.isub, 1) := by decide +kernel
theorem dX1_lay_303 : decode cX1_lay 303 = .ok (.bipush 32, 2) := by decide +kernel
theorem dX1_lay_305 : decode cX1_lay 305 = .ok (.if_icmp .ge 22, 3) := by decide +kernel
theorem dX1_lay_308 : decode cX1_lay 308 = .ok (.aload_n 0, 1) := by decide +kernel
theorem dX1_lay_309 : decode cX1_lay 309 = .ok (.getfield 27, 3) := by decide +kernel
theorem dX1_lay_312 : decode cX1_lay 312 = .ok (.iload 5, 2) := by decide +kernel
theorem dX1_lay_314 : decode cX1_lay 314 = .ok (.iload_n 2, 1) := by decide +kernel
theorem dX1_lay_315 : decode cX1_lay 315 = .ok (.iastore, 1) := by decide +kernel
theorem dX1_lay_316 : decode cX1_lay 316 = .ok (.aload_n 0, 1) := by decide +kernel
theorem dX1_lay_317 : decode cX1_lay 317 = .ok (.getfield 30, 3) := by decide +kernel
theorem dX1_lay_320 : decode cX1_lay 320 = .ok (.iload 5, 2) := by decide +kernel
theorem dX1_lay_322 : decode cX1_lay 322 = .ok (.iload_n 3, 1) := by decide +kernel
theorem dX1_lay_323 : decode cX1_lay 323 = .ok (.iastore, 1) := by decide +kernel
theorem dX1_lay_324 : decode cX1_lay 324 = .ok (.iinc 5 1, 3) := by decide +kernel
theorem dX1_lay_327 : decode cX1_lay 327 = .ok (.aload_n 0, 1) := by decide +kernel
theorem dX1_lay_328 : decode cX1_lay 328 = .ok (.getfield 24, 3) := by decide +kernel
theorem dX1_lay_331 : decode cX1_lay 331 = .ok (.iload_n 1, 1) := by decide +kernel
theorem dX1_lay_332 : decode cX1_lay 332 = .ok (.iload 5, 2) := by decide +kernel
theorem dX1_lay_334 : decode cX1_lay 334 = .ok (.iload 4, 2) := by decide +kernel
theorem dX1_lay_336 : decode cX1_lay 336 = .ok (.isub, 1) := by decide +kernel
theorem dX1_lay_337 : decode cX1_lay 337 = .ok (.iastore, 1) := by decide +kernel
theorem dX1_lay_338 : decode cX1_lay 338 = .ok (.return_, 1) := by decide +kernel
theorem dX1_reached_0 : decode cX1_reached 0 = .ok (.aload_n 0, 1) := by decide +kernel
theorem dX1_reached_1 : decode cX1_reached 1 = .ok (.getfield 18, 3) := by decide +kernel
theorem dX1_reached_4 : decode cX1_reached 4 = .ok (.iload_n 1, 1) := by decide +kernel
theorem dX1_reached_5 : decode cX1_reached 5 = .ok (.iaload, 1) := by decide +kernel
theorem dX1_reached_6 : decode cX1_reached 6 = .ok (.istore 4, 2) := by decide +kernel
theorem dX1_reached_8 : decode cX1_reached 8 = .ok (.iload_n 3, 1) := by decide +kernel
theorem dX1_reached_9 : decode cX1_reached 9 = .ok (.aload_n 0, 1) := by decide +kernel
theorem dX1_reached_10 : decode cX1_reached 10 = .ok (.getfield 15, 3) := by decide +kernel
theorem dX1_reached_13 : decode cX1_reached 13 = .ok (.iload_n 1, 1) := by decide +kernel
theorem dX1_reached_14 : decode cX1_reached 14 = .ok (.iaload, 1) := by decide +kernel
theorem dX1_reached_15 : decode cX1_reached 15 = .ok (.imul, 1) := by decide +kernel
theorem dX1_reached_16 : decode cX1_reached 16 = .ok (.istore 5, 2) := by decide +kernel
theorem dX1_reached_18 : decode cX1_reached 18 = .ok (.iconst 0, 1) := by decide +kernel
theorem dX1_reached_19 : decode cX1_reached 19 = .ok (.istore 6, 2) := by decide +kernel
theorem dX1_reached_21 : decode cX1_reached 21 = .ok (.iload_n 1, 1) := by decide +kernel
theorem dX1_reached_22 : decode cX1_reached 22 = .ok (.bipush 32, 2) := by decide +kernel
theorem dX1_reached_24 : decode cX1_reached 24 = .ok (.imul, 1) := by decide +kernel
theorem dX1_reached_25 : decode cX1_reached 25 = .ok (.istore 7, 2) := by decide +kernel
theorem dX1_reached_27 : decode cX1_reached 27 = .ok (.iload 7, 2) := by decide +kernel
theorem dX1_reached_29 : decode cX1_reached 29 = .ok (.istore 8, 2) := by decide +kernel
theorem dX1_reached_31 : decode cX1_reached 31 = .ok (.iload 8, 2) := by decide +kernel
theorem dX1_reached_33 : decode cX1_reached 33 = .ok (.iload 7, 2) := by decide +kernel
theorem dX1_reached_35 : decode cX1_reached 35 = .ok (.aload_n 0, 1) := by decide +kernel
theorem dX1_reached_36 : decode cX1_reached 36 = .ok (.getfield 24, 3) := by decide +kernel
theorem dX1_reached_39 : decode cX1_reached 39 = .ok (.iload_n 1, 1) := by decide +kernel
theorem dX1_reached_40 : decode cX1_reached 40 = .ok (.iaload, 1) := by decide +kernel
theorem dX1_reached_41 : decode cX1_reached 41 = .ok (.iadd, 1) := by decide +kernel
theorem dX1_reached_42 : decode cX1_reached 42 = .ok (.if_icmp .ge 110, 3) := by decide +kernel
theorem dX1_reached_45 : decode cX1_reached 45 = .ok (.bipush 100, 2) := by decide +kernel
theorem dX1_reached_47 : decode cX1_reached 47 = .ok (.iload_n 2, 1) := by decide +kernel
theorem dX1_reached_48 : decode cX1_reached 48 = .ok (.aload_n 0, 1) := by decide +kernel
theorem dX1_reached_49 : decode cX1_reached 49 = .ok (.getfield 30, 3) := by decide +kernel
theorem dX1_reached_52 : decode cX1_reached 52 = .ok (.iload 8, 2) := by decide +kernel
theorem dX1_reached_54 : decode cX1_reached 54 = .ok (.iaload, 1) := by decide +kernel
theorem dX1_reached_55 : decode cX1_reached 55 = .ok (.isub, 1) := by decide +kernel
theorem dX1_reached_56 : decode cX1_reached 56 = .ok (.imul, 1) := by decide +kernel
theorem dX1_reached_57 : decode cX1_reached 57 = .ok (.istore 9, 2) := by decide +kernel
theorem dX1_reached_59 : decode cX1_reached 59 = .ok (.aload_n 0, 1) := by decide +kernel
theorem dX1_reached_60 : decode cX1_reached 60 = .ok (.getfield 27, 3) := by decide +kernel
theorem dX1_reached_63 : decode cX1_reached 63 = .ok (.iload 8, 2) := by decide +kernel
theorem dX1_reached_65 : decode cX1_reached 65 = .ok (.iaload, 1) := by decide +kernel
theorem dX1_reached_66 : decode cX1_reached 66 = .ok (.istore 10, 2) := by decide +kernel
theorem dX1_reached_68 : decode cX1_reached 68 = .ok (.iload 9, 2) := by decide +kernel
theorem dX1_reached_70 : decode cX1_reached 70 = .ok (.iload 5, 2) := by decide +kernel
theorem dX1_reached_72 : decode cX1_reached 72 = .ok (.if_icmp .le 36, 3) := by decide +kernel
theorem dX1_reached_75 : decode cX1_reached 75 = .ok (.iload 4, 2) := by decide +kernel
theorem dX1_reached_77 : decode cX1_reached 77 = .ok (.ifCond .le 31, 3) := by decide +kernel
theorem dX1_reached_80 : decode cX1_reached 80 = .ok (.iload 10, 2) := by decide +kernel
theorem dX1_reached_82 : decode cX1_reached 82 = .ok (.aload_n 0, 1) := by decide +kernel
theorem dX1_reached_83 : decode cX1_reached 83 = .ok (.getfield 15, 3) := by decide +kernel
theorem dX1_reached_86 : decode cX1_reached 86 = .ok (.iload_n 1, 1) := by decide +kernel
theorem dX1_reached_87 : decode cX1_reached 87 = .ok (.iaload, 1) := by decide +kernel
theorem dX1_reached_88 : decode cX1_reached 88 = .ok (.iload 9, 2) := by decide +kernel
theorem dX1_reached_90 : decode cX1_reached 90 = .ok (.iload 5, 2) := by decide +kernel
theorem dX1_reached_92 : decode cX1_reached 92 = .ok (.isub, 1) := by decide +kernel
theorem dX1_reached_93 : decode cX1_reached 93 = .ok (.iload 4, 2) := by decide +kernel
theorem dX1_reached_95 : decode cX1_reached 95 = .ok (.iadd, 1) := by decide +kernel
theorem dX1_reached_96 : decode cX1_reached 96 = .ok (.iconst 1, 1) := by decide +kernel
theorem dX1_reached_97 : decode cX1_reached 97 = .ok (.isub, 1) := by decide +kernel
theorem dX1_reached_98 : decode cX1_reached 98 = .ok (.iload 4, 2) := by decide +kernel
theorem dX1_reached_100 : decode cX1_reached 100 = .ok (.idiv, 1) := by decide +kernel
theorem dX1_reached_101 : decode cX1_reached 101 = .ok (.iadd, 1) := by decide +kernel
theorem dX1_reached_102 : decode cX1_reached 102 = .ok (.iadd, 1) := by decide +kernel
theorem dX1_reached_103 : decode cX1_reached 103 = .ok (.istore 10, 2) := by decide +kernel
theorem dX1_reached_105 : decode cX1_reached 105 = .ok (.goto 25, 3) := by decide +kernel
theorem dX1_reached_108 : decode cX1_reached 108 = .ok (.iload 9, 2) := by decide +kernel
theorem dX1_reached_110 : decode cX1_reached 110 = .ok (.ifCond .le 20, 3) := by decide +kernel
theorem dX1_reached_113 : decode cX1_reached 113 = .ok (.iload_n 3, 1) := by decide +kernel
theorem dX1_reached_114 : decode cX1_reached 114 = .ok (.ifCond .le 16, 3) := by decide +kernel
theorem dX1_reached_117 : decode cX1_reached 117 = .ok (.iload 10, 2) := by decide +kernel
theorem dX1_reached_119 : decode cX1_reached 119 = .ok (.iload 9, 2) := by decide +kernel
theorem dX1_reached_121 : decode cX1_reached 121 = .ok (.iload_n 3, 1) := by decide +kernel
theorem dX1_reached_122 : decode cX1_reached 122 = .ok (.iadd, 1) := by decide +kernel
theorem dX1_reached_123 : decode cX1_reached 123 = .ok (.iconst 1, 1) := by decide +kernel
theorem dX1_reached_124 : decode cX1_reached 124 = .ok (.isub, 1) := by decide +kernel
theorem dX1_reached_125 : decode cX1_reached 125 = .ok (.iload_n 3, 1) := by decide +kernel
theorem dX1_reached_126 : decode cX1_reached 126 = .ok (.idiv, 1) := by decide +kernel
theorem dX1_reached_127 : decode cX1_reached 127 = .ok (.iadd, 1) := by decide +kernel
theorem dX1_reached_128 : decode cX1_reached 128 = .ok (.istore 10, 2) := by decide +kernel
theorem dX1_reached_130 : decode cX1_reached 130 = .ok (.iload 10, 2) := by decide +kernel
theorem dX1_reached_132 : decode cX1_reached 132 = .ok (.iload 6, 2) := by decide +kernel
theorem dX1_reached_134 : decode cX1_reached 134 = .ok (.if_icmp .le 8, 3) := by decide +kernel
theorem dX1_reached_137 : decode cX1_reached 137 = .ok (.iload 10, 2) := by decide +kernel
theorem dX1_reached_139 : decode cX1_reached 139 = .ok (.goto 5, 3) := by decide +kernel
theorem dX1_reached_142 : decode cX1_reached 142 = .ok (.iload 6, 2) := by decide +kernel
theorem dX1_reached_144 : decode cX1_reached 144 = .ok (.istore 6, 2) := by decide +kernel
theorem dX1_reached_146 : decode cX1_reached 146 = .ok (.iinc 8 1, 3) := by decide +kernel
theorem dX1_reached_149 : decode cX1_reached 149 = .ok (.goto (-118), 3) := by decide +kernel
theorem dX1_reached_152 : decode cX1_reached 152 = .ok (.iload 6, 2) := by decide +kernel
theorem dX1_reached_154 : decode cX1_reached 154 = .ok (.ireturn, 1) := by decide +kernel
theorem dX2_init_0 : decode cX2_init 0 = .ok (.aload_n 0, 1) := by decide +kernel
theorem dX2_init_1 : decode cX2_init 1 = .ok (.invokespecial 3, 3) := by decide +kernel
theorem dX2_init_4 : decode cX2_init 4 = .ok (.aload_n 0, 1) := by decide +kernel
theorem dX2_init_5 : decode cX2_init 5 = .ok (.sipush 220, 3) := by decide +kernel
theorem dX2_init_8 : decode cX2_init 8 = .ok (.newarray .int, 2) := by decide +kernel
theorem dX2_init_10 : decode cX2_init 10 = .ok (.putfield 11, 3) := by decide +kernel
theorem dX2_init_13 : decode cX2_init 13 = .ok (.aload_n 0, 1) := by decide +kernel
theorem dX2_init_14 : decode cX2_init 14 = .ok (.aload_n 1, 1) := by decide +kernel
theorem dX2_init_15 : decode cX2_init 15 = .ok (.putfield 15, 3) := by decide +kernel
theorem dX2_init_18 : decode cX2_init 18 = .ok (.aload_n 0, 1) := by decide +kernel
theorem dX2_init_19 : decode cX2_init 19 = .ok (.aload_n 2, 1) := by decide +kernel
theorem dX2_init_20 : decode cX2_init 20 = .ok (.putfield 19, 3) := by decide +kernel
theorem dX2_init_23 : decode cX2_init 23 = .ok (.aload_n 0, 1) := by decide +kernel
theorem dX2_init_24 : decode cX2_init 24 = .ok (.aload_n 3, 1) := by decide +kernel
theorem dX2_init_25 : decode cX2_init 25 = .ok (.putfield 23, 3) := by decide +kernel
theorem dX2_init_28 : decode cX2_init 28 = .ok (.return_, 1) := by decide +kernel
theorem dX2_chosenAt_0 : decode cX2_chosenAt 0 = .ok (.aload_n 0, 1) := by decide +kernel
theorem dX2_chosenAt_1 : decode cX2_chosenAt 1 = .ok (.getfield 23, 3) := by decide +kernel
theorem dX2_chosenAt_4 : decode cX2_chosenAt 4 = .ok (.aload_n 0, 1) := by decide +kernel
theorem dX2_chosenAt_5 : decode cX2_chosenAt 5 = .ok (.getfield 19, 3) := by decide +kernel
theorem dX2_chosenAt_8 : decode cX2_chosenAt 8 = .ok (.invokevirtual 26, 3) := by decide +kernel
theorem dX2_chosenAt_11 : decode cX2_chosenAt 11 = .ok (.aload_n 0, 1) := by decide +kernel
theorem dX2_chosenAt_12 : decode cX2_chosenAt 12 = .ok (.getfield 19, 3) := by decide +kernel
theorem dX2_chosenAt_15 : decode cX2_chosenAt 15 = .ok (.getfield 56, 3) := by decide +kernel
theorem dX2_chosenAt_18 : decode cX2_chosenAt 18 = .ok (.sipush 400, 3) := by decide +kernel
theorem dX2_chosenAt_21 : decode cX2_chosenAt 21 = .ok (.iadd, 1) := by decide +kernel
theorem dX2_chosenAt_22 : decode cX2_chosenAt 22 = .ok (.istore_n 3, 1) := by decide +kernel
theorem dX2_chosenAt_23 : decode cX2_chosenAt 23 = .ok (.iconst 0, 1) := by decide +kernel
theorem dX2_chosenAt_24 : decode cX2_chosenAt 24 = .ok (.istore 4, 2) := by decide +kernel
theorem dX2_chosenAt_26 : decode cX2_chosenAt 26 = .ok (.iload 4, 2) := by decide +kernel
theorem dX2_chosenAt_28 : decode cX2_chosenAt 28 = .ok (.sipush 400, 3) := by decide +kernel
theorem dX2_chosenAt_31 : decode cX2_chosenAt 31 = .ok (.if_icmp .ge 120, 3) := by decide +kernel
theorem dX2_chosenAt_34 : decode cX2_chosenAt 34 = .ok (.aload_n 0, 1) := by decide +kernel
theorem dX2_chosenAt_35 : decode cX2_chosenAt 35 = .ok (.getfield 23, 3) := by decide +kernel
theorem dX2_chosenAt_38 : decode cX2_chosenAt 38 = .ok (.getfield 56, 3) := by decide +kernel
theorem dX2_chosenAt_41 : decode cX2_chosenAt 41 = .ok (.iload_n 3, 1) := by decide +kernel
theorem dX2_chosenAt_42 : decode cX2_chosenAt 42 = .ok (.if_icmp .ge 109, 3) := by decide +kernel
theorem dX2_chosenAt_45 : decode cX2_chosenAt 45 = .ok (.aload_n 0, 1) := by decide +kernel
theorem dX2_chosenAt_46 : decode cX2_chosenAt 46 = .ok (.getfield 23, 3) := by decide +kernel
theorem dX2_chosenAt_49 : decode cX2_chosenAt 49 = .ok (.getfield 60, 3) := by decide +kernel
theorem dX2_chosenAt_52 : decode cX2_chosenAt 52 = .ok (.istore 5, 2) := by decide +kernel
theorem dX2_chosenAt_54 : decode cX2_chosenAt 54 = .ok (.aload_n 0, 1) := by decide +kernel
theorem dX2_chosenAt_55 : decode cX2_chosenAt 55 = .ok (.getfield 23, 3) := by decide +kernel
theorem dX2_chosenAt_58 : decode cX2_chosenAt 58 = .ok (.iload_n 3, 1) := by decide +kernel
theorem dX2_chosenAt_59 : decode cX2_chosenAt 59 = .ok (.aload_n 0, 1) := by decide +kernel
theorem dX2_chosenAt_60 : decode cX2_chosenAt 60 = .ok (.getfield 23, 3) := by decide +kernel
theorem dX2_chosenAt_63 : decode cX2_chosenAt 63 = .ok (.getfield 56, 3) := by decide +kernel
theorem dX2_chosenAt_66 : decode cX2_chosenAt 66 = .ok (.isub, 1) := by decide +kernel
theorem dX2_chosenAt_67 : decode cX2_chosenAt 67 = .ok (.invokevirtual 63, 3) := by decide +kernel
theorem dX2_chosenAt_70 : decode cX2_chosenAt 70 = .ok (.aload_n 0, 1) := by decide +kernel
theorem dX2_chosenAt_71 : decode cX2_chosenAt 71 = .ok (.getfield 23, 3) := by decide +kernel
theorem dX2_chosenAt_74 : decode cX2_chosenAt 74 = .ok (.getfield 66, 3) := by decide +kernel
theorem dX2_chosenAt_77 : decode cX2_chosenAt 77 = .ok (.aload_n 0, 1) := by decide +kernel
theorem dX2_chosenAt_78 : decode cX2_chosenAt 78 = .ok (.getfield 19, 3) := by decide +kernel
theorem dX2_chosenAt_81 : decode cX2_chosenAt 81 = .ok (.getfield 66, 3) := by decide +kernel
theorem dX2_chosenAt_84 : decode cX2_chosenAt 84 = .ok (.isub, 1) := by decide +kernel
theorem dX2_chosenAt_85 : decode cX2_chosenAt 85 = .ok (.iload_n 1, 1) := by decide +kernel
theorem dX2_chosenAt_86 : decode cX2_chosenAt 86 = .ok (.if_icmp .ne 59, 3) := by decide +kernel
theorem dX2_chosenAt_89 : decode cX2_chosenAt 89 = .ok (.iload_n 2, 1) := by decide +kernel
theorem dX2_chosenAt_90 : decode cX2_chosenAt 90 = .ok (.lookupswitch 44 #[(0, 26), (1, 34)], 26) := by decide +kernel
theorem dX2_chosenAt_116 : decode cX2_chosenAt 116 = .ok (.aload_n 0, 1) := by decide +kernel
theorem dX2_chosenAt_117 : decode cX2_chosenAt 117 = .ok (.getfield 23, 3) := by decide +kernel
theorem dX2_chosenAt_120 : decode cX2_chosenAt 120 = .ok (.getfield 69, 3) := by decide +kernel
theorem dX2_chosenAt_123 : decode cX2_chosenAt 123 = .ok (.ireturn, 1) := by decide +kernel
theorem dX2_chosenAt_124 : decode cX2_chosenAt 124 = .ok (.aload_n 0, 1) := by decide +kernel
theorem dX2_chosenAt_125 : decode cX2_chosenAt 125 = .ok (.getfield 23, 3) := by decide +kernel
theorem dX2_chosenAt_128 : decode cX2_chosenAt 128 = .ok (.getfield 56, 3) := by decide +kernel
theorem dX2_chosenAt_131 : decode cX2_chosenAt 131 = .ok (.iconst 1, 1) := by decide +kernel
theorem dX2_chosenAt_132 : decode cX2_chosenAt 132 = .ok (.isub, 1) := by decide +kernel
theorem dX2_chosenAt_133 : decode cX2_chosenAt 133 = .ok (.ireturn, 1) := by decide +kernel
theorem dX2_chosenAt_134 : decode cX2_chosenAt 134 = .ok (.aload_n 0, 1) := by decide +kernel
theorem dX2_chosenAt_135 : decode cX2_chosenAt 135 = .ok (.getfield 23, 3) := by decide +kernel
theorem dX2_chosenAt_138 : decode cX2_chosenAt 138 = .ok (.getfield 60, 3) := by decide +kernel
theorem dX2_chosenAt_141 : decode cX2_chosenAt 141 = .ok (.iload 5, 2) := by decide +kernel
theorem dX2_chosenAt_143 : decode cX2_chosenAt 143 = .ok (.isub, 1) := by decide +kernel
theorem dX2_chosenAt_144 : decode cX2_chosenAt 144 = .ok (.ireturn, 1) := by decide +kernel
theorem dX2_chosenAt_145 : decode cX2_chosenAt 145 = .ok (.iinc 4 1, 3) := by decide +kernel
theorem dX2_chosenAt_148 : decode cX2_chosenAt 148 = .ok (.goto (-122), 3) := by decide +kernel
theorem dX2_chosenAt_151 : decode cX2_chosenAt 151 = .ok (.iconst (-1), 1) := by decide +kernel
theorem dX2_chosenAt_152 : decode cX2_chosenAt 152 = .ok (.ireturn, 1) := by decide +kernel
theorem dX3_init_0 : decode cX3_init 0 = .ok (.aload_n 0, 1) := by decide +kernel
theorem dX3_init_1 : decode cX3_init 1 = .ok (.invokespecial 3, 3) := by decide +kernel
theorem dX3_init_4 : decode cX3_init 4 = .ok (.aload_n 0, 1) := by decide +kernel
theorem dX3_init_5 : decode cX3_init 5 = .ok (.iconst (-1), 1) := by decide +kernel
theorem dX3_init_6 : decode cX3_init 6 = .ok (.putfield 9, 3) := by decide +kernel
theorem dX3_init_9 : decode cX3_init 9 = .ok (.aload_n 0, 1) := by decide +kernel
theorem dX3_init_10 : decode cX3_init 10 = .ok (.iconst 0, 1) := by decide +kernel
theorem dX3_init_11 : decode cX3_init 11 = .ok (.putfield 15, 3) := by decide +kernel
theorem dX3_init_14 : decode cX3_init 14 = .ok (.aload_n 0, 1) := by decide +kernel
theorem dX3_init_15 : decode cX3_init 15 = .ok (.aload_n 1, 1) := by decide +kernel
theorem dX3_init_16 : decode cX3_init 16 = .ok (.putfield 18, 3) := by decide +kernel
theorem dX3_init_19 : decode cX3_init 19 = .ok (.aload_n 0, 1) := by decide +kernel
theorem dX3_init_20 : decode cX3_init 20 = .ok (.aload_n 2, 1) := by decide +kernel
theorem dX3_init_21 : decode cX3_init 21 = .ok (.putfield 22, 3) := by decide +kernel
theorem dX3_init_24 : decode cX3_init 24 = .ok (.return_, 1) := by decide +kernel
theorem dX4_init_0 : decode cX4_init 0 = .ok (.aload_n 0, 1) := by decide +kernel
theorem dX4_init_1 : decode cX4_init 1 = .ok (.invokespecial 3, 3) := by decide +kernel
theorem dX4_init_4 : decode cX4_init 4 = .ok (.aload_n 0, 1) := by decide +kernel
theorem dX4_init_5 : decode cX4_init 5 = .ok (.iconst 0, 1) := by decide +kernel
theorem dX4_init_6 : decode cX4_init 6 = .ok (.putfield 9, 3) := by decide +kernel
theorem dX4_init_9 : decode cX4_init 9 = .ok (.aload_n 0, 1) := by decide +kernel
theorem dX4_init_10 : decode cX4_init 10 = .ok (.iconst (-1), 1) := by decide +kernel
theorem dX4_init_11 : decode cX4_init 11 = .ok (.putfield 15, 3) := by decide +kernel
theorem dX4_init_14 : decode cX4_init 14 = .ok (.aload_n 0, 1) := by decide +kernel
theorem dX4_init_15 : decode cX4_init 15 = .ok (.sipush 1536, 3) := by decide +kernel
theorem dX4_init_18 : decode cX4_init 18 = .ok (.newarray .int, 2) := by decide +kernel
theorem dX4_init_20 : decode cX4_init 20 = .ok (.putfield 18, 3) := by decide +kernel
theorem dX4_init_23 : decode cX4_init 23 = .ok (.aload_n 0, 1) := by decide +kernel
theorem dX4_init_24 : decode cX4_init 24 = .ok (.bipush 12, 2) := by decide +kernel
theorem dX4_init_26 : decode cX4_init 26 = .ok (.newarray .int, 2) := by decide +kernel
theorem dX4_init_28 : decode cX4_init 28 = .ok (.putfield 22, 3) := by decide +kernel
theorem dX4_init_31 : decode cX4_init 31 = .ok (.aload_n 0, 1) := by decide +kernel
theorem dX4_init_32 : decode cX4_init 32 = .ok (.aload_n 1, 1) := by decide +kernel
theorem dX4_init_33 : decode cX4_init 33 = .ok (.putfield 25, 3) := by decide +kernel
theorem dX4_init_36 : decode cX4_init 36 = .ok (.aload_n 0, 1) := by decide +kernel
theorem dX4_init_37 : decode cX4_init 37 = .ok (.aload_n 2, 1) := by decide +kernel
theorem dX4_init_38 : decode cX4_init 38 = .ok (.putfield 29, 3) := by decide +kernel
theorem dX4_init_41 : decode cX4_init 41 = .ok (.aload_n 0, 1) := by decide +kernel
theorem dX4_init_42 : decode cX4_init 42 = .ok (.aload_n 3, 1) := by decide +kernel
theorem dX4_init_43 : decode cX4_init 43 = .ok (.putfield 33, 3) := by decide +kernel
theorem dX4_init_46 : decode cX4_init 46 = .ok (.aload_n 0, 1) := by decide +kernel
theorem dX4_init_47 : decode cX4_init 47 = .ok (.aload 4, 2) := by decide +kernel
theorem dX4_init_49 : decode cX4_init 49 = .ok (.putfield 36, 3) := by decide +kernel
theorem dX4_init_52 : decode cX4_init 52 = .ok (.return_, 1) := by decide +kernel
theorem dX5_init_0 : decode cX5_init 0 = .ok (.aload_n 0, 1) := by decide +kernel
theorem dX5_init_1 : decode cX5_init 1 = .ok (.invokespecial 3, 3) := by decide +kernel
theorem dX5_init_4 : decode cX5_init 4 = .ok (.aload_n 0, 1) := by decide +kernel
theorem dX5_init_5 : decode cX5_init 5 = .ok (.bipush 40, 2) := by decide +kernel
theorem dX5_init_7 : decode cX5_init 7 = .ok (.anewarray 9, 3) := by decide +kernel
theorem dX5_init_10 : decode cX5_init 10 = .ok (.putfield 11, 3) := by decide +kernel
theorem dX5_init_13 : decode cX5_init 13 = .ok (.aload_n 0, 1) := by decide +kernel
theorem dX5_init_14 : decode cX5_init 14 = .ok (.iconst 0, 1) := by decide +kernel
theorem dX5_init_15 : decode cX5_init 15 = .ok (.putfield 17, 3) := by decide +kernel
theorem dX5_init_18 : decode cX5_init 18 = .ok (.aload_n 0, 1) := by decide +kernel
theorem dX5_init_19 : decode cX5_init 19 = .ok (.iconst 0, 1) := by decide +kernel
theorem dX5_init_20 : decode cX5_init 20 = .ok (.putfield 21, 3) := by decide +kernel
theorem dX5_init_23 : decode cX5_init 23 = .ok (.iconst 0, 1) := by decide +kernel
theorem dX5_init_24 : decode cX5_init 24 = .ok (.istore_n 2, 1) := by decide +kernel
theorem dX5_init_25 : decode cX5_init 25 = .ok (.iload_n 2, 1) := by decide +kernel
theorem dX5_init_26 : decode cX5_init 26 = .ok (.bipush 40, 2) := by decide +kernel
theorem dX5_init_28 : decode cX5_init 28 = .ok (.if_icmp .ge 23, 3) := by decide +kernel
theorem dX5_init_31 : decode cX5_init 31 = .ok (.aload_n 0, 1) := by decide +kernel
theorem dX5_init_32 : decode cX5_init 32 = .ok (.getfield 11, 3) := by decide +kernel
theorem dX5_init_35 : decode cX5_init 35 = .ok (.iload_n 2, 1) := by decide +kernel
theorem dX5_init_36 : decode cX5_init 36 = .ok (.new 9, 3) := by decide +kernel
theorem dX5_init_39 : decode cX5_init 39 = .ok (.dup, 1) := by decide +kernel
theorem dX5_init_40 : decode cX5_init 40 = .ok (.aload_n 1, 1) := by decide +kernel
theorem dX5_init_41 : decode cX5_init 41 = .ok (.invokespecial 24, 3) := by decide +kernel
theorem dX5_init_44 : decode cX5_init 44 = .ok (.aastore, 1) := by decide +kernel
theorem dX5_init_45 : decode cX5_init 45 = .ok (.iinc 2 1, 3) := by decide +kernel
theorem dX5_init_48 : decode cX5_init 48 = .ok (.goto (-23), 3) := by decide +kernel
theorem dX5_init_51 : decode cX5_init 51 = .ok (.return_, 1) := by decide +kernel
theorem dX5_size_0 : decode cX5_size 0 = .ok (.aload_n 0, 1) := by decide +kernel
theorem dX5_size_1 : decode cX5_size 1 = .ok (.getfield 21, 3) := by decide +kernel
theorem dX5_size_4 : decode cX5_size 4 = .ok (.ireturn, 1) := by decide +kernel
theorem dX5_clear_0 : decode cX5_clear 0 = .ok (.aload_n 0, 1) := by decide +kernel
theorem dX5_clear_1 : decode cX5_clear 1 = .ok (.iconst 0, 1) := by decide +kernel
theorem dX5_clear_2 : decode cX5_clear 2 = .ok (.putfield 17, 3) := by decide +kernel
theorem dX5_clear_5 : decode cX5_clear 5 = .ok (.aload_n 0, 1) := by decide +kernel
theorem dX5_clear_6 : decode cX5_clear 6 = .ok (.iconst 0, 1) := by decide +kernel
theorem dX5_clear_7 : decode cX5_clear 7 = .ok (.putfield 21, 3) := by decide +kernel
theorem dX5_clear_10 : decode cX5_clear 10 = .ok (.return_, 1) := by decide +kernel
theorem dX5_keep_0 : decode cX5_keep 0 = .ok (.aload_n 0, 1) := by decide +kernel
theorem dX5_keep_1 : decode cX5_keep 1 = .ok (.getfield 11, 3) := by decide +kernel
theorem dX5_keep_4 : decode cX5_keep 4 = .ok (.aload_n 0, 1) := by decide +kernel
theorem dX5_keep_5 : decode cX5_keep 5 = .ok (.getfield 17, 3) := by decide +kernel
theorem dX5_keep_8 : decode cX5_keep 8 = .ok (.aload_n 0, 1) := by decide +kernel
theorem dX5_keep_9 : decode cX5_keep 9 = .ok (.getfield 21, 3) := by decide +kernel
theorem dX5_keep_12 : decode cX5_keep 12 = .ok (.iadd, 1) := by decide +kernel
theorem dX5_keep_13 : decode cX5_keep 13 = .ok (.bipush 40, 2) := by decide +kernel
theorem dX5_keep_15 : decode cX5_keep 15 = .ok (.irem, 1) := by decide +kernel
theorem dX5_keep_16 : decode cX5_keep 16 = .ok (.aaload, 1) := by decide +kernel
theorem dX5_keep_17 : decode cX5_keep 17 = .ok (.aload_n 1, 1) := by decide +kernel
theorem dX5_keep_18 : decode cX5_keep 18 = .ok (.invokevirtual 27, 3) := by decide +kernel
theorem dX5_keep_21 : decode cX5_keep 21 = .ok (.aload_n 0, 1) := by decide +kernel
theorem dX5_keep_22 : decode cX5_keep 22 = .ok (.getfield 21, 3) := by decide +kernel
theorem dX5_keep_25 : decode cX5_keep 25 = .ok (.bipush 40, 2) := by decide +kernel
theorem dX5_keep_27 : decode cX5_keep 27 = .ok (.if_icmp .ge 16, 3) := by decide +kernel
theorem dX5_keep_30 : decode cX5_keep 30 = .ok (.aload_n 0, 1) := by decide +kernel
theorem dX5_keep_31 : decode cX5_keep 31 = .ok (.dup, 1) := by decide +kernel
theorem dX5_keep_32 : decode cX5_keep 32 = .ok (.getfield 21, 3) := by decide +kernel
theorem dX5_keep_35 : decode cX5_keep 35 = .ok (.iconst 1, 1) := by decide +kernel
theorem dX5_keep_36 : decode cX5_keep 36 = .ok (.iadd, 1) := by decide +kernel
theorem dX5_keep_37 : decode cX5_keep 37 = .ok (.putfield 21, 3) := by decide +kernel
theorem dX5_keep_40 : decode cX5_keep 40 = .ok (.goto 16, 3) := by decide +kernel
theorem dX5_keep_43 : decode cX5_keep 43 = .ok (.aload_n 0, 1) := by decide +kernel
theorem dX5_keep_44 : decode cX5_keep 44 = .ok (.aload_n 0, 1) := by decide +kernel
theorem dX5_keep_45 : decode cX5_keep 45 = .ok (.getfield 17, 3) := by decide +kernel
theorem dX5_keep_48 : decode cX5_keep 48 = .ok (.iconst 1, 1) := by decide +kernel
theorem dX5_keep_49 : decode cX5_keep 49 = .ok (.iadd, 1) := by decide +kernel
theorem dX5_keep_50 : decode cX5_keep 50 = .ok (.bipush 40, 2) := by decide +kernel
theorem dX5_keep_52 : decode cX5_keep 52 = .ok (.irem, 1) := by decide +kernel
theorem dX5_keep_53 : decode cX5_keep 53 = .ok (.putfield 17, 3) := by decide +kernel
theorem dX5_keep_56 : decode cX5_keep 56 = .ok (.return_, 1) := by decide +kernel
theorem dX5_takeBack_0 : decode cX5_takeBack 0 = .ok (.aload_n 0, 1) := by decide +kernel
theorem dX5_takeBack_1 : decode cX5_takeBack 1 = .ok (.getfield 21, 3) := by decide +kernel
theorem dX5_takeBack_4 : decode cX5_takeBack 4 = .ok (.ifCond .le 34, 3) := by decide +kernel
theorem dX5_takeBack_7 : decode cX5_takeBack 7 = .ok (.aload_n 0, 1) := by decide +kernel
theorem dX5_takeBack_8 : decode cX5_takeBack 8 = .ok (.dup, 1) := by decide +kernel
theorem dX5_takeBack_9 : decode cX5_takeBack 9 = .ok (.getfield 21, 3) := by decide +kernel
theorem dX5_takeBack_12 : decode cX5_takeBack 12 = .ok (.iconst 1, 1) := by decide +kernel
theorem dX5_takeBack_13 : decode cX5_takeBack 13 = .ok (.isub, 1) := by decide +kernel
theorem dX5_takeBack_14 : decode cX5_takeBack 14 = .ok (.putfield 21, 3) := by decide +kernel
theorem dX5_takeBack_17 : decode cX5_takeBack 17 = .ok (.aload_n 1, 1) := by decide +kernel
theorem dX5_takeBack_18 : decode cX5_takeBack 18 = .ok (.aload_n 0, 1) := by decide +kernel
theorem dX5_takeBack_19 : decode cX5_takeBack 19 = .ok (.getfield 11, 3) := by decide +kernel
theorem dX5_takeBack_22 : decode cX5_takeBack 22 = .ok (.aload_n 0, 1) := by decide +kernel
theorem dX5_takeBack_23 : decode cX5_takeBack 23 = .ok (.getfield 17, 3) := by decide +kernel
theorem dX5_takeBack_26 : decode cX5_takeBack 26 = .ok (.aload_n 0, 1) := by decide +kernel
theorem dX5_takeBack_27 : decode cX5_takeBack 27 = .ok (.getfield 21, 3) := by decide +kernel
theorem dX5_takeBack_30 : decode cX5_takeBack 30 = .ok (.iadd, 1) := by decide +kernel
theorem dX5_takeBack_31 : decode cX5_takeBack 31 = .ok (.bipush 40, 2) := by decide +kernel
theorem dX5_takeBack_33 : decode cX5_takeBack 33 = .ok (.irem, 1) := by decide +kernel
theorem dX5_takeBack_34 : decode cX5_takeBack 34 = .ok (.aaload, 1) := by decide +kernel
theorem dX5_takeBack_35 : decode cX5_takeBack 35 = .ok (.invokevirtual 27, 3) := by decide +kernel
theorem dX5_takeBack_38 : decode cX5_takeBack 38 = .ok (.return_, 1) := by decide +kernel
theorem dX5_copyFrom_0 : decode cX5_copyFrom 0 = .ok (.aload_n 0, 1) := by decide +kernel
theorem dX5_copyFrom_1 : decode cX5_copyFrom 1 = .ok (.aload_n 1, 1) := by decide +kernel
theorem dX5_copyFrom_2 : decode cX5_copyFrom 2 = .ok (.getfield 17, 3) := by decide +kernel
theorem dX5_copyFrom_5 : decode cX5_copyFrom 5 = .ok (.putfield 17, 3) := by decide +kernel
theorem dX5_copyFrom_8 : decode cX5_copyFrom 8 = .ok (.aload_n 0, 1) := by decide +kernel
theorem dX5_copyFrom_9 : decode cX5_copyFrom 9 = .ok (.aload_n 1, 1) := by decide +kernel
theorem dX5_copyFrom_10 : decode cX5_copyFrom 10 = .ok (.getfield 21, 3) := by decide +kernel
theorem dX5_copyFrom_13 : decode cX5_copyFrom 13 = .ok (.putfield 21, 3) := by decide +kernel
theorem dX5_copyFrom_16 : decode cX5_copyFrom 16 = .ok (.iconst 0, 1) := by decide +kernel
theorem dX5_copyFrom_17 : decode cX5_copyFrom 17 = .ok (.istore_n 2, 1) := by decide +kernel
theorem dX5_copyFrom_18 : decode cX5_copyFrom 18 = .ok (.iload_n 2, 1) := by decide +kernel
theorem dX5_copyFrom_19 : decode cX5_copyFrom 19 = .ok (.aload_n 0, 1) := by decide +kernel
theorem dX5_copyFrom_20 : decode cX5_copyFrom 20 = .ok (.getfield 21, 3) := by decide +kernel
theorem dX5_copyFrom_23 : decode cX5_copyFrom 23 = .ok (.if_icmp .ge 34, 3) := by decide +kernel
theorem dX5_copyFrom_26 : decode cX5_copyFrom 26 = .ok (.aload_n 0, 1) := by decide +kernel
theorem dX5_copyFrom_27 : decode cX5_copyFrom 27 = .ok (.getfield 17, 3) := by decide +kernel
theorem dX5_copyFrom_30 : decode cX5_copyFrom 30 = .ok (.iload_n 2, 1) := by decide +kernel
theorem dX5_copyFrom_31 : decode cX5_copyFrom 31 = .ok (.iadd, 1) := by decide +kernel
theorem dX5_copyFrom_32 : decode cX5_copyFrom 32 = .ok (.bipush 40, 2) := by decide +kernel
theorem dX5_copyFrom_34 : decode cX5_copyFrom 34 = .ok (.irem, 1) := by decide +kernel
theorem dX5_copyFrom_35 : decode cX5_copyFrom 35 = .ok (.istore_n 3, 1) := by decide +kernel
theorem dX5_copyFrom_36 : decode cX5_copyFrom 36 = .ok (.aload_n 0, 1) := by decide +kernel
theorem dX5_copyFrom_37 : decode cX5_copyFrom 37 = .ok (.getfield 11, 3) := by decide +kernel
theorem dX5_copyFrom_40 : decode cX5_copyFrom 40 = .ok (.iload_n 3, 1) := by decide +kernel
theorem dX5_copyFrom_41 : decode cX5_copyFrom 41 = .ok (.aaload, 1) := by decide +kernel
theorem dX5_copyFrom_42 : decode cX5_copyFrom 42 = .ok (.aload_n 1, 1) := by decide +kernel
theorem dX5_copyFrom_43 : decode cX5_copyFrom 43 = .ok (.getfield 11, 3) := by decide +kernel
theorem dX5_copyFrom_46 : decode cX5_copyFrom 46 = .ok (.iload_n 3, 1) := by decide +kernel
theorem dX5_copyFrom_47 : decode cX5_copyFrom 47 = .ok (.aaload, 1) := by decide +kernel
theorem dX5_copyFrom_48 : decode cX5_copyFrom 48 = .ok (.invokevirtual 27, 3) := by decide +kernel
theorem dX5_copyFrom_51 : decode cX5_copyFrom 51 = .ok (.iinc 2 1, 3) := by decide +kernel
theorem dX5_copyFrom_54 : decode cX5_copyFrom 54 = .ok (.goto (-36), 3) := by decide +kernel
theorem dX5_copyFrom_57 : decode cX5_copyFrom 57 = .ok (.return_, 1) := by decide +kernel
theorem dX6_init_0 : decode cX6_init 0 = .ok (.aload_n 0, 1) := by decide +kernel
theorem dX6_init_1 : decode cX6_init 1 = .ok (.invokespecial 3, 3) := by decide +kernel
theorem dX6_init_4 : decode cX6_init 4 = .ok (.aload_n 0, 1) := by decide +kernel
theorem dX6_init_5 : decode cX6_init 5 = .ok (.iconst 0, 1) := by decide +kernel
theorem dX6_init_6 : decode cX6_init 6 = .ok (.putfield 9, 3) := by decide +kernel
theorem dX6_init_9 : decode cX6_init 9 = .ok (.aload_n 0, 1) := by decide +kernel
theorem dX6_init_10 : decode cX6_init 10 = .ok (.iconst 0, 1) := by decide +kernel
theorem dX6_init_11 : decode cX6_init 11 = .ok (.putfield 15, 3) := by decide +kernel
theorem dX6_init_14 : decode cX6_init 14 = .ok (.aload_n 0, 1) := by decide +kernel
theorem dX6_init_15 : decode cX6_init 15 = .ok (.iconst 0, 1) := by decide +kernel
theorem dX6_init_16 : decode cX6_init 16 = .ok (.putfield 18, 3) := by decide +kernel
theorem dX6_init_19 : decode cX6_init 19 = .ok (.aload_n 0, 1) := by decide +kernel
theorem dX6_init_20 : decode cX6_init 20 = .ok (.iconst 0, 1) := by decide +kernel
theorem dX6_init_21 : decode cX6_init 21 = .ok (.putfield 21, 3) := by decide +kernel
theorem dX6_init_24 : decode cX6_init 24 = .ok (.aload_n 0, 1) := by decide +kernel
theorem dX6_init_25 : decode cX6_init 25 = .ok (.iconst (-1), 1) := by decide +kernel
theorem dX6_init_26 : decode cX6_init 26 = .ok (.putfield 24, 3) := by decide +kernel
theorem dX6_init_29 : decode cX6_init 29 = .ok (.aload_n 0, 1) := by decide +kernel
theorem dX6_init_30 : decode cX6_init 30 = .ok (.iconst 0, 1) := by decide +kernel
theorem dX6_init_31 : decode cX6_init 31 = .ok (.putfield 27, 3) := by decide +kernel
theorem dX6_init_34 : decode cX6_init 34 = .ok (.aload_n 0, 1) := by decide +kernel
theorem dX6_init_35 : decode cX6_init 35 = .ok (.bipush 12, 2) := by decide +kernel
theorem dX6_init_37 : decode cX6_init 37 = .ok (.newarray .int, 2) := by decide +kernel
theorem dX6_init_39 : decode cX6_init 39 = .ok (.putfield 30, 3) := by decide +kernel
theorem dX6_init_42 : decode cX6_init 42 = .ok (.aload_n 0, 1) := by decide +kernel
theorem dX6_init_43 : decode cX6_init 43 = .ok (.bipush 12, 2) := by decide +kernel
theorem dX6_init_45 : decode cX6_init 45 = .ok (.newarray .int, 2) := by decide +kernel
theorem dX6_init_47 : decode cX6_init 47 = .ok (.putfield 34, 3) := by decide +kernel
theorem dX6_init_50 : decode cX6_init 50 = .ok (.aload_n 0, 1) := by decide +kernel
theorem dX6_init_51 : decode cX6_init 51 = .ok (.bipush 12, 2) := by decide +kernel
theorem dX6_init_53 : decode cX6_init 53 = .ok (.newarray .int, 2) := by decide +kernel
theorem dX6_init_55 : decode cX6_init 55 = .ok (.putfield 37, 3) := by decide +kernel
theorem dX6_init_58 : decode cX6_init 58 = .ok (.aload_n 0, 1) := by decide +kernel
theorem dX6_init_59 : decode cX6_init 59 = .ok (.bipush 13, 2) := by decide +kernel
theorem dX6_init_61 : decode cX6_init 61 = .ok (.newarray .int, 2) := by decide +kernel
theorem dX6_init_63 : decode cX6_init 63 = .ok (.putfield 40, 3) := by decide +kernel
theorem dX6_init_66 : decode cX6_init 66 = .ok (.aload_n 0, 1) := by decide +kernel
theorem dX6_init_67 : decode cX6_init 67 = .ok (.bipush 12, 2) := by decide +kernel
theorem dX6_init_69 : decode cX6_init 69 = .ok (.newarray .int, 2) := by decide +kernel
theorem dX6_init_71 : decode cX6_init 71 = .ok (.putfield 43, 3) := by decide +kernel
theorem dX6_init_74 : decode cX6_init 74 = .ok (.aload_n 0, 1) := by decide +kernel
theorem dX6_init_75 : decode cX6_init 75 = .ok (.bipush 13, 2) := by decide +kernel
theorem dX6_init_77 : decode cX6_init 77 = .ok (.newarray .int, 2) := by decide +kernel
theorem dX6_init_79 : decode cX6_init 79 = .ok (.putfield 46, 3) := by decide +kernel
theorem dX6_init_82 : decode cX6_init 82 = .ok (.aload_n 0, 1) := by decide +kernel
theorem dX6_init_83 : decode cX6_init 83 = .ok (.sipush 240, 3) := by decide +kernel
theorem dX6_init_86 : decode cX6_init 86 = .ok (.newarray .int, 2) := by decide +kernel
theorem dX6_init_88 : decode cX6_init 88 = .ok (.putfield 49, 3) := by decide +kernel
theorem dX6_init_91 : decode cX6_init 91 = .ok (.aload_n 0, 1) := by decide +kernel
theorem dX6_init_92 : decode cX6_init 92 = .ok (.bipush 12, 2) := by decide +kernel
theorem dX6_init_94 : decode cX6_init 94 = .ok (.newarray .int, 2) := by decide +kernel
theorem dX6_init_96 : decode cX6_init 96 = .ok (.putfield 52, 3) := by decide +kernel
theorem dX6_init_99 : decode cX6_init 99 = .ok (.aload_n 0, 1) := by decide +kernel
theorem dX6_init_100 : decode cX6_init 100 = .ok (.bipush 8, 2) := by decide +kernel
theorem dX6_init_102 : decode cX6_init 102 = .ok (.newarray .int, 2) := by decide +kernel
theorem dX6_init_104 : decode cX6_init 104 = .ok (.putfield 55, 3) := by decide +kernel
theorem dX6_init_107 : decode cX6_init 107 = .ok (.aload_n 0, 1) := by decide +kernel
theorem dX6_init_108 : decode cX6_init 108 = .ok (.new 58, 3) := by decide +kernel
theorem dX6_init_111 : decode cX6_init 111 = .ok (.dup, 1) := by decide +kernel
theorem dX6_init_112 : decode cX6_init 112 = .ok (.invokespecial 60, 3) := by decide +kernel
theorem dX6_init_115 : decode cX6_init 115 = .ok (.putfield 61, 3) := by decide +kernel
theorem dX6_init_118 : decode cX6_init 118 = .ok (.aload_n 0, 1) := by decide +kernel
theorem dX6_init_119 : decode cX6_init 119 = .ok (.bipush 13, 2) := by decide +kernel
theorem dX6_init_121 : decode cX6_init 121 = .ok (.newarray .int, 2) := by decide +kernel
theorem dX6_init_123 : decode cX6_init 123 = .ok (.putfield 65, 3) := by decide +kernel
theorem dX6_init_126 : decode cX6_init 126 = .ok (.aload_n 0, 1) := by decide +kernel
theorem dX6_init_127 : decode cX6_init 127 = .ok (.aload_n 1, 1) := by decide +kernel
theorem dX6_init_128 : decode cX6_init 128 = .ok (.putfield 68, 3) := by decide +kernel
theorem dX6_init_131 : decode cX6_init 131 = .ok (.return_, 1) := by decide +kernel
theorem dX6_begin_0 : decode cX6_begin 0 = .ok (.aload_n 0, 1) := by decide +kernel
theorem dX6_begin_1 : decode cX6_begin 1 = .ok (.iconst 0, 1) := by decide +kernel
theorem dX6_begin_2 : decode cX6_begin 2 = .ok (.putfield 9, 3) := by decide +kernel
theorem dX6_begin_5 : decode cX6_begin 5 = .ok (.aload_n 0, 1) := by decide +kernel
theorem dX6_begin_6 : decode cX6_begin 6 = .ok (.iconst 0, 1) := by decide +kernel
theorem dX6_begin_7 : decode cX6_begin 7 = .ok (.putfield 15, 3) := by decide +kernel
theorem dX6_begin_10 : decode cX6_begin 10 = .ok (.aload_n 0, 1) := by decide +kernel
theorem dX6_begin_11 : decode cX6_begin 11 = .ok (.iconst 0, 1) := by decide +kernel
theorem dX6_begin_12 : decode cX6_begin 12 = .ok (.putfield 18, 3) := by decide +kernel
theorem dX6_begin_15 : decode cX6_begin 15 = .ok (.aload_n 0, 1) := by decide +kernel
theorem dX6_begin_16 : decode cX6_begin 16 = .ok (.iconst 0, 1) := by decide +kernel
theorem dX6_begin_17 : decode cX6_begin 17 = .ok (.putfield 21, 3) := by decide +kernel
theorem dX6_begin_20 : decode cX6_begin 20 = .ok (.aload_n 0, 1) := by decide +kernel
theorem dX6_begin_21 : decode cX6_begin 21 = .ok (.iconst (-1), 1) := by decide +kernel
theorem dX6_begin_22 : decode cX6_begin 22 = .ok (.putfield 24, 3) := by decide +kernel
theorem dX6_begin_25 : decode cX6_begin 25 = .ok (.aload_n 0, 1) := by decide +kernel
theorem dX6_begin_26 : decode cX6_begin 26 = .ok (.iconst 0, 1) := by decide +kernel
theorem dX6_begin_27 : decode cX6_begin 27 = .ok (.putfield 27, 3) := by decide +kernel
theorem dX6_begin_30 : decode cX6_begin 30 = .ok (.aload_n 0, 1) := by decide +kernel
theorem dX6_begin_31 : decode cX6_begin 31 = .ok (.getfield 30, 3) := by decide +kernel
theorem dX6_begin_34 : decode cX6_begin 34 = .ok (.iconst 0, 1) := by decide +kernel
theorem dX6_begin_35 : decode cX6_begin 35 = .ok (.invokestatic 72, 3) := by decide +kernel
theorem dX6_begin_38 : decode cX6_begin 38 = .ok (.aload_n 0, 1) := by decide +kernel
theorem dX6_begin_39 : decode cX6_begin 39 = .ok (.getfield 34, 3) := by decide +kernel
theorem dX6_begin_42 : decode cX6_begin 42 = .ok (.iconst 0, 1) := by decide +kernel
theorem dX6_begin_43 : decode cX6_begin 43 = .ok (.invokestatic 72, 3) := by decide +kernel
theorem dX6_begin_46 : decode cX6_begin 46 = .ok (.aload_n 0, 1) := by decide +kernel
theorem dX6_begin_47 : decode cX6_begin 47 = .ok (.getfield 37, 3) := by decide +kernel
theorem dX6_begin_50 : decode cX6_begin 50 = .ok (.iconst 0, 1) := by decide +kernel
theorem dX6_begin_51 : decode cX6_begin 51 = .ok (.invokestatic 72, 3) := by decide +kernel
theorem dX6_begin_54 : decode cX6_begin 54 = .ok (.aload_n 0, 1) := by decide +kernel
theorem dX6_begin_55 : decode cX6_begin 55 = .ok (.getfield 40, 3) := by decide +kernel
theorem dX6_begin_58 : decode cX6_begin 58 = .ok (.iconst 0, 1) := by decide +kernel
theorem dX6_begin_59 : decode cX6_begin 59 = .ok (.invokestatic 72, 3) := by decide +kernel
theorem dX6_begin_62 : decode cX6_begin 62 = .ok (.aload_n 0, 1) := by decide +kernel
theorem dX6_begin_63 : decode cX6_begin 63 = .ok (.getfield 43, 3) := by decide +kernel
theorem dX6_begin_66 : decode cX6_begin 66 = .ok (.iconst 0, 1) := by decide +kernel
theorem dX6_begin_67 : decode cX6_begin 67 = .ok (.invokestatic 72, 3) := by decide +kernel
theorem dX6_begin_70 : decode cX6_begin 70 = .ok (.aload_n 0, 1) := by decide +kernel
theorem dX6_begin_71 : decode cX6_begin 71 = .ok (.getfield 46, 3) := by decide +kernel
theorem dX6_begin_74 : decode cX6_begin 74 = .ok (.iconst 0, 1) := by decide +kernel
theorem dX6_begin_75 : decode cX6_begin 75 = .ok (.invokestatic 72, 3) := by decide +kernel
theorem dX6_begin_78 : decode cX6_begin 78 = .ok (.aload_n 0, 1) := by decide +kernel
theorem dX6_begin_79 : decode cX6_begin 79 = .ok (.getfield 52, 3) := by decide +kernel
theorem dX6_begin_82 : decode cX6_begin 82 = .ok (.iconst 0, 1) := by decide +kernel
theorem dX6_begin_83 : decode cX6_begin 83 = .ok (.invokestatic 72, 3) := by decide +kernel
theorem dX6_begin_86 : decode cX6_begin 86 = .ok (.aload_n 0, 1) := by decide +kernel
theorem dX6_begin_87 : decode cX6_begin 87 = .ok (.getfield 68, 3) := by decide +kernel
theorem dX6_begin_90 : decode cX6_begin 90 = .ok (.getfield 78, 3) := by decide +kernel
theorem dX6_begin_93 : decode cX6_begin 93 = .ok (.iconst 0, 1) := by decide +kernel
theorem dX6_begin_94 : decode cX6_begin 94 = .ok (.aload_n 0, 1) := by decide +kernel
theorem dX6_begin_95 : decode cX6_begin 95 = .ok (.getfield 55, 3) := by decide +kernel
theorem dX6_begin_98 : decode cX6_begin 98 = .ok (.iconst 0, 1) := by decide +kernel
theorem dX6_begin_99 : decode cX6_begin 99 = .ok (.aload_n 0, 1) := by decide +kernel
theorem dX6_begin_100 : decode cX6_begin 100 = .ok (.getfield 55, 3) := by decide +kernel
theorem dX6_begin_103 : decode cX6_begin 103 = .ok (.arraylength, 1) := by decide +kernel
theorem dX6_begin_104 : decode cX6_begin 104 = .ok (.invokestatic 83, 3) := by decide +kernel
theorem dX6_begin_107 : decode cX6_begin 107 = .ok (.aload_n 0, 1) := by decide +kernel
theorem dX6_begin_108 : decode cX6_begin 108 = .ok (.getfield 61, 3) := by decide +kernel
theorem dX6_begin_111 : decode cX6_begin 111 = .ok (.aload_n 0, 1) := by decide +kernel
theorem dX6_begin_112 : decode cX6_begin 112 = .ok (.getfield 68, 3) := by decide +kernel
theorem dX6_begin_115 : decode cX6_begin 115 = .ok (.getfield 89, 3) := by decide +kernel
theorem dX6_begin_118 : decode cX6_begin 118 = .ok (.bipush 12, 2) := by decide +kernel
theorem dX6_begin_120 : decode cX6_begin 120 = .ok (.invokevirtual 92, 3) := by decide +kernel
theorem dX6_begin_123 : decode cX6_begin 123 = .ok (.return_, 1) := by decide +kernel
theorem dX6_copyFrom_0 : decode cX6_copyFrom 0 = .ok (.aload_n 0, 1) := by decide +kernel
theorem dX6_copyFrom_1 : decode cX6_copyFrom 1 = .ok (.getfield 68, 3) := by decide +kernel
theorem dX6_copyFrom_4 : decode cX6_copyFrom 4 = .ok (.getfield 96, 3) := by decide +kernel
theorem dX6_copyFrom_7 : decode cX6_copyFrom 7 = .ok (.istore_n 2, 1) := by decide +kernel
theorem dX6_copyFrom_8 : decode cX6_copyFrom 8 = .ok (.aload_n 0, 1) := by decide +kernel
theorem dX6_copyFrom_9 : decode cX6_copyFrom 9 = .ok (.aload_n 1, 1) := by decide +kernel
theorem dX6_copyFrom_10 : decode cX6_copyFrom 10 = .ok (.getfield 9, 3) := by decide +kernel
theorem dX6_copyFrom_13 : decode cX6_copyFrom 13 = .ok (.putfield 9, 3) := by decide +kernel
theorem dX6_copyFrom_16 : decode cX6_copyFrom 16 = .ok (.aload_n 0, 1) := by decide +kernel
theorem dX6_copyFrom_17 : decode cX6_copyFrom 17 = .ok (.aload_n 1, 1) := by decide +kernel
theorem dX6_copyFrom_18 : decode cX6_copyFrom 18 = .ok (.getfield 15, 3) := by decide +kernel
theorem dX6_copyFrom_21 : decode cX6_copyFrom 21 = .ok (.putfield 15, 3) := by decide +kernel
theorem dX6_copyFrom_24 : decode cX6_copyFrom 24 = .ok (.aload_n 0, 1) := by decide +kernel
theorem dX6_copyFrom_25 : decode cX6_copyFrom 25 = .ok (.aload_n 1, 1) := by decide +kernel
theorem dX6_copyFrom_26 : decode cX6_copyFrom 26 = .ok (.getfield 18, 3) := by decide +kernel
theorem dX6_copyFrom_29 : decode cX6_copyFrom 29 = .ok (.putfield 18, 3) := by decide +kernel
theorem dX6_copyFrom_32 : decode cX6_copyFrom 32 = .ok (.aload_n 0, 1) := by decide +kernel
theorem dX6_copyFrom_33 : decode cX6_copyFrom 33 = .ok (.aload_n 1, 1) := by decide +kernel
theorem dX6_copyFrom_34 : decode cX6_copyFrom 34 = .ok (.getfield 21, 3) := by decide +kernel
theorem dX6_copyFrom_37 : decode cX6_copyFrom 37 = .ok (.putfield 21, 3) := by decide +kernel
theorem dX6_copyFrom_40 : decode cX6_copyFrom 40 = .ok (.aload_n 0, 1) := by decide +kernel
theorem dX6_copyFrom_41 : decode cX6_copyFrom 41 = .ok (.aload_n 1, 1) := by decide +kernel
theorem dX6_copyFrom_42 : decode cX6_copyFrom 42 = .ok (.getfield 24, 3) := by decide +kernel
theorem dX6_copyFrom_45 : decode cX6_copyFrom 45 = .ok (.putfield 24, 3) := by decide +kernel
theorem dX6_copyFrom_48 : decode cX6_copyFrom 48 = .ok (.aload_n 0, 1) := by decide +kernel
theorem dX6_copyFrom_49 : decode cX6_copyFrom 49 = .ok (.aload_n 1, 1) := by decide +kernel
theorem dX6_copyFrom_50 : decode cX6_copyFrom 50 = .ok (.getfield 27, 3) := by decide +kernel
theorem dX6_copyFrom_53 : decode cX6_copyFrom 53 = .ok (.putfield 27, 3) := by decide +kernel
theorem dX6_copyFrom_56 : decode cX6_copyFrom 56 = .ok (.aload_n 1, 1) := by decide +kernel
theorem dX6_copyFrom_57 : decode cX6_copyFrom 57 = .ok (.getfield 30, 3) := by decide +kernel
theorem dX6_copyFrom_60 : decode cX6_copyFrom 60 = .ok (.iconst 0, 1) := by decide +kernel
theorem dX6_copyFrom_61 : decode cX6_copyFrom 61 = .ok (.aload_n 0, 1) := by decide +kernel
theorem dX6_copyFrom_62 : decode cX6_copyFrom 62 = .ok (.getfield 30, 3) := by decide +kernel
theorem dX6_copyFrom_65 : decode cX6_copyFrom 65 = .ok (.iconst 0, 1) := by decide +kernel
theorem dX6_copyFrom_66 : decode cX6_copyFrom 66 = .ok (.iload_n 2, 1) := by decide +kernel
theorem dX6_copyFrom_67 : decode cX6_copyFrom 67 = .ok (.invokestatic 83, 3) := by decide +kernel
theorem dX6_copyFrom_70 : decode cX6_copyFrom 70 = .ok (.aload_n 1, 1) := by decide +kernel
theorem dX6_copyFrom_71 : decode cX6_copyFrom 71 = .ok (.getfield 34, 3) := by decide +kernel
theorem dX6_copyFrom_74 : decode cX6_copyFrom 74 = .ok (.iconst 0, 1) := by decide +kernel
theorem dX6_copyFrom_75 : decode cX6_copyFrom 75 = .ok (.aload_n 0, 1) := by decide +kernel
theorem dX6_copyFrom_76 : decode cX6_copyFrom 76 = .ok (.getfield 34, 3) := by decide +kernel
theorem dX6_copyFrom_79 : decode cX6_copyFrom 79 = .ok (.iconst 0, 1) := by decide +kernel
theorem dX6_copyFrom_80 : decode cX6_copyFrom 80 = .ok (.iload_n 2, 1) := by decide +kernel
theorem dX6_copyFrom_81 : decode cX6_copyFrom 81 = .ok (.invokestatic 83, 3) := by decide +kernel
theorem dX6_copyFrom_84 : decode cX6_copyFrom 84 = .ok (.aload_n 1, 1) := by decide +kernel
theorem dX6_copyFrom_85 : decode cX6_copyFrom 85 = .ok (.getfield 37, 3) := by decide +kernel
theorem dX6_copyFrom_88 : decode cX6_copyFrom 88 = .ok (.iconst 0, 1) := by decide +kernel
theorem dX6_copyFrom_89 : decode cX6_copyFrom 89 = .ok (.aload_n 0, 1) := by decide +kernel
theorem dX6_copyFrom_90 : decode cX6_copyFrom 90 = .ok (.getfield 37, 3) := by decide +kernel
theorem dX6_copyFrom_93 : decode cX6_copyFrom 93 = .ok (.iconst 0, 1) := by decide +kernel
theorem dX6_copyFrom_94 : decode cX6_copyFrom 94 = .ok (.iload_n 2, 1) := by decide +kernel
theorem dX6_copyFrom_95 : decode cX6_copyFrom 95 = .ok (.invokestatic 83, 3) := by decide +kernel
theorem dX6_copyFrom_98 : decode cX6_copyFrom 98 = .ok (.aload_n 1, 1) := by decide +kernel
theorem dX6_copyFrom_99 : decode cX6_copyFrom 99 = .ok (.getfield 40, 3) := by decide +kernel
theorem dX6_copyFrom_102 : decode cX6_copyFrom 102 = .ok (.iconst 0, 1) := by decide +kernel
theorem dX6_copyFrom_103 : decode cX6_copyFrom 103 = .ok (.aload_n 0, 1) := by decide +kernel
theorem dX6_copyFrom_104 : decode cX6_copyFrom 104 = .ok (.getfield 40, 3) := by decide +kernel
theorem dX6_copyFrom_107 : decode cX6_copyFrom 107 = .ok (.iconst 0, 1) := by decide +kernel
theorem dX6_copyFrom_108 : decode cX6_copyFrom 108 = .ok (.aload_n 0, 1) := by decide +kernel
theorem dX6_copyFrom_109 : decode cX6_copyFrom 109 = .ok (.getfield 40, 3) := by decide +kernel
theorem dX6_copyFrom_112 : decode cX6_copyFrom 112 = .ok (.arraylength, 1) := by decide +kernel
theorem dX6_copyFrom_113 : decode cX6_copyFrom 113 = .ok (.invokestatic 83, 3) := by decide +kernel
theorem dX6_copyFrom_116 : decode cX6_copyFrom 116 = .ok (.aload_n 1, 1) := by decide +kernel
theorem dX6_copyFrom_117 : decode cX6_copyFrom 117 = .ok (.getfield 43, 3) := by decide +kernel
theorem dX6_copyFrom_120 : decode cX6_copyFrom 120 = .ok (.iconst 0, 1) := by decide +kernel
theorem dX6_copyFrom_121 : decode cX6_copyFrom 121 = .ok (.aload_n 0, 1) := by decide +kernel
theorem dX6_copyFrom_122 : decode cX6_copyFrom 122 = .ok (.getfield 43, 3) := by decide +kernel
theorem dX6_copyFrom_125 : decode cX6_copyFrom 125 = .ok (.iconst 0, 1) := by decide +kernel
theorem dX6_copyFrom_126 : decode cX6_copyFrom 126 = .ok (.iload_n 2, 1) := by decide +kernel
theorem dX6_copyFrom_127 : decode cX6_copyFrom 127 = .ok (.invokestatic 83, 3) := by decide +kernel
theorem dX6_copyFrom_130 : decode cX6_copyFrom 130 = .ok (.aload_n 1, 1) := by decide +kernel
theorem dX6_copyFrom_131 : decode cX6_copyFrom 131 = .ok (.getfield 46, 3) := by decide +kernel
theorem dX6_copyFrom_134 : decode cX6_copyFrom 134 = .ok (.iconst 0, 1) := by decide +kernel
theorem dX6_copyFrom_135 : decode cX6_copyFrom 135 = .ok (.aload_n 0, 1) := by decide +kernel
theorem dX6_copyFrom_136 : decode cX6_copyFrom 136 = .ok (.getfield 46, 3) := by decide +kernel
theorem dX6_copyFrom_139 : decode cX6_copyFrom 139 = .ok (.iconst 0, 1) := by decide +kernel
theorem dX6_copyFrom_140 : decode cX6_copyFrom 140 = .ok (.aload_n 0, 1) := by decide +kernel
theorem dX6_copyFrom_141 : decode cX6_copyFrom 141 = .ok (.getfield 46, 3) := by decide +kernel
theorem dX6_copyFrom_144 : decode cX6_copyFrom 144 = .ok (.arraylength, 1) := by decide +kernel
theorem dX6_copyFrom_145 : decode cX6_copyFrom 145 = .ok (.invokestatic 83, 3) := by decide +kernel
theorem dX6_copyFrom_148 : decode cX6_copyFrom 148 = .ok (.aload_n 1, 1) := by decide +kernel
theorem dX6_copyFrom_149 : decode cX6_copyFrom 149 = .ok (.getfield 49, 3) := by decide +kernel
theorem dX6_copyFrom_152 : decode cX6_copyFrom 152 = .ok (.iconst 0, 1) := by decide +kernel
theorem dX6_copyFrom_153 : decode cX6_copyFrom 153 = .ok (.aload_n 0, 1) := by decide +kernel
theorem dX6_copyFrom_154 : decode cX6_copyFrom 154 = .ok (.getfield 49, 3) := by decide +kernel
theorem dX6_copyFrom_157 : decode cX6_copyFrom 157 = .ok (.iconst 0, 1) := by decide +kernel
theorem dX6_copyFrom_158 : decode cX6_copyFrom 158 = .ok (.iload_n 2, 1) := by decide +kernel
theorem dX6_copyFrom_159 : decode cX6_copyFrom 159 = .ok (.bipush 20, 2) := by decide +kernel
theorem dX6_copyFrom_161 : decode cX6_copyFrom 161 = .ok (.imul, 1) := by decide +kernel
theorem dX6_copyFrom_162 : decode cX6_copyFrom 162 = .ok (.invokestatic 83, 3) := by decide +kernel
theorem dX6_copyFrom_165 : decode cX6_copyFrom 165 = .ok (.aload_n 1, 1) := by decide +kernel
theorem dX6_copyFrom_166 : decode cX6_copyFrom 166 = .ok (.getfield 52, 3) := by decide +kernel
theorem dX6_copyFrom_169 : decode cX6_copyFrom 169 = .ok (.iconst 0, 1) := by decide +kernel
theorem dX6_copyFrom_170 : decode cX6_copyFrom 170 = .ok (.aload_n 0, 1) := by decide +kernel
theorem dX6_copyFrom_171 : decode cX6_copyFrom 171 = .ok (.getfield 52, 3) := by decide +kernel
theorem dX6_copyFrom_174 : decode cX6_copyFrom 174 = .ok (.iconst 0, 1) := by decide +kernel
theorem dX6_copyFrom_175 : decode cX6_copyFrom 175 = .ok (.iload_n 2, 1) := by decide +kernel
theorem dX6_copyFrom_176 : decode cX6_copyFrom 176 = .ok (.invokestatic 83, 3) := by decide +kernel
theorem dX6_copyFrom_179 : decode cX6_copyFrom 179 = .ok (.aload_n 1, 1) := by decide +kernel
theorem dX6_copyFrom_180 : decode cX6_copyFrom 180 = .ok (.getfield 55, 3) := by decide +kernel
theorem dX6_copyFrom_183 : decode cX6_copyFrom 183 = .ok (.iconst 0, 1) := by decide +kernel
theorem dX6_copyFrom_184 : decode cX6_copyFrom 184 = .ok (.aload_n 0, 1) := by decide +kernel
theorem dX6_copyFrom_185 : decode cX6_copyFrom 185 = .ok (.getfield 55, 3) := by decide +kernel
theorem dX6_copyFrom_188 : decode cX6_copyFrom 188 = .ok (.iconst 0, 1) := by decide +kernel
theorem dX6_copyFrom_189 : decode cX6_copyFrom 189 = .ok (.aload_n 0, 1) := by decide +kernel
theorem dX6_copyFrom_190 : decode cX6_copyFrom 190 = .ok (.getfield 68, 3) := by decide +kernel
theorem dX6_copyFrom_193 : decode cX6_copyFrom 193 = .ok (.getfield 99, 3) := by decide +kernel
theorem dX6_copyFrom_196 : decode cX6_copyFrom 196 = .ok (.invokestatic 83, 3) := by decide +kernel
theorem dX6_copyFrom_199 : decode cX6_copyFrom 199 = .ok (.aload_n 0, 1) := by decide +kernel
theorem dX6_copyFrom_200 : decode cX6_copyFrom 200 = .ok (.getfield 61, 3) := by decide +kernel
theorem dX6_copyFrom_203 : decode cX6_copyFrom 203 = .ok (.aload_n 1, 1) := by decide +kernel
theorem dX6_copyFrom_204 : decode cX6_copyFrom 204 = .ok (.getfield 61, 3) := by decide +kernel
theorem dX6_copyFrom_207 : decode cX6_copyFrom 207 = .ok (.iload_n 2, 1) := by decide +kernel
theorem dX6_copyFrom_208 : decode cX6_copyFrom 208 = .ok (.invokevirtual 92, 3) := by decide +kernel
theorem dX6_copyFrom_211 : decode cX6_copyFrom 211 = .ok (.return_, 1) := by decide +kernel
theorem dX6_isActive_0 : decode cX6_isActive 0 = .ok (.aload_n 0, 1) := by decide +kernel
theorem dX6_isActive_1 : decode cX6_isActive 1 = .ok (.getfield 46, 3) := by decide +kernel
theorem dX6_isActive_4 : decode cX6_isActive 4 = .ok (.iload_n 1, 1) := by decide +kernel
theorem dX6_isActive_5 : decode cX6_isActive 5 = .ok (.iaload, 1) := by decide +kernel
theorem dX6_isActive_6 : decode cX6_isActive 6 = .ok (.ifCond .le 7, 3) := by decide +kernel
theorem dX6_isActive_9 : decode cX6_isActive 9 = .ok (.iconst 1, 1) := by decide +kernel
theorem dX6_isActive_10 : decode cX6_isActive 10 = .ok (.goto 4, 3) := by decide +kernel
theorem dX6_isActive_13 : decode cX6_isActive 13 = .ok (.iconst 0, 1) := by decide +kernel
theorem dX6_isActive_14 : decode cX6_isActive 14 = .ok (.ireturn, 1) := by decide +kernel
theorem dX6_hasCurve_0 : decode cX6_hasCurve 0 = .ok (.aload_n 0, 1) := by decide +kernel
theorem dX6_hasCurve_1 : decode cX6_hasCurve 1 = .ok (.getfield 61, 3) := by decide +kernel
theorem dX6_hasCurve_4 : decode cX6_hasCurve 4 = .ok (.iload_n 1, 1) := by decide +kernel
theorem dX6_hasCurve_5 : decode cX6_hasCurve 5 = .ok (.iconst 3, 1) := by decide +kernel
theorem dX6_hasCurve_6 : decode cX6_hasCurve 6 = .ok (.imul, 1) := by decide +kernel
theorem dX6_hasCurve_7 : decode cX6_hasCurve 7 = .ok (.iload_n 2, 1) := by decide +kernel
theorem dX6_hasCurve_8 : decode cX6_hasCurve 8 = .ok (.iadd, 1) := by decide +kernel
theorem dX6_hasCurve_9 : decode cX6_hasCurve 9 = .ok (.invokevirtual 102, 3) := by decide +kernel
theorem dX6_hasCurve_12 : decode cX6_hasCurve 12 = .ok (.ireturn, 1) := by decide +kernel
theorem dX6_packets_0 : decode cX6_packets 0 = .ok (.aload_n 0, 1) := by decide +kernel
theorem dX6_packets_1 : decode cX6_packets 1 = .ok (.getfield 68, 3) := by decide +kernel
theorem dX6_packets_4 : decode cX6_packets 4 = .ok (.iload_n 1, 1) := by decide +kernel
theorem dX6_packets_5 : decode cX6_packets 5 = .ok (.invokevirtual 106, 3) := by decide +kernel
theorem dX6_packets_8 : decode cX6_packets 8 = .ok (.ifCond .eq 12, 3) := by decide +kernel
theorem dX6_packets_11 : decode cX6_packets 11 = .ok (.aload_n 0, 1) := by decide +kernel
theorem dX6_packets_12 : decode cX6_packets 12 = .ok (.getfield 46, 3) := by decide +kernel
theorem dX6_packets_15 : decode cX6_packets 15 = .ok (.iload_n 1, 1) := by decide +kernel
theorem dX6_packets_16 : decode cX6_packets 16 = .ok (.iaload, 1) := by decide +kernel
theorem dX6_packets_17 : decode cX6_packets 17 = .ok (.goto 4, 3) := by decide +kernel
theorem dX6_packets_20 : decode cX6_packets 20 = .ok (.iconst 0, 1) := by decide +kernel
theorem dX6_packets_21 : decode cX6_packets 21 = .ok (.ireturn, 1) := by decide +kernel
theorem dX6_sizeOf_0 : decode cX6_sizeOf 0 = .ok (.aload_n 0, 1) := by decide +kernel
theorem dX6_sizeOf_1 : decode cX6_sizeOf 1 = .ok (.getfield 49, 3) := by decide +kernel
theorem dX6_sizeOf_4 : decode cX6_sizeOf 4 = .ok (.iload_n 1, 1) := by decide +kernel
theorem dX6_sizeOf_5 : decode cX6_sizeOf 5 = .ok (.bipush 20, 2) := by decide +kernel
theorem dX6_sizeOf_7 : decode cX6_sizeOf 7 = .ok (.imul, 1) := by decide +kernel
theorem dX6_sizeOf_8 : decode cX6_sizeOf 8 = .ok (.aload_n 0, 1) := by decide +kernel
theorem dX6_sizeOf_9 : decode cX6_sizeOf 9 = .ok (.getfield 52, 3) := by decide +kernel
theorem dX6_sizeOf_12 : decode cX6_sizeOf 12 = .ok (.iload_n 1, 1) := by decide +kernel
theorem dX6_sizeOf_13 : decode cX6_sizeOf 13 = .ok (.iaload, 1) := by decide +kernel
theorem dX6_sizeOf_14 : decode cX6_sizeOf 14 = .ok (.iload_n 2, 1) := by decide +kernel
theorem dX6_sizeOf_15 : decode cX6_sizeOf 15 = .ok (.iadd, 1) := by decide +kernel
theorem dX6_sizeOf_16 : decode cX6_sizeOf 16 = .ok (.bipush 20, 2) := by decide +kernel
theorem dX6_sizeOf_18 : decode cX6_sizeOf 18 = .ok (.irem, 1) := by decide +kernel
theorem dX6_sizeOf_19 : decode cX6_sizeOf 19 = .ok (.iadd, 1) := by decide +kernel
theorem dX6_sizeOf_20 : decode cX6_sizeOf 20 = .ok (.iaload, 1) := by decide +kernel
theorem dX6_sizeOf_21 : decode cX6_sizeOf 21 = .ok (.ireturn, 1) := by decide +kernel
theorem dX6_bytes_0 : decode cX6_bytes 0 = .ok (.iconst 0, 1) := by decide +kernel
theorem dX6_bytes_1 : decode cX6_bytes 1 = .ok (.istore_n 2, 1) := by decide +kernel
theorem dX6_bytes_2 : decode cX6_bytes 2 = .ok (.iconst 0, 1) := by decide +kernel
theorem dX6_bytes_3 : decode cX6_bytes 3 = .ok (.istore_n 3, 1) := by decide +kernel
theorem dX6_bytes_4 : decode cX6_bytes 4 = .ok (.iload_n 3, 1) := by decide +kernel
theorem dX6_bytes_5 : decode cX6_bytes 5 = .ok (.aload_n 0, 1) := by decide +kernel
theorem dX6_bytes_6 : decode cX6_bytes 6 = .ok (.iload_n 1, 1) := by decide +kernel
theorem dX6_bytes_7 : decode cX6_bytes 7 = .ok (.invokevirtual 109, 3) := by decide +kernel
theorem dX6_bytes_10 : decode cX6_bytes 10 = .ok (.if_icmp .ge 18, 3) := by decide +kernel
theorem dX6_bytes_13 : decode cX6_bytes 13 = .ok (.iload_n 2, 1) := by decide +kernel
theorem dX6_bytes_14 : decode cX6_bytes 14 = .ok (.aload_n 0, 1) := by decide +kernel
theorem dX6_bytes_15 : decode cX6_bytes 15 = .ok (.iload_n 1, 1) := by decide +kernel
theorem dX6_bytes_16 : decode cX6_bytes 16 = .ok (.iload_n 3, 1) := by decide +kernel
theorem dX6_bytes_17 : decode cX6_bytes 17 = .ok (.invokevirtual 113, 3) := by decide +kernel
theorem dX6_bytes_20 : decode cX6_bytes 20 = .ok (.iadd, 1) := by decide +kernel
theorem dX6_bytes_21 : decode cX6_bytes 21 = .ok (.istore_n 2, 1) := by decide +kernel
theorem dX6_bytes_22 : decode cX6_bytes 22 = .ok (.iinc 3 1, 3) := by decide +kernel
theorem dX6_bytes_25 : decode cX6_bytes 25 = .ok (.goto (-21), 3) := by decide +kernel
theorem dX6_bytes_28 : decode cX6_bytes 28 = .ok (.iload_n 2, 1) := by decide +kernel
theorem dX6_bytes_29 : decode cX6_bytes 29 = .ok (.ireturn, 1) := by decide +kernel
theorem dX6_activeLeaves_0 : decode cX6_activeLeaves 0 = .ok (.iconst 0, 1) := by decide +kernel
theorem dX6_activeLeaves_1 : decode cX6_activeLeaves 1 = .ok (.istore_n 1, 1) := by decide +kernel
theorem dX6_activeLeaves_2 : decode cX6_activeLeaves 2 = .ok (.iconst 0, 1) := by decide +kernel
theorem dX6_activeLeaves_3 : decode cX6_activeLeaves 3 = .ok (.istore_n 2, 1) := by decide +kernel
theorem dX6_activeLeaves_4 : decode cX6_activeLeaves 4 = .ok (.iload_n 2, 1) := by decide +kernel
theorem dX6_activeLeaves_5 : decode cX6_activeLeaves 5 = .ok (.aload_n 0, 1) := by decide +kernel
theorem dX6_activeLeaves_6 : decode cX6_activeLeaves 6 = .ok (.getfield 68, 3) := by decide +kernel
theorem dX6_activeLeaves_9 : decode cX6_activeLeaves 9 = .ok (.getfield 96, 3) := by decide +kernel
theorem dX6_activeLeaves_12 : decode cX6_activeLeaves 12 = .ok (.if_icmp .ge 25, 3) := by decide +kernel
theorem dX6_activeLeaves_15 : decode cX6_activeLeaves 15 = .ok (.iload_n 1, 1) := by decide +kernel
theorem dX6_activeLeaves_16 : decode cX6_activeLeaves 16 = .ok (.aload_n 0, 1) := by decide +kernel
theorem dX6_activeLeaves_17 : decode cX6_activeLeaves 17 = .ok (.iload_n 2, 1) := by decide +kernel
theorem dX6_activeLeaves_18 : decode cX6_activeLeaves 18 = .ok (.invokevirtual 109, 3) := by decide +kernel
theorem dX6_activeLeaves_21 : decode cX6_activeLeaves 21 = .ok (.ifCond .le 7, 3) := by decide +kernel
theorem dX6_activeLeaves_24 : decode cX6_activeLeaves 24 = .ok (.iconst 1, 1) := by decide +kernel
theorem dX6_activeLeaves_25 : decode cX6_activeLeaves 25 = .ok (.goto 4, 3) := by decide +kernel
theorem dX6_activeLeaves_28 : decode cX6_activeLeaves 28 = .ok (.iconst 0, 1) := by decide +kernel
theorem dX6_activeLeaves_29 : decode cX6_activeLeaves 29 = .ok (.iadd, 1) := by decide +kernel
theorem dX6_activeLeaves_30 : decode cX6_activeLeaves 30 = .ok (.istore_n 1, 1) := by decide +kernel
theorem dX6_activeLeaves_31 : decode cX6_activeLeaves 31 = .ok (.iinc 2 1, 3) := by decide +kernel
theorem dX6_activeLeaves_34 : decode cX6_activeLeaves 34 = .ok (.goto (-30), 3) := by decide +kernel
theorem dX6_activeLeaves_37 : decode cX6_activeLeaves 37 = .ok (.iload_n 1, 1) := by decide +kernel
theorem dX6_activeLeaves_38 : decode cX6_activeLeaves 38 = .ok (.ireturn, 1) := by decide +kernel
theorem dX6_allLost_0 : decode cX6_allLost 0 = .ok (.iconst 0, 1) := by decide +kernel
theorem dX6_allLost_1 : decode cX6_allLost 1 = .ok (.istore_n 1, 1) := by decide +kernel
theorem dX6_allLost_2 : decode cX6_allLost 2 = .ok (.iconst 0, 1) := by decide +kernel
theorem dX6_allLost_3 : decode cX6_allLost 3 = .ok (.istore_n 2, 1) := by decide +kernel
theorem dX6_allLost_4 : decode cX6_allLost 4 = .ok (.iload_n 2, 1) := by decide +kernel
theorem dX6_allLost_5 : decode cX6_allLost 5 = .ok (.aload_n 0, 1) := by decide +kernel
theorem dX6_allLost_6 : decode cX6_allLost 6 = .ok (.getfield 68, 3) := by decide +kernel
theorem dX6_allLost_9 : decode cX6_allLost 9 = .ok (.getfield 96, 3) := by decide +kernel
theorem dX6_allLost_12 : decode cX6_allLost 12 = .ok (.if_icmp .ge 18, 3) := by decide +kernel
theorem dX6_allLost_15 : decode cX6_allLost 15 = .ok (.iload_n 1, 1) := by decide +kernel
theorem dX6_allLost_16 : decode cX6_allLost 16 = .ok (.aload_n 0, 1) := by decide +kernel
theorem dX6_allLost_17 : decode cX6_allLost 17 = .ok (.getfield 43, 3) := by decide +kernel
theorem dX6_allLost_20 : decode cX6_allLost 20 = .ok (.iload_n 2, 1) := by decide +kernel
theorem dX6_allLost_21 : decode cX6_allLost 21 = .ok (.iaload, 1) := by decide +kernel
theorem dX6_allLost_22 : decode cX6_allLost 22 = .ok (.iadd, 1) := by decide +kernel
theorem dX6_allLost_23 : decode cX6_allLost 23 = .ok (.istore_n 1, 1) := by decide +kernel
theorem dX6_allLost_24 : decode cX6_allLost 24 = .ok (.iinc 2 1, 3) := by decide +kernel
theorem dX6_allLost_27 : decode cX6_allLost 27 = .ok (.goto (-23), 3) := by decide +kernel
theorem dX6_allLost_30 : decode cX6_allLost 30 = .ok (.iload_n 1, 1) := by decide +kernel
theorem dX6_allLost_31 : decode cX6_allLost 31 = .ok (.ireturn, 1) := by decide +kernel
theorem dX6_allSent_0 : decode cX6_allSent 0 = .ok (.iconst 0, 1) := by decide +kernel
theorem dX6_allSent_1 : decode cX6_allSent 1 = .ok (.istore_n 1, 1) := by decide +kernel
theorem dX6_allSent_2 : decode cX6_allSent 2 = .ok (.iconst 0, 1) := by decide +kernel
theorem dX6_allSent_3 : decode cX6_allSent 3 = .ok (.istore_n 2, 1) := by decide +kernel
theorem dX6_allSent_4 : decode cX6_allSent 4 = .ok (.iload_n 2, 1) := by decide +kernel
theorem dX6_allSent_5 : decode cX6_allSent 5 = .ok (.aload_n 0, 1) := by decide +kernel
theorem dX6_allSent_6 : decode cX6_allSent 6 = .ok (.getfield 68, 3) := by decide +kernel
theorem dX6_allSent_9 : decode cX6_allSent 9 = .ok (.getfield 117, 3) := by decide +kernel
theorem dX6_allSent_12 : decode cX6_allSent 12 = .ok (.bipush 12, 2) := by decide +kernel
theorem dX6_allSent_14 : decode cX6_allSent 14 = .ok (.iaload, 1) := by decide +kernel
theorem dX6_allSent_15 : decode cX6_allSent 15 = .ok (.if_icmp .ge 30, 3) := by decide +kernel
theorem dX6_allSent_18 : decode cX6_allSent 18 = .ok (.iload_n 1, 1) := by decide +kernel
theorem dX6_allSent_19 : decode cX6_allSent 19 = .ok (.aload_n 0, 1) := by decide +kernel
theorem dX6_allSent_20 : decode cX6_allSent 20 = .ok (.getfield 30, 3) := by decide +kernel
theorem dX6_allSent_23 : decode cX6_allSent 23 = .ok (.aload_n 0, 1) := by decide +kernel
theorem dX6_allSent_24 : decode cX6_allSent 24 = .ok (.getfield 68, 3) := by decide +kernel
theorem dX6_allSent_27 : decode cX6_allSent 27 = .ok (.getfield 120, 3) := by decide +kernel
theorem dX6_allSent_30 : decode cX6_allSent 30 = .ok (.sipush 144, 3) := by decide +kernel
theorem dX6_allSent_33 : decode cX6_allSent 33 = .ok (.iload_n 2, 1) := by decide +kernel
theorem dX6_allSent_34 : decode cX6_allSent 34 = .ok (.iadd, 1) := by decide +kernel
theorem dX6_allSent_35 : decode cX6_allSent 35 = .ok (.iaload, 1) := by decide +kernel
theorem dX6_allSent_36 : decode cX6_allSent 36 = .ok (.iaload, 1) := by decide +kernel
theorem dX6_allSent_37 : decode cX6_allSent 37 = .ok (.iadd, 1) := by decide +kernel
theorem dX6_allSent_38 : decode cX6_allSent 38 = .ok (.istore_n 1, 1) := by decide +kernel
theorem dX6_allSent_39 : decode cX6_allSent 39 = .ok (.iinc 2 1, 3) := by decide +kernel
theorem dX6_allSent_42 : decode cX6_allSent 42 = .ok (.goto (-38), 3) := by decide +kernel
theorem dX6_allSent_45 : decode cX6_allSent 45 = .ok (.iload_n 1, 1) := by decide +kernel
theorem dX6_allSent_46 : decode cX6_allSent 46 = .ok (.ireturn, 1) := by decide +kernel
theorem dX6_eligible_0 : decode cX6_eligible 0 = .ok (.iload_n 1, 1) := by decide +kernel
theorem dX6_eligible_1 : decode cX6_eligible 1 = .ok (.iconst 3, 1) := by decide +kernel
theorem dX6_eligible_2 : decode cX6_eligible 2 = .ok (.imul, 1) := by decide +kernel
theorem dX6_eligible_3 : decode cX6_eligible 3 = .ok (.iconst 0, 1) := by decide +kernel
theorem dX6_eligible_4 : decode cX6_eligible 4 = .ok (.iadd, 1) := by decide +kernel
theorem dX6_eligible_5 : decode cX6_eligible 5 = .ok (.istore_n 2, 1) := by decide +kernel
theorem dX6_eligible_6 : decode cX6_eligible 6 = .ok (.aload_n 0, 1) := by decide +kernel
theorem dX6_eligible_7 : decode cX6_eligible 7 = .ok (.getfield 61, 3) := by decide +kernel
theorem dX6_eligible_10 : decode cX6_eligible 10 = .ok (.getfield 123, 3) := by decide +kernel
theorem dX6_eligible_13 : decode cX6_eligible 13 = .ok (.iload_n 2, 1) := by decide +kernel
theorem dX6_eligible_14 : decode cX6_eligible 14 = .ok (.iaload, 1) := by decide +kernel
theorem dX6_eligible_15 : decode cX6_eligible 15 = .ok (.istore_n 3, 1) := by decide +kernel
theorem dX6_eligible_16 : decode cX6_eligible 16 = .ok (.aload_n 0, 1) := by decide +kernel
theorem dX6_eligible_17 : decode cX6_eligible 17 = .ok (.getfield 61, 3) := by decide +kernel
theorem dX6_eligible_20 : decode cX6_eligible 20 = .ok (.getfield 126, 3) := by decide +kernel
theorem dX6_eligible_23 : decode cX6_eligible 23 = .ok (.iload_n 2, 1) := by decide +kernel
theorem dX6_eligible_24 : decode cX6_eligible 24 = .ok (.iaload, 1) := by decide +kernel
theorem dX6_eligible_25 : decode cX6_eligible 25 = .ok (.istore 4, 2) := by decide +kernel
theorem dX6_eligible_27 : decode cX6_eligible 27 = .ok (.aload_n 0, 1) := by decide +kernel
theorem dX6_eligible_28 : decode cX6_eligible 28 = .ok (.getfield 61, 3) := by decide +kernel
theorem dX6_eligible_31 : decode cX6_eligible 31 = .ok (.iload_n 2, 1) := by decide +kernel
theorem dX6_eligible_32 : decode cX6_eligible 32 = .ok (.aload_n 0, 1) := by decide +kernel
theorem dX6_eligible_33 : decode cX6_eligible 33 = .ok (.getfield 34, 3) := by decide +kernel
theorem dX6_eligible_36 : decode cX6_eligible 36 = .ok (.iload_n 1, 1) := by decide +kernel
theorem dX6_eligible_37 : decode cX6_eligible 37 = .ok (.iaload, 1) := by decide +kernel
theorem dX6_eligible_38 : decode cX6_eligible 38 = .ok (.iload_n 3, 1) := by decide +kernel
theorem dX6_eligible_39 : decode cX6_eligible 39 = .ok (.iload 4, 2) := by decide +kernel
theorem dX6_eligible_41 : decode cX6_eligible 41 = .ok (.if_icmp .ge 8, 3) := by decide +kernel
theorem dX6_eligible_44 : decode cX6_eligible 44 = .ok (.iload 4, 2) := by decide +kernel
theorem dX6_eligible_46 : decode cX6_eligible 46 = .ok (.goto 4, 3) := by decide +kernel
theorem dX6_eligible_49 : decode cX6_eligible 49 = .ok (.iload_n 3, 1) := by decide +kernel
theorem dX6_eligible_50 : decode cX6_eligible 50 = .ok (.invokevirtual 129, 3) := by decide +kernel
theorem dX6_eligible_53 : decode cX6_eligible 53 = .ok (.ireturn, 1) := by decide +kernel
theorem dX6_deadline_0 : decode cX6_deadline 0 = .ok (.iload_n 1, 1) := by decide +kernel
theorem dX6_deadline_1 : decode cX6_deadline 1 = .ok (.iconst 3, 1) := by decide +kernel
theorem dX6_deadline_2 : decode cX6_deadline 2 = .ok (.imul, 1) := by decide +kernel
theorem dX6_deadline_3 : decode cX6_deadline 3 = .ok (.iconst 0, 1) := by decide +kernel
theorem dX6_deadline_4 : decode cX6_deadline 4 = .ok (.iadd, 1) := by decide +kernel
theorem dX6_deadline_5 : decode cX6_deadline 5 = .ok (.istore_n 2, 1) := by decide +kernel
theorem dX6_deadline_6 : decode cX6_deadline 6 = .ok (.aload_n 0, 1) := by decide +kernel
theorem dX6_deadline_7 : decode cX6_deadline 7 = .ok (.getfield 61, 3) := by decide +kernel
theorem dX6_deadline_10 : decode cX6_deadline 10 = .ok (.iload_n 2, 1) := by decide +kernel
theorem dX6_deadline_11 : decode cX6_deadline 11 = .ok (.aload_n 0, 1) := by decide +kernel
theorem dX6_deadline_12 : decode cX6_deadline 12 = .ok (.getfield 34, 3) := by decide +kernel
theorem dX6_deadline_15 : decode cX6_deadline 15 = .ok (.iload_n 1, 1) := by decide +kernel
theorem dX6_deadline_16 : decode cX6_deadline 16 = .ok (.iaload, 1) := by decide +kernel
theorem dX6_deadline_17 : decode cX6_deadline 17 = .ok (.aload_n 0, 1) := by decide +kernel
theorem dX6_deadline_18 : decode cX6_deadline 18 = .ok (.iload_n 1, 1) := by decide +kernel
theorem dX6_deadline_19 : decode cX6_deadline 19 = .ok (.iconst 0, 1) := by decide +kernel
theorem dX6_deadline_20 : decode cX6_deadline 20 = .ok (.invokevirtual 113, 3) := by decide +kernel
theorem dX6_deadline_23 : decode cX6_deadline 23 = .ok (.iadd, 1) := by decide +kernel
theorem dX6_deadline_24 : decode cX6_deadline 24 = .ok (.aload_n 0, 1) := by decide +kernel
theorem dX6_deadline_25 : decode cX6_deadline 25 = .ok (.getfield 61, 3) := by decide +kernel
theorem dX6_deadline_28 : decode cX6_deadline 28 = .ok (.getfield 123, 3) := by decide +kernel
theorem dX6_deadline_31 : decode cX6_deadline 31 = .ok (.iload_n 2, 1) := by decide +kernel
theorem dX6_deadline_32 : decode cX6_deadline 32 = .ok (.iaload, 1) := by decide +kernel
theorem dX6_deadline_33 : decode cX6_deadline 33 = .ok (.invokevirtual 129, 3) := by decide +kernel
theorem dX6_deadline_36 : decode cX6_deadline 36 = .ok (.ireturn, 1) := by decide +kernel
theorem dX6_fitOf_0 : decode cX6_fitOf 0 = .ok (.aload_n 0, 1) := by decide +kernel
theorem dX6_fitOf_1 : decode cX6_fitOf 1 = .ok (.invokevirtual 133, 3) := by decide +kernel
theorem dX6_fitOf_4 : decode cX6_fitOf 4 = .ok (.aload_n 0, 1) := by decide +kernel
theorem dX6_fitOf_5 : decode cX6_fitOf 5 = .ok (.getfield 65, 3) := by decide +kernel
theorem dX6_fitOf_8 : decode cX6_fitOf 8 = .ok (.iload_n 1, 1) := by decide +kernel
theorem dX6_fitOf_9 : decode cX6_fitOf 9 = .ok (.iaload, 1) := by decide +kernel
theorem dX6_fitOf_10 : decode cX6_fitOf 10 = .ok (.ireturn, 1) := by decide +kernel
theorem dX6_weighFits_0 : decode cX6_weighFits 0 = .ok (.iconst 0, 1) := by decide +kernel
theorem dX6_weighFits_1 : decode cX6_weighFits 1 = .ok (.istore_n 1, 1) := by decide +kernel
theorem dX6_weighFits_2 : decode cX6_weighFits 2 = .ok (.iload_n 1, 1) := by decide +kernel
theorem dX6_weighFits_3 : decode cX6_weighFits 3 = .ok (.bipush 12, 2) := by decide +kernel
theorem dX6_weighFits_5 : decode cX6_weighFits 5 = .ok (.if_icmp .gt 32, 3) := by decide +kernel
theorem dX6_weighFits_8 : decode cX6_weighFits 8 = .ok (.aload_n 0, 1) := by decide +kernel
theorem dX6_weighFits_9 : decode cX6_weighFits 9 = .ok (.getfield 65, 3) := by decide +kernel
theorem dX6_weighFits_12 : decode cX6_weighFits 12 = .ok (.iload_n 1, 1) := by decide +kernel
theorem dX6_weighFits_13 : decode cX6_weighFits 13 = .ok (.aload_n 0, 1) := by decide +kernel
theorem dX6_weighFits_14 : decode cX6_weighFits 14 = .ok (.getfield 68, 3) := by decide +kernel
theorem dX6_weighFits_17 : decode cX6_weighFits 17 = .ok (.iload_n 1, 1) := by decide +kernel
theorem dX6_weighFits_18 : decode cX6_weighFits 18 = .ok (.invokevirtual 106, 3) := by decide +kernel
theorem dX6_weighFits_21 : decode cX6_weighFits 21 = .ok (.ifCond .eq 7, 3) := by decide +kernel
theorem dX6_weighFits_24 : decode cX6_weighFits 24 = .ok (.iconst 0, 1) := by decide +kernel
theorem dX6_weighFits_25 : decode cX6_weighFits 25 = .ok (.goto 5, 3) := by decide +kernel
theorem dX6_weighFits_28 : decode cX6_weighFits 28 = .ok (.ldc 136, 2) := by decide +kernel
theorem dX6_weighFits_30 : decode cX6_weighFits 30 = .ok (.iastore, 1) := by decide +kernel
theorem dX6_weighFits_31 : decode cX6_weighFits 31 = .ok (.iinc 1 1, 3) := by decide +kernel
theorem dX6_weighFits_34 : decode cX6_weighFits 34 = .ok (.goto (-32), 3) := by decide +kernel
theorem dX6_weighFits_37 : decode cX6_weighFits 37 = .ok (.aload_n 0, 1) := by decide +kernel
theorem dX6_weighFits_38 : decode cX6_weighFits 38 = .ok (.getfield 68, 3) := by decide +kernel
theorem dX6_weighFits_41 : decode cX6_weighFits 41 = .ok (.getfield 96, 3) := by decide +kernel
theorem dX6_weighFits_44 : decode cX6_weighFits 44 = .ok (.iconst 1, 1) := by decide +kernel
theorem dX6_weighFits_45 : decode cX6_weighFits 45 = .ok (.isub, 1) := by decide +kernel
theorem dX6_weighFits_46 : decode cX6_weighFits 46 = .ok (.istore_n 1, 1) := by decide +kernel
theorem dX6_weighFits_47 : decode cX6_weighFits 47 = .ok (.iload_n 1, 1) := by decide +kernel
theorem dX6_weighFits_48 : decode cX6_weighFits 48 = .ok (.ifCond .lt 139, 3) := by decide +kernel
theorem dX6_weighFits_51 : decode cX6_weighFits 51 = .ok (.aload_n 0, 1) := by decide +kernel
theorem dX6_weighFits_52 : decode cX6_weighFits 52 = .ok (.getfield 46, 3) := by decide +kernel
theorem dX6_weighFits_55 : decode cX6_weighFits 55 = .ok (.iload_n 1, 1) := by decide +kernel
theorem dX6_weighFits_56 : decode cX6_weighFits 56 = .ok (.iaload, 1) := by decide +kernel
theorem dX6_weighFits_57 : decode cX6_weighFits 57 = .ok (.ifCond .le 124, 3) := by decide +kernel
theorem dX6_weighFits_60 : decode cX6_weighFits 60 = .ok (.iload_n 1, 1) := by decide +kernel
theorem dX6_weighFits_61 : decode cX6_weighFits 61 = .ok (.iconst 3, 1) := by decide +kernel
theorem dX6_weighFits_62 : decode cX6_weighFits 62 = .ok (.imul, 1) := by decide +kernel
theorem dX6_weighFits_63 : decode cX6_weighFits 63 = .ok (.iconst 2, 1) := by decide +kernel
theorem dX6_weighFits_64 : decode cX6_weighFits 64 = .ok (.iadd, 1) := by decide +kernel
theorem dX6_weighFits_65 : decode cX6_weighFits 65 = .ok (.istore_n 2, 1) := by decide +kernel
theorem dX6_weighFits_66 : decode cX6_weighFits 66 = .ok (.aload_n 0, 1) := by decide +kernel
theorem dX6_weighFits_67 : decode cX6_weighFits 67 = .ok (.getfield 61, 3) := by decide +kernel
theorem dX6_weighFits_70 : decode cX6_weighFits 70 = .ok (.iload_n 2, 1) := by decide +kernel
theorem dX6_weighFits_71 : decode cX6_weighFits 71 = .ok (.invokevirtual 102, 3) := by decide +kernel
theorem dX6_weighFits_74 : decode cX6_weighFits 74 = .ok (.ifCond .eq 29, 3) := by decide +kernel
theorem dX6_weighFits_77 : decode cX6_weighFits 77 = .ok (.aload_n 0, 1) := by decide +kernel
theorem dX6_weighFits_78 : decode cX6_weighFits 78 = .ok (.getfield 61, 3) := by decide +kernel
theorem dX6_weighFits_81 : decode cX6_weighFits 81 = .ok (.iload_n 2, 1) := by decide +kernel
theorem dX6_weighFits_82 : decode cX6_weighFits 82 = .ok (.aload_n 0, 1) := by decide +kernel
theorem dX6_weighFits_83 : decode cX6_weighFits 83 = .ok (.getfield 30, 3) := by decide +kernel
theorem dX6_weighFits_86 : decode cX6_weighFits 86 = .ok (.iload_n 1, 1) := by decide +kernel
theorem dX6_weighFits_87 : decode cX6_weighFits 87 = .ok (.iaload, 1) := by decide +kernel
theorem dX6_weighFits_88 : decode cX6_weighFits 88 = .ok (.aload_n 0, 1) := by decide +kernel
theorem dX6_weighFits_89 : decode cX6_weighFits 89 = .ok (.getfield 61, 3) := by decide +kernel
theorem dX6_weighFits_92 : decode cX6_weighFits 92 = .ok (.getfield 123, 3) := by decide +kernel
theorem dX6_weighFits_95 : decode cX6_weighFits 95 = .ok (.iload_n 2, 1) := by decide +kernel
theorem dX6_weighFits_96 : decode cX6_weighFits 96 = .ok (.iaload, 1) := by decide +kernel
theorem dX6_weighFits_97 : decode cX6_weighFits 97 = .ok (.invokevirtual 129, 3) := by decide +kernel
theorem dX6_weighFits_100 : decode cX6_weighFits 100 = .ok (.goto 4, 3) := by decide +kernel
theorem dX6_weighFits_103 : decode cX6_weighFits 103 = .ok (.iconst 0, 1) := by decide +kernel
theorem dX6_weighFits_104 : decode cX6_weighFits 104 = .ok (.istore_n 3, 1) := by decide +kernel
theorem dX6_weighFits_105 : decode cX6_weighFits 105 = .ok (.aload_n 0, 1) := by decide +kernel
theorem dX6_weighFits_106 : decode cX6_weighFits 106 = .ok (.getfield 65, 3) := by decide +kernel
theorem dX6_weighFits_109 : decode cX6_weighFits 109 = .ok (.iload_n 1, 1) := by decide +kernel
theorem dX6_weighFits_110 : decode cX6_weighFits 110 = .ok (.iload_n 3, 1) := by decide +kernel
theorem dX6_weighFits_111 : decode cX6_weighFits 111 = .ok (.aload_n 0, 1) := by decide +kernel
theorem dX6_weighFits_112 : decode cX6_weighFits 112 = .ok (.getfield 65, 3) := by decide +kernel
theorem dX6_weighFits_115 : decode cX6_weighFits 115 = .ok (.iload_n 1, 1) := by decide +kernel
theorem dX6_weighFits_116 : decode cX6_weighFits 116 = .ok (.iaload, 1) := by decide +kernel
theorem dX6_weighFits_117 : decode cX6_weighFits 117 = .ok (.if_icmp .le 7, 3) := by decide +kernel
theorem dX6_weighFits_120 : decode cX6_weighFits 120 = .ok (.iload_n 3, 1) := by decide +kernel
theorem dX6_weighFits_121 : decode cX6_weighFits 121 = .ok (.goto 9, 3) := by decide +kernel
theorem dX6_weighFits_124 : decode cX6_weighFits 124 = .ok (.aload_n 0, 1) := by decide +kernel
theorem dX6_weighFits_125 : decode cX6_weighFits 125 = .ok (.getfield 65, 3) := by decide +kernel
theorem dX6_weighFits_128 : decode cX6_weighFits 128 = .ok (.iload_n 1, 1) := by decide +kernel
theorem dX6_weighFits_129 : decode cX6_weighFits 129 = .ok (.iaload, 1) := by decide +kernel
theorem dX6_weighFits_130 : decode cX6_weighFits 130 = .ok (.iastore, 1) := by decide +kernel
theorem dX6_weighFits_131 : decode cX6_weighFits 131 = .ok (.aload_n 0, 1) := by decide +kernel
theorem dX6_weighFits_132 : decode cX6_weighFits 132 = .ok (.getfield 68, 3) := by decide +kernel
theorem dX6_weighFits_135 : decode cX6_weighFits 135 = .ok (.getfield 137, 3) := by decide +kernel
theorem dX6_weighFits_138 : decode cX6_weighFits 138 = .ok (.iload_n 1, 1) := by decide +kernel
theorem dX6_weighFits_139 : decode cX6_weighFits 139 = .ok (.iaload, 1) := by decide +kernel
theorem dX6_weighFits_140 : decode cX6_weighFits 140 = .ok (.istore 4, 2) := by decide +kernel
theorem dX6_weighFits_142 : decode cX6_weighFits 142 = .ok (.aload_n 0, 1) := by decide +kernel
theorem dX6_weighFits_143 : decode cX6_weighFits 143 = .ok (.getfield 65, 3) := by decide +kernel
theorem dX6_weighFits_146 : decode cX6_weighFits 146 = .ok (.iload 4, 2) := by decide +kernel
theorem dX6_weighFits_148 : decode cX6_weighFits 148 = .ok (.aload_n 0, 1) := by decide +kernel
theorem dX6_weighFits_149 : decode cX6_weighFits 149 = .ok (.getfield 65, 3) := by decide +kernel
theorem dX6_weighFits_152 : decode cX6_weighFits 152 = .ok (.iload_n 1, 1) := by decide +kernel
theorem dX6_weighFits_153 : decode cX6_weighFits 153 = .ok (.iaload, 1) := by decide +kernel
theorem dX6_weighFits_154 : decode cX6_weighFits 154 = .ok (.aload_n 0, 1) := by decide +kernel
theorem dX6_weighFits_155 : decode cX6_weighFits 155 = .ok (.getfield 65, 3) := by decide +kernel
theorem dX6_weighFits_158 : decode cX6_weighFits 158 = .ok (.iload 4, 2) := by decide +kernel
theorem dX6_weighFits_160 : decode cX6_weighFits 160 = .ok (.iaload, 1) := by decide +kernel
theorem dX6_weighFits_161 : decode cX6_weighFits 161 = .ok (.if_icmp .ge 12, 3) := by decide +kernel
theorem dX6_weighFits_164 : decode cX6_weighFits 164 = .ok (.aload_n 0, 1) := by decide +kernel
theorem dX6_weighFits_165 : decode cX6_weighFits 165 = .ok (.getfield 65, 3) := by decide +kernel
theorem dX6_weighFits_168 : decode cX6_weighFits 168 = .ok (.iload_n 1, 1) := by decide +kernel
theorem dX6_weighFits_169 : decode cX6_weighFits 169 = .ok (.iaload, 1) := by decide +kernel
theorem dX6_weighFits_170 : decode cX6_weighFits 170 = .ok (.goto 10, 3) := by decide +kernel
theorem dX6_weighFits_173 : decode cX6_weighFits 173 = .ok (.aload_n 0, 1) := by decide +kernel
theorem dX6_weighFits_174 : decode cX6_weighFits 174 = .ok (.getfield 65, 3) := by decide +kernel
theorem dX6_weighFits_177 : decode cX6_weighFits 177 = .ok (.iload 4, 2) := by decide +kernel
theorem dX6_weighFits_179 : decode cX6_weighFits 179 = .ok (.iaload, 1) := by decide +kernel
theorem dX6_weighFits_180 : decode cX6_weighFits 180 = .ok (.iastore, 1) := by decide +kernel
theorem dX6_weighFits_181 : decode cX6_weighFits 181 = .ok (.iinc 1 (-1), 3) := by decide +kernel
theorem dX6_weighFits_184 : decode cX6_weighFits 184 = .ok (.goto (-137), 3) := by decide +kernel
theorem dX6_weighFits_187 : decode cX6_weighFits 187 = .ok (.return_, 1) := by decide +kernel
theorem dX6_accept_0 : decode cX6_accept 0 = .ok (.aload_n 0, 1) := by decide +kernel
theorem dX6_accept_1 : decode cX6_accept 1 = .ok (.getfield 46, 3) := by decide +kernel
theorem dX6_accept_4 : decode cX6_accept 4 = .ok (.iload_n 1, 1) := by decide +kernel
theorem dX6_accept_5 : decode cX6_accept 5 = .ok (.iaload, 1) := by decide +kernel
theorem dX6_accept_6 : decode cX6_accept 6 = .ok (.bipush 20, 2) := by decide +kernel
theorem dX6_accept_8 : decode cX6_accept 8 = .ok (.if_icmp .lt 14, 3) := by decide +kernel
theorem dX6_accept_11 : decode cX6_accept 11 = .ok (.aload_n 0, 1) := by decide +kernel
theorem dX6_accept_12 : decode cX6_accept 12 = .ok (.getfield 43, 3) := by decide +kernel
theorem dX6_accept_15 : decode cX6_accept 15 = .ok (.iload_n 1, 1) := by decide +kernel
theorem dX6_accept_16 : decode cX6_accept 16 = .ok (.dup2, 1) := by decide +kernel
theorem dX6_accept_17 : decode cX6_accept 17 = .ok (.iaload, 1) := by decide +kernel
theorem dX6_accept_18 : decode cX6_accept 18 = .ok (.iconst 1, 1) := by decide +kernel
theorem dX6_accept_19 : decode cX6_accept 19 = .ok (.iadd, 1) := by decide +kernel
theorem dX6_accept_20 : decode cX6_accept 20 = .ok (.iastore, 1) := by decide +kernel
theorem dX6_accept_21 : decode cX6_accept 21 = .ok (.return_, 1) := by decide +kernel
theorem dX6_accept_22 : decode cX6_accept 22 = .ok (.aload_n 0, 1) := by decide +kernel
theorem dX6_accept_23 : decode cX6_accept 23 = .ok (.getfield 49, 3) := by decide +kernel
theorem dX6_accept_26 : decode cX6_accept 26 = .ok (.iload_n 1, 1) := by decide +kernel
theorem dX6_accept_27 : decode cX6_accept 27 = .ok (.bipush 20, 2) := by decide +kernel
theorem dX6_accept_29 : decode cX6_accept 29 = .ok (.imul, 1) := by decide +kernel
theorem dX6_accept_30 : decode cX6_accept 30 = .ok (.aload_n 0, 1) := by decide +kernel
theorem dX6_accept_31 : decode cX6_accept 31 = .ok (.getfield 52, 3) := by decide +kernel
theorem dX6_accept_34 : decode cX6_accept 34 = .ok (.iload_n 1, 1) := by decide +kernel
theorem dX6_accept_35 : decode cX6_accept 35 = .ok (.iaload, 1) := by decide +kernel
theorem dX6_accept_36 : decode cX6_accept 36 = .ok (.aload_n 0, 1) := by decide +kernel
theorem dX6_accept_37 : decode cX6_accept 37 = .ok (.getfield 46, 3) := by decide +kernel
theorem dX6_accept_40 : decode cX6_accept 40 = .ok (.iload_n 1, 1) := by decide +kernel
theorem dX6_accept_41 : decode cX6_accept 41 = .ok (.iaload, 1) := by decide +kernel
theorem dX6_accept_42 : decode cX6_accept 42 = .ok (.iadd, 1) := by decide +kernel
theorem dX6_accept_43 : decode cX6_accept 43 = .ok (.bipush 20, 2) := by decide +kernel
theorem dX6_accept_45 : decode cX6_accept 45 = .ok (.irem, 1) := by decide +kernel
theorem dX6_accept_46 : decode cX6_accept 46 = .ok (.iadd, 1) := by decide +kernel
theorem dX6_accept_47 : decode cX6_accept 47 = .ok (.iload_n 2, 1) := by decide +kernel
theorem dX6_accept_48 : decode cX6_accept 48 = .ok (.iastore, 1) := by decide +kernel
theorem dX6_accept_49 : decode cX6_accept 49 = .ok (.iload_n 1, 1) := by decide +kernel
theorem dX6_accept_50 : decode cX6_accept 50 = .ok (.istore_n 3, 1) := by decide +kernel
theorem dX6_accept_51 : decode cX6_accept 51 = .ok (.iconst 0, 1) := by decide +kernel
theorem dX6_accept_52 : decode cX6_accept 52 = .ok (.istore 4, 2) := by decide +kernel
theorem dX6_accept_54 : decode cX6_accept 54 = .ok (.iload 4, 2) := by decide +kernel
theorem dX6_accept_56 : decode cX6_accept 56 = .ok (.bipush 12, 2) := by decide +kernel
theorem dX6_accept_58 : decode cX6_accept 58 = .ok (.if_icmp .ge 49, 3) := by decide +kernel
theorem dX6_accept_61 : decode cX6_accept 61 = .ok (.iload_n 3, 1) := by decide +kernel
theorem dX6_accept_62 : decode cX6_accept 62 = .ok (.bipush 12, 2) := by decide +kernel
theorem dX6_accept_64 : decode cX6_accept 64 = .ok (.if_icmp .eq 43, 3) := by decide +kernel
theorem dX6_accept_67 : decode cX6_accept 67 = .ok (.aload_n 0, 1) := by decide +kernel
theorem dX6_accept_68 : decode cX6_accept 68 = .ok (.getfield 46, 3) := by decide +kernel
theorem dX6_accept_71 : decode cX6_accept 71 = .ok (.iload_n 3, 1) := by decide +kernel
theorem dX6_accept_72 : decode cX6_accept 72 = .ok (.iaload, 1) := by decide +kernel
theorem dX6_accept_73 : decode cX6_accept 73 = .ok (.ifCond .ne 8, 3) := by decide +kernel
theorem dX6_accept_76 : decode cX6_accept 76 = .ok (.aload_n 0, 1) := by decide +kernel
theorem dX6_accept_77 : decode cX6_accept 77 = .ok (.iload_n 3, 1) := by decide +kernel
theorem dX6_accept_78 : decode cX6_accept 78 = .ok (.invokevirtual 140, 3) := by decide +kernel
theorem dX6_accept_81 : decode cX6_accept 81 = .ok (.aload_n 0, 1) := by decide +kernel
theorem dX6_accept_82 : decode cX6_accept 82 = .ok (.getfield 46, 3) := by decide +kernel
theorem dX6_accept_85 : decode cX6_accept 85 = .ok (.iload_n 3, 1) := by decide +kernel
theorem dX6_accept_86 : decode cX6_accept 86 = .ok (.dup2, 1) := by decide +kernel
theorem dX6_accept_87 : decode cX6_accept 87 = .ok (.iaload, 1) := by decide +kernel
theorem dX6_accept_88 : decode cX6_accept 88 = .ok (.iconst 1, 1) := by decide +kernel
theorem dX6_accept_89 : decode cX6_accept 89 = .ok (.iadd, 1) := by decide +kernel
theorem dX6_accept_90 : decode cX6_accept 90 = .ok (.iastore, 1) := by decide +kernel
theorem dX6_accept_91 : decode cX6_accept 91 = .ok (.aload_n 0, 1) := by decide +kernel
theorem dX6_accept_92 : decode cX6_accept 92 = .ok (.getfield 68, 3) := by decide +kernel
theorem dX6_accept_95 : decode cX6_accept 95 = .ok (.getfield 137, 3) := by decide +kernel
theorem dX6_accept_98 : decode cX6_accept 98 = .ok (.iload_n 3, 1) := by decide +kernel
theorem dX6_accept_99 : decode cX6_accept 99 = .ok (.iaload, 1) := by decide +kernel
theorem dX6_accept_100 : decode cX6_accept 100 = .ok (.istore_n 3, 1) := by decide +kernel
theorem dX6_accept_101 : decode cX6_accept 101 = .ok (.iinc 4 1, 3) := by decide +kernel
theorem dX6_accept_104 : decode cX6_accept 104 = .ok (.goto (-50), 3) := by decide +kernel
theorem dX6_accept_107 : decode cX6_accept 107 = .ok (.aload_n 0, 1) := by decide +kernel
theorem dX6_accept_108 : decode cX6_accept 108 = .ok (.getfield 46, 3) := by decide +kernel
theorem dX6_accept_111 : decode cX6_accept 111 = .ok (.bipush 12, 2) := by decide +kernel
theorem dX6_accept_113 : decode cX6_accept 113 = .ok (.dup2, 1) := by decide +kernel
theorem dX6_accept_114 : decode cX6_accept 114 = .ok (.iaload, 1) := by decide +kernel
theorem dX6_accept_115 : decode cX6_accept 115 = .ok (.iconst 1, 1) := by decide +kernel
theorem dX6_accept_116 : decode cX6_accept 116 = .ok (.iadd, 1) := by decide +kernel
theorem dX6_accept_117 : decode cX6_accept 117 = .ok (.iastore, 1) := by decide +kernel
theorem dX6_accept_118 : decode cX6_accept 118 = .ok (.return_, 1) := by decide +kernel
theorem dX6_wake_0 : decode cX6_wake 0 = .ok (.aload_n 0, 1) := by decide +kernel
theorem dX6_wake_1 : decode cX6_wake 1 = .ok (.getfield 68, 3) := by decide +kernel
theorem dX6_wake_4 : decode cX6_wake 4 = .ok (.getfield 137, 3) := by decide +kernel
theorem dX6_wake_7 : decode cX6_wake 7 = .ok (.iload_n 1, 1) := by decide +kernel
theorem dX6_wake_8 : decode cX6_wake 8 = .ok (.iaload, 1) := by decide +kernel
theorem dX6_wake_9 : decode cX6_wake 9 = .ok (.istore_n 2, 1) := by decide +kernel
theorem dX6_wake_10 : decode cX6_wake 10 = .ok (.ldc 144, 2) := by decide +kernel
theorem dX6_wake_12 : decode cX6_wake 12 = .ok (.istore_n 3, 1) := by decide +kernel
theorem dX6_wake_13 : decode cX6_wake 13 = .ok (.iconst (-1), 1) := by decide +kernel
theorem dX6_wake_14 : decode cX6_wake 14 = .ok (.istore 4, 2) := by decide +kernel
theorem dX6_wake_16 : decode cX6_wake 16 = .ok (.iconst 0, 1) := by decide +kernel
theorem dX6_wake_17 : decode cX6_wake 17 = .ok (.istore 5, 2) := by decide +kernel
theorem dX6_wake_19 : decode cX6_wake 19 = .ok (.iload 5, 2) := by decide +kernel
theorem dX6_wake_21 : decode cX6_wake 21 = .ok (.aload_n 0, 1) := by decide +kernel
theorem dX6_wake_22 : decode cX6_wake 22 = .ok (.getfield 68, 3) := by decide +kernel
theorem dX6_wake_25 : decode cX6_wake 25 = .ok (.getfield 117, 3) := by decide +kernel
theorem dX6_wake_28 : decode cX6_wake 28 = .ok (.iload_n 2, 1) := by decide +kernel
theorem dX6_wake_29 : decode cX6_wake 29 = .ok (.iaload, 1) := by decide +kernel
theorem dX6_wake_30 : decode cX6_wake 30 = .ok (.if_icmp .ge 85, 3) := by decide +kernel
theorem dX6_wake_33 : decode cX6_wake 33 = .ok (.aload_n 0, 1) := by decide +kernel
theorem dX6_wake_34 : decode cX6_wake 34 = .ok (.getfield 68, 3) := by decide +kernel
theorem dX6_wake_37 : decode cX6_wake 37 = .ok (.getfield 120, 3) := by decide +kernel
theorem dX6_wake_40 : decode cX6_wake 40 = .ok (.iload_n 2, 1) := by decide +kernel
theorem dX6_wake_41 : decode cX6_wake 41 = .ok (.bipush 12, 2) := by decide +kernel
theorem dX6_wake_43 : decode cX6_wake 43 = .ok (.imul, 1) := by decide +kernel
theorem dX6_wake_44 : decode cX6_wake 44 = .ok (.iload 5, 2) := by decide +kernel
theorem dX6_wake_46 : decode cX6_wake 46 = .ok (.iadd, 1) := by decide +kernel
theorem dX6_wake_47 : decode cX6_wake 47 = .ok (.iaload, 1) := by decide +kernel
theorem dX6_wake_48 : decode cX6_wake 48 = .ok (.istore 6, 2) := by decide +kernel
theorem dX6_wake_50 : decode cX6_wake 50 = .ok (.aload_n 0, 1) := by decide +kernel
theorem dX6_wake_51 : decode cX6_wake 51 = .ok (.getfield 46, 3) := by decide +kernel
theorem dX6_wake_54 : decode cX6_wake 54 = .ok (.iload 6, 2) := by decide +kernel
theorem dX6_wake_56 : decode cX6_wake 56 = .ok (.iaload, 1) := by decide +kernel
theorem dX6_wake_57 : decode cX6_wake 57 = .ok (.ifCond .le 52, 3) := by decide +kernel
theorem dX6_wake_60 : decode cX6_wake 60 = .ok (.aload_n 0, 1) := by decide +kernel
theorem dX6_wake_61 : decode cX6_wake 61 = .ok (.getfield 37, 3) := by decide +kernel
theorem dX6_wake_64 : decode cX6_wake 64 = .ok (.iload 6, 2) := by decide +kernel
theorem dX6_wake_66 : decode cX6_wake 66 = .ok (.iaload, 1) := by decide +kernel
theorem dX6_wake_67 : decode cX6_wake 67 = .ok (.iload_n 3, 1) := by decide +kernel
theorem dX6_wake_68 : decode cX6_wake 68 = .ok (.if_icmp .ge 13, 3) := by decide +kernel
theorem dX6_wake_71 : decode cX6_wake 71 = .ok (.aload_n 0, 1) := by decide +kernel
theorem dX6_wake_72 : decode cX6_wake 72 = .ok (.getfield 37, 3) := by decide +kernel
theorem dX6_wake_75 : decode cX6_wake 75 = .ok (.iload 6, 2) := by decide +kernel
theorem dX6_wake_77 : decode cX6_wake 77 = .ok (.iaload, 1) := by decide +kernel
theorem dX6_wake_78 : decode cX6_wake 78 = .ok (.goto 4, 3) := by decide +kernel
theorem dX6_wake_81 : decode cX6_wake 81 = .ok (.iload_n 3, 1) := by decide +kernel
theorem dX6_wake_82 : decode cX6_wake 82 = .ok (.istore_n 3, 1) := by decide +kernel
theorem dX6_wake_83 : decode cX6_wake 83 = .ok (.aload_n 0, 1) := by decide +kernel
theorem dX6_wake_84 : decode cX6_wake 84 = .ok (.getfield 37, 3) := by decide +kernel
theorem dX6_wake_87 : decode cX6_wake 87 = .ok (.iload 6, 2) := by decide +kernel
theorem dX6_wake_89 : decode cX6_wake 89 = .ok (.iaload, 1) := by decide +kernel
theorem dX6_wake_90 : decode cX6_wake 90 = .ok (.iload 4, 2) := by decide +kernel
theorem dX6_wake_92 : decode cX6_wake 92 = .ok (.if_icmp .le 13, 3) := by decide +kernel
theorem dX6_wake_95 : decode cX6_wake 95 = .ok (.aload_n 0, 1) := by decide +kernel
theorem dX6_wake_96 : decode cX6_wake 96 = .ok (.getfield 37, 3) := by decide +kernel
theorem dX6_wake_99 : decode cX6_wake 99 = .ok (.iload 6, 2) := by decide +kernel
theorem dX6_wake_101 : decode cX6_wake 101 = .ok (.iaload, 1) := by decide +kernel
theorem dX6_wake_102 : decode cX6_wake 102 = .ok (.goto 5, 3) := by decide +kernel
theorem dX6_wake_105 : decode cX6_wake 105 = .ok (.iload 4, 2) := by decide +kernel
theorem dX6_wake_107 : decode cX6_wake 107 = .ok (.istore 4, 2) := by decide +kernel
theorem dX6_wake_109 : decode cX6_wake 109 = .ok (.iinc 5 1, 3) := by decide +kernel
theorem dX6_wake_112 : decode cX6_wake 112 = .ok (.goto (-93), 3) := by decide +kernel
theorem dX6_wake_115 : decode cX6_wake 115 = .ok (.iload 4, 2) := by decide +kernel
theorem dX6_wake_117 : decode cX6_wake 117 = .ok (.iconst (-1), 1) := by decide +kernel
theorem dX6_wake_118 : decode cX6_wake 118 = .ok (.if_icmp .ne 12, 3) := by decide +kernel
theorem dX6_wake_121 : decode cX6_wake 121 = .ok (.aload_n 0, 1) := by decide +kernel
theorem dX6_wake_122 : decode cX6_wake 122 = .ok (.getfield 40, 3) := by decide +kernel
theorem dX6_wake_125 : decode cX6_wake 125 = .ok (.iload_n 2, 1) := by decide +kernel
theorem dX6_wake_126 : decode cX6_wake 126 = .ok (.iaload, 1) := by decide +kernel
theorem dX6_wake_127 : decode cX6_wake 127 = .ok (.goto 9, 3) := by decide +kernel
theorem dX6_wake_130 : decode cX6_wake 130 = .ok (.iload_n 3, 1) := by decide +kernel
theorem dX6_wake_131 : decode cX6_wake 131 = .ok (.iload 4, 2) := by decide +kernel
theorem dX6_wake_133 : decode cX6_wake 133 = .ok (.iadd, 1) := by decide +kernel
theorem dX6_wake_134 : decode cX6_wake 134 = .ok (.iconst 2, 1) := by decide +kernel
theorem dX6_wake_135 : decode cX6_wake 135 = .ok (.idiv, 1) := by decide +kernel
theorem dX6_wake_136 : decode cX6_wake 136 = .ok (.istore 5, 2) := by decide +kernel
theorem dX6_wake_138 : decode cX6_wake 138 = .ok (.aload_n 0, 1) := by decide +kernel
theorem dX6_wake_139 : decode cX6_wake 139 = .ok (.getfield 37, 3) := by decide +kernel
theorem dX6_wake_142 : decode cX6_wake 142 = .ok (.iload_n 1, 1) := by decide +kernel
theorem dX6_wake_143 : decode cX6_wake 143 = .ok (.iaload, 1) := by decide +kernel
theorem dX6_wake_144 : decode cX6_wake 144 = .ok (.iload 5, 2) := by decide +kernel
theorem dX6_wake_146 : decode cX6_wake 146 = .ok (.if_icmp .le 12, 3) := by decide +kernel
theorem dX6_wake_149 : decode cX6_wake 149 = .ok (.aload_n 0, 1) := by decide +kernel
theorem dX6_wake_150 : decode cX6_wake 150 = .ok (.getfield 37, 3) := by decide +kernel
theorem dX6_wake_153 : decode cX6_wake 153 = .ok (.iload_n 1, 1) := by decide +kernel
theorem dX6_wake_154 : decode cX6_wake 154 = .ok (.iaload, 1) := by decide +kernel
theorem dX6_wake_155 : decode cX6_wake 155 = .ok (.goto 5, 3) := by decide +kernel
theorem dX6_wake_158 : decode cX6_wake 158 = .ok (.iload 5, 2) := by decide +kernel
theorem dX6_wake_160 : decode cX6_wake 160 = .ok (.istore 5, 2) := by decide +kernel
theorem dX6_wake_162 : decode cX6_wake 162 = .ok (.aload_n 0, 1) := by decide +kernel
theorem dX6_wake_163 : decode cX6_wake 163 = .ok (.getfield 37, 3) := by decide +kernel
theorem dX6_wake_166 : decode cX6_wake 166 = .ok (.iload_n 1, 1) := by decide +kernel
theorem dX6_wake_167 : decode cX6_wake 167 = .ok (.iload 5, 2) := by decide +kernel
theorem dX6_wake_169 : decode cX6_wake 169 = .ok (.iastore, 1) := by decide +kernel
theorem dX6_wake_170 : decode cX6_wake 170 = .ok (.aload_n 0, 1) := by decide +kernel
theorem dX6_wake_171 : decode cX6_wake 171 = .ok (.getfield 40, 3) := by decide +kernel
theorem dX6_wake_174 : decode cX6_wake 174 = .ok (.iload_n 2, 1) := by decide +kernel
theorem dX6_wake_175 : decode cX6_wake 175 = .ok (.iload 5, 2) := by decide +kernel
theorem dX6_wake_177 : decode cX6_wake 177 = .ok (.aload_n 0, 1) := by decide +kernel
theorem dX6_wake_178 : decode cX6_wake 178 = .ok (.getfield 40, 3) := by decide +kernel
theorem dX6_wake_181 : decode cX6_wake 181 = .ok (.iload_n 2, 1) := by decide +kernel
theorem dX6_wake_182 : decode cX6_wake 182 = .ok (.iaload, 1) := by decide +kernel
theorem dX6_wake_183 : decode cX6_wake 183 = .ok (.if_icmp .le 8, 3) := by decide +kernel
theorem dX6_wake_186 : decode cX6_wake 186 = .ok (.iload 5, 2) := by decide +kernel
theorem dX6_wake_188 : decode cX6_wake 188 = .ok (.goto 9, 3) := by decide +kernel
theorem dX6_wake_191 : decode cX6_wake 191 = .ok (.aload_n 0, 1) := by decide +kernel
theorem dX6_wake_192 : decode cX6_wake 192 = .ok (.getfield 40, 3) := by decide +kernel
theorem dX6_wake_195 : decode cX6_wake 195 = .ok (.iload_n 2, 1) := by decide +kernel
theorem dX6_wake_196 : decode cX6_wake 196 = .ok (.iaload, 1) := by decide +kernel
theorem dX6_wake_197 : decode cX6_wake 197 = .ok (.iastore, 1) := by decide +kernel
theorem dX6_wake_198 : decode cX6_wake 198 = .ok (.aload_n 0, 1) := by decide +kernel
theorem dX6_wake_199 : decode cX6_wake 199 = .ok (.getfield 61, 3) := by decide +kernel
theorem dX6_wake_202 : decode cX6_wake 202 = .ok (.iload_n 1, 1) := by decide +kernel
theorem dX6_wake_203 : decode cX6_wake 203 = .ok (.iconst 3, 1) := by decide +kernel
theorem dX6_wake_204 : decode cX6_wake 204 = .ok (.imul, 1) := by decide +kernel
theorem dX6_wake_205 : decode cX6_wake 205 = .ok (.iconst 1, 1) := by decide +kernel
theorem dX6_wake_206 : decode cX6_wake 206 = .ok (.iadd, 1) := by decide +kernel
theorem dX6_wake_207 : decode cX6_wake 207 = .ok (.iload 5, 2) := by decide +kernel
theorem dX6_wake_209 : decode cX6_wake 209 = .ok (.aload_n 0, 1) := by decide +kernel
theorem dX6_wake_210 : decode cX6_wake 210 = .ok (.getfield 30, 3) := by decide +kernel
theorem dX6_wake_213 : decode cX6_wake 213 = .ok (.iload_n 1, 1) := by decide +kernel
theorem dX6_wake_214 : decode cX6_wake 214 = .ok (.iaload, 1) := by decide +kernel
theorem dX6_wake_215 : decode cX6_wake 215 = .ok (.invokevirtual 145, 3) := by decide +kernel
theorem dX6_wake_218 : decode cX6_wake 218 = .ok (.aload_n 0, 1) := by decide +kernel
theorem dX6_wake_219 : decode cX6_wake 219 = .ok (.getfield 61, 3) := by decide +kernel
theorem dX6_wake_222 : decode cX6_wake 222 = .ok (.iload_n 1, 1) := by decide +kernel
theorem dX6_wake_223 : decode cX6_wake 223 = .ok (.iconst 3, 1) := by decide +kernel
theorem dX6_wake_224 : decode cX6_wake 224 = .ok (.imul, 1) := by decide +kernel
theorem dX6_wake_225 : decode cX6_wake 225 = .ok (.iconst 2, 1) := by decide +kernel
theorem dX6_wake_226 : decode cX6_wake 226 = .ok (.iadd, 1) := by decide +kernel
theorem dX6_wake_227 : decode cX6_wake 227 = .ok (.aload_n 0, 1) := by decide +kernel
theorem dX6_wake_228 : decode cX6_wake 228 = .ok (.getfield 9, 3) := by decide +kernel
theorem dX6_wake_231 : decode cX6_wake 231 = .ok (.aload_n 0, 1) := by decide +kernel
theorem dX6_wake_232 : decode cX6_wake 232 = .ok (.getfield 30, 3) := by decide +kernel
theorem dX6_wake_235 : decode cX6_wake 235 = .ok (.iload_n 1, 1) := by decide +kernel
theorem dX6_wake_236 : decode cX6_wake 236 = .ok (.iaload, 1) := by decide +kernel
theorem dX6_wake_237 : decode cX6_wake 237 = .ok (.invokevirtual 145, 3) := by decide +kernel
theorem dX6_wake_240 : decode cX6_wake 240 = .ok (.aload_n 0, 1) := by decide +kernel
theorem dX6_wake_241 : decode cX6_wake 241 = .ok (.getfield 61, 3) := by decide +kernel
theorem dX6_wake_244 : decode cX6_wake 244 = .ok (.iload_n 1, 1) := by decide +kernel
theorem dX6_wake_245 : decode cX6_wake 245 = .ok (.iconst 3, 1) := by decide +kernel
theorem dX6_wake_246 : decode cX6_wake 246 = .ok (.imul, 1) := by decide +kernel
theorem dX6_wake_247 : decode cX6_wake 247 = .ok (.iconst 0, 1) := by decide +kernel
theorem dX6_wake_248 : decode cX6_wake 248 = .ok (.iadd, 1) := by decide +kernel
theorem dX6_wake_249 : decode cX6_wake 249 = .ok (.aload_n 0, 1) := by decide +kernel
theorem dX6_wake_250 : decode cX6_wake 250 = .ok (.getfield 9, 3) := by decide +kernel
theorem dX6_wake_253 : decode cX6_wake 253 = .ok (.aload_n 0, 1) := by decide +kernel
theorem dX6_wake_254 : decode cX6_wake 254 = .ok (.getfield 34, 3) := by decide +kernel
theorem dX6_wake_257 : decode cX6_wake 257 = .ok (.iload_n 1, 1) := by decide +kernel
theorem dX6_wake_258 : decode cX6_wake 258 = .ok (.iaload, 1) := by decide +kernel
theorem dX6_wake_259 : decode cX6_wake 259 = .ok (.invokevirtual 145, 3) := by decide +kernel
theorem dX6_wake_262 : decode cX6_wake 262 = .ok (.return_, 1) := by decide +kernel
theorem dX6_pass_0 : decode cX6_pass 0 = .ok (.aload_n 0, 1) := by decide +kernel
theorem dX6_pass_1 : decode cX6_pass 1 = .ok (.getfield 9, 3) := by decide +kernel
theorem dX6_pass_4 : decode cX6_pass 4 = .ok (.iload_n 1, 1) := by decide +kernel
theorem dX6_pass_5 : decode cX6_pass 5 = .ok (.iadd, 1) := by decide +kernel
theorem dX6_pass_6 : decode cX6_pass 6 = .ok (.istore_n 2, 1) := by decide +kernel
theorem dX6_pass_7 : decode cX6_pass 7 = .ok (.iconst 0, 1) := by decide +kernel
theorem dX6_pass_8 : decode cX6_pass 8 = .ok (.istore_n 3, 1) := by decide +kernel
theorem dX6_pass_9 : decode cX6_pass 9 = .ok (.iload_n 3, 1) := by decide +kernel
theorem dX6_pass_10 : decode cX6_pass 10 = .ok (.iload_n 1, 1) := by decide +kernel
theorem dX6_pass_11 : decode cX6_pass 11 = .ok (.if_icmp .ge 27, 3) := by decide +kernel
theorem dX6_pass_14 : decode cX6_pass 14 = .ok (.aload_n 0, 1) := by decide +kernel
theorem dX6_pass_15 : decode cX6_pass 15 = .ok (.getfield 9, 3) := by decide +kernel
theorem dX6_pass_18 : decode cX6_pass 18 = .ok (.iload_n 2, 1) := by decide +kernel
theorem dX6_pass_19 : decode cX6_pass 19 = .ok (.if_icmp .ge 19, 3) := by decide +kernel
theorem dX6_pass_22 : decode cX6_pass 22 = .ok (.aload_n 0, 1) := by decide +kernel
theorem dX6_pass_23 : decode cX6_pass 23 = .ok (.iload_n 2, 1) := by decide +kernel
theorem dX6_pass_24 : decode cX6_pass 24 = .ok (.aload_n 0, 1) := by decide +kernel
theorem dX6_pass_25 : decode cX6_pass 25 = .ok (.getfield 9, 3) := by decide +kernel
theorem dX6_pass_28 : decode cX6_pass 28 = .ok (.isub, 1) := by decide +kernel
theorem dX6_pass_29 : decode cX6_pass 29 = .ok (.invokevirtual 149, 3) := by decide +kernel
theorem dX6_pass_32 : decode cX6_pass 32 = .ok (.iinc 3 1, 3) := by decide +kernel
theorem dX6_pass_35 : decode cX6_pass 35 = .ok (.goto (-26), 3) := by decide +kernel
theorem dX6_pass_38 : decode cX6_pass 38 = .ok (.return_, 1) := by decide +kernel
theorem dX6_advance_0 : decode cX6_advance 0 = .ok (.aload_n 0, 1) := by decide +kernel
theorem dX6_advance_1 : decode cX6_advance 1 = .ok (.iload_n 1, 1) := by decide +kernel
theorem dX6_advance_2 : decode cX6_advance 2 = .ok (.invokevirtual 152, 3) := by decide +kernel
theorem dX6_advance_5 : decode cX6_advance 5 = .ok (.istore_n 2, 1) := by decide +kernel
theorem dX6_advance_6 : decode cX6_advance 6 = .ok (.aload_n 0, 1) := by decide +kernel
theorem dX6_advance_7 : decode cX6_advance 7 = .ok (.dup, 1) := by decide +kernel
theorem dX6_advance_8 : decode cX6_advance 8 = .ok (.getfield 9, 3) := by decide +kernel
theorem dX6_advance_11 : decode cX6_advance 11 = .ok (.iload_n 2, 1) := by decide +kernel
theorem dX6_advance_12 : decode cX6_advance 12 = .ok (.iadd, 1) := by decide +kernel
theorem dX6_advance_13 : decode cX6_advance 13 = .ok (.putfield 9, 3) := by decide +kernel
theorem dX6_advance_16 : decode cX6_advance 16 = .ok (.aload_n 0, 1) := by decide +kernel
theorem dX6_advance_17 : decode cX6_advance 17 = .ok (.aload_n 0, 1) := by decide +kernel
theorem dX6_advance_18 : decode cX6_advance 18 = .ok (.getfield 15, 3) := by decide +kernel
theorem dX6_advance_21 : decode cX6_advance 21 = .ok (.iload_n 2, 1) := by decide +kernel
theorem dX6_advance_22 : decode cX6_advance 22 = .ok (.if_icmp .le 12, 3) := by decide +kernel
theorem dX6_advance_25 : decode cX6_advance 25 = .ok (.aload_n 0, 1) := by decide +kernel
theorem dX6_advance_26 : decode cX6_advance 26 = .ok (.getfield 15, 3) := by decide +kernel
theorem dX6_advance_29 : decode cX6_advance 29 = .ok (.iload_n 2, 1) := by decide +kernel
theorem dX6_advance_30 : decode cX6_advance 30 = .ok (.isub, 1) := by decide +kernel
theorem dX6_advance_31 : decode cX6_advance 31 = .ok (.goto 4, 3) := by decide +kernel
theorem dX6_advance_34 : decode cX6_advance 34 = .ok (.iconst 0, 1) := by decide +kernel
theorem dX6_advance_35 : decode cX6_advance 35 = .ok (.putfield 15, 3) := by decide +kernel
theorem dX6_advance_38 : decode cX6_advance 38 = .ok (.iload_n 2, 1) := by decide +kernel
theorem dX6_advance_39 : decode cX6_advance 39 = .ok (.iload_n 1, 1) := by decide +kernel
theorem dX6_advance_40 : decode cX6_advance 40 = .ok (.if_icmp .lt 4, 3) := by decide +kernel
theorem dX6_advance_43 : decode cX6_advance 43 = .ok (.return_, 1) := by decide +kernel
theorem dX6_advance_44 : decode cX6_advance 44 = .ok (.iconst 0, 1) := by decide +kernel
theorem dX6_advance_45 : decode cX6_advance 45 = .ok (.istore_n 3, 1) := by decide +kernel
theorem dX6_advance_46 : decode cX6_advance 46 = .ok (.iload_n 3, 1) := by decide +kernel
theorem dX6_advance_47 : decode cX6_advance 47 = .ok (.aload_n 0, 1) := by decide +kernel
theorem dX6_advance_48 : decode cX6_advance 48 = .ok (.getfield 68, 3) := by decide +kernel
theorem dX6_advance_51 : decode cX6_advance 51 = .ok (.getfield 99, 3) := by decide +kernel
theorem dX6_advance_54 : decode cX6_advance 54 = .ok (.if_icmp .ge 54, 3) := by decide +kernel
theorem dX6_advance_57 : decode cX6_advance 57 = .ok (.aload_n 0, 1) := by decide +kernel
theorem dX6_advance_58 : decode cX6_advance 58 = .ok (.getfield 27, 3) := by decide +kernel
theorem dX6_advance_61 : decode cX6_advance 61 = .ok (.iload_n 3, 1) := by decide +kernel
theorem dX6_advance_62 : decode cX6_advance 62 = .ok (.ishr, 1) := by decide +kernel
theorem dX6_advance_63 : decode cX6_advance 63 = .ok (.iconst 1, 1) := by decide +kernel
theorem dX6_advance_64 : decode cX6_advance 64 = .ok (.iand, 1) := by decide +kernel
theorem dX6_advance_65 : decode cX6_advance 65 = .ok (.ifCond .ne 37, 3) := by decide +kernel
theorem dX6_advance_68 : decode cX6_advance 68 = .ok (.aload_n 0, 1) := by decide +kernel
theorem dX6_advance_69 : decode cX6_advance 69 = .ok (.getfield 68, 3) := by decide +kernel
theorem dX6_advance_72 : decode cX6_advance 72 = .ok (.iload_n 3, 1) := by decide +kernel
theorem dX6_advance_73 : decode cX6_advance 73 = .ok (.aload_n 0, 1) := by decide +kernel
theorem dX6_advance_74 : decode cX6_advance 74 = .ok (.getfield 9, 3) := by decide +kernel
theorem dX6_advance_77 : decode cX6_advance 77 = .ok (.invokevirtual 155, 3) := by decide +kernel
theorem dX6_advance_80 : decode cX6_advance 80 = .ok (.ifCond .ne 22, 3) := by decide +kernel
theorem dX6_advance_83 : decode cX6_advance 83 = .ok (.aload_n 0, 1) := by decide +kernel
theorem dX6_advance_84 : decode cX6_advance 84 = .ok (.aload_n 0, 1) := by decide +kernel
theorem dX6_advance_85 : decode cX6_advance 85 = .ok (.getfield 68, 3) := by decide +kernel
theorem dX6_advance_88 : decode cX6_advance 88 = .ok (.getfield 158, 3) := by decide +kernel
theorem dX6_advance_91 : decode cX6_advance 91 = .ok (.iload_n 3, 1) := by decide +kernel
theorem dX6_advance_92 : decode cX6_advance 92 = .ok (.iaload, 1) := by decide +kernel
theorem dX6_advance_93 : decode cX6_advance 93 = .ok (.aload_n 0, 1) := by decide +kernel
theorem dX6_advance_94 : decode cX6_advance 94 = .ok (.getfield 55, 3) := by decide +kernel
theorem dX6_advance_97 : decode cX6_advance 97 = .ok (.iload_n 3, 1) := by decide +kernel
theorem dX6_advance_98 : decode cX6_advance 98 = .ok (.iaload, 1) := by decide +kernel
theorem dX6_advance_99 : decode cX6_advance 99 = .ok (.invokevirtual 161, 3) := by decide +kernel
theorem dX6_advance_102 : decode cX6_advance 102 = .ok (.iinc 3 1, 3) := by decide +kernel
theorem dX6_advance_105 : decode cX6_advance 105 = .ok (.goto (-59), 3) := by decide +kernel
theorem dX6_advance_108 : decode cX6_advance 108 = .ok (.aload_n 0, 1) := by decide +kernel
theorem dX6_advance_109 : decode cX6_advance 109 = .ok (.getfield 15, 3) := by decide +kernel
theorem dX6_advance_112 : decode cX6_advance 112 = .ok (.ifCond .ne 41, 3) := by decide +kernel
theorem dX6_advance_115 : decode cX6_advance 115 = .ok (.aload_n 0, 1) := by decide +kernel
theorem dX6_advance_116 : decode cX6_advance 116 = .ok (.getfield 46, 3) := by decide +kernel
theorem dX6_advance_119 : decode cX6_advance 119 = .ok (.bipush 12, 2) := by decide +kernel
theorem dX6_advance_121 : decode cX6_advance 121 = .ok (.iaload, 1) := by decide +kernel
theorem dX6_advance_122 : decode cX6_advance 122 = .ok (.ifCond .le 31, 3) := by decide +kernel
theorem dX6_advance_125 : decode cX6_advance 125 = .ok (.aload_n 0, 1) := by decide +kernel
theorem dX6_advance_126 : decode cX6_advance 126 = .ok (.invokevirtual 165, 3) := by decide +kernel
theorem dX6_advance_129 : decode cX6_advance 129 = .ok (.istore_n 3, 1) := by decide +kernel
theorem dX6_advance_130 : decode cX6_advance 130 = .ok (.iload_n 3, 1) := by decide +kernel
theorem dX6_advance_131 : decode cX6_advance 131 = .ok (.iconst (-1), 1) := by decide +kernel
theorem dX6_advance_132 : decode cX6_advance 132 = .ok (.if_icmp .eq 12, 3) := by decide +kernel
theorem dX6_advance_135 : decode cX6_advance 135 = .ok (.aload_n 0, 1) := by decide +kernel
theorem dX6_advance_136 : decode cX6_advance 136 = .ok (.iload_n 3, 1) := by decide +kernel
theorem dX6_advance_137 : decode cX6_advance 137 = .ok (.iconst 1, 1) := by decide +kernel
theorem dX6_advance_138 : decode cX6_advance 138 = .ok (.invokevirtual 169, 3) := by decide +kernel
theorem dX6_advance_141 : decode cX6_advance 141 = .ok (.goto 12, 3) := by decide +kernel
theorem dX6_advance_144 : decode cX6_advance 144 = .ok (.aload_n 0, 1) := by decide +kernel
theorem dX6_advance_145 : decode cX6_advance 145 = .ok (.aload_n 0, 1) := by decide +kernel
theorem dX6_advance_146 : decode cX6_advance 146 = .ok (.invokevirtual 173, 3) := by decide +kernel
theorem dX6_advance_149 : decode cX6_advance 149 = .ok (.iconst 0, 1) := by decide +kernel
theorem dX6_advance_150 : decode cX6_advance 150 = .ok (.invokevirtual 169, 3) := by decide +kernel
theorem dX6_advance_153 : decode cX6_advance 153 = .ok (.aload_n 0, 1) := by decide +kernel
theorem dX6_advance_154 : decode cX6_advance 154 = .ok (.dup, 1) := by decide +kernel
theorem dX6_advance_155 : decode cX6_advance 155 = .ok (.getfield 15, 3) := by decide +kernel
theorem dX6_advance_158 : decode cX6_advance 158 = .ok (.aload_n 0, 1) := by decide +kernel
theorem dX6_advance_159 : decode cX6_advance 159 = .ok (.getfield 15, 3) := by decide +kernel
theorem dX6_advance_162 : decode cX6_advance 162 = .ok (.ifCond .le 7, 3) := by decide +kernel
theorem dX6_advance_165 : decode cX6_advance 165 = .ok (.iconst 1, 1) := by decide +kernel
theorem dX6_advance_166 : decode cX6_advance 166 = .ok (.goto 4, 3) := by decide +kernel
theorem dX6_advance_169 : decode cX6_advance 169 = .ok (.iconst 0, 1) := by decide +kernel
theorem dX6_advance_170 : decode cX6_advance 170 = .ok (.isub, 1) := by decide +kernel
theorem dX6_advance_171 : decode cX6_advance 171 = .ok (.putfield 15, 3) := by decide +kernel
theorem dX6_advance_174 : decode cX6_advance 174 = .ok (.aload_n 0, 1) := by decide +kernel
theorem dX6_advance_175 : decode cX6_advance 175 = .ok (.dup, 1) := by decide +kernel
theorem dX6_advance_176 : decode cX6_advance 176 = .ok (.getfield 9, 3) := by decide +kernel
theorem dX6_advance_179 : decode cX6_advance 179 = .ok (.iconst 1, 1) := by decide +kernel
theorem dX6_advance_180 : decode cX6_advance 180 = .ok (.iadd, 1) := by decide +kernel
theorem dX6_advance_181 : decode cX6_advance 181 = .ok (.putfield 9, 3) := by decide +kernel
theorem dX6_advance_184 : decode cX6_advance 184 = .ok (.return_, 1) := by decide +kernel
theorem dX6_quietUnits_0 : decode cX6_quietUnits 0 = .ok (.aload_n 0, 1) := by decide +kernel
theorem dX6_quietUnits_1 : decode cX6_quietUnits 1 = .ok (.getfield 46, 3) := by decide +kernel
theorem dX6_quietUnits_4 : decode cX6_quietUnits 4 = .ok (.bipush 12, 2) := by decide +kernel
theorem dX6_quietUnits_6 : decode cX6_quietUnits 6 = .ok (.iaload, 1) := by decide +kernel
theorem dX6_quietUnits_7 : decode cX6_quietUnits 7 = .ok (.ifCond .le 12, 3) := by decide +kernel
theorem dX6_quietUnits_10 : decode cX6_quietUnits 10 = .ok (.aload_n 0, 1) := by decide +kernel
theorem dX6_quietUnits_11 : decode cX6_quietUnits 11 = .ok (.getfield 15, 3) := by decide +kernel
theorem dX6_quietUnits_14 : decode cX6_quietUnits 14 = .ok (.ifCond .ne 5, 3) := by decide +kernel
theorem dX6_quietUnits_17 : decode cX6_quietUnits 17 = .ok (.iconst 0, 1) := by decide +kernel
theorem dX6_quietUnits_18 : decode cX6_quietUnits 18 = .ok (.ireturn, 1) := by decide +kernel
theorem dX6_quietUnits_19 : decode cX6_quietUnits 19 = .ok (.aload_n 0, 1) := by decide +kernel
theorem dX6_quietUnits_20 : decode cX6_quietUnits 20 = .ok (.getfield 46, 3) := by decide +kernel
theorem dX6_quietUnits_23 : decode cX6_quietUnits 23 = .ok (.bipush 12, 2) := by decide +kernel
theorem dX6_quietUnits_25 : decode cX6_quietUnits 25 = .ok (.iaload, 1) := by decide +kernel
theorem dX6_quietUnits_26 : decode cX6_quietUnits 26 = .ok (.ifCond .le 18, 3) := by decide +kernel
theorem dX6_quietUnits_29 : decode cX6_quietUnits 29 = .ok (.aload_n 0, 1) := by decide +kernel
theorem dX6_quietUnits_30 : decode cX6_quietUnits 30 = .ok (.getfield 15, 3) := by decide +kernel
theorem dX6_quietUnits_33 : decode cX6_quietUnits 33 = .ok (.iload_n 1, 1) := by decide +kernel
theorem dX6_quietUnits_34 : decode cX6_quietUnits 34 = .ok (.if_icmp .ge 10, 3) := by decide +kernel
theorem dX6_quietUnits_37 : decode cX6_quietUnits 37 = .ok (.aload_n 0, 1) := by decide +kernel
theorem dX6_quietUnits_38 : decode cX6_quietUnits 38 = .ok (.getfield 15, 3) := by decide +kernel
theorem dX6_quietUnits_41 : decode cX6_quietUnits 41 = .ok (.goto 4, 3) := by decide +kernel
theorem dX6_quietUnits_44 : decode cX6_quietUnits 44 = .ok (.iload_n 1, 1) := by decide +kernel
theorem dX6_quietUnits_45 : decode cX6_quietUnits 45 = .ok (.istore_n 2, 1) := by decide +kernel
theorem dX6_quietUnits_46 : decode cX6_quietUnits 46 = .ok (.iconst 0, 1) := by decide +kernel
theorem dX6_quietUnits_47 : decode cX6_quietUnits 47 = .ok (.istore_n 3, 1) := by decide +kernel
theorem dX6_quietUnits_48 : decode cX6_quietUnits 48 = .ok (.iload_n 3, 1) := by decide +kernel
theorem dX6_quietUnits_49 : decode cX6_quietUnits 49 = .ok (.aload_n 0, 1) := by decide +kernel
theorem dX6_quietUnits_50 : decode cX6_quietUnits 50 = .ok (.getfield 68, 3) := by decide +kernel
theorem dX6_quietUnits_53 : decode cX6_quietUnits 53 = .ok (.getfield 99, 3) := by decide +kernel
theorem dX6_quietUnits_56 : decode cX6_quietUnits 56 = .ok (.if_icmp .ge 47, 3) := by decide +kernel
theorem dX6_quietUnits_59 : decode cX6_quietUnits 59 = .ok (.aload_n 0, 1) := by decide +kernel
theorem dX6_quietUnits_60 : decode cX6_quietUnits 60 = .ok (.getfield 27, 3) := by decide +kernel
theorem dX6_quietUnits_63 : decode cX6_quietUnits 63 = .ok (.iload_n 3, 1) := by decide +kernel
theorem dX6_quietUnits_64 : decode cX6_quietUnits 64 = .ok (.ishr, 1) := by decide +kernel
theorem dX6_quietUnits_65 : decode cX6_quietUnits 65 = .ok (.iconst 1, 1) := by decide +kernel
theorem dX6_quietUnits_66 : decode cX6_quietUnits 66 = .ok (.iand, 1) := by decide +kernel
theorem dX6_quietUnits_67 : decode cX6_quietUnits 67 = .ok (.ifCond .ne 30, 3) := by decide +kernel
theorem dX6_quietUnits_70 : decode cX6_quietUnits 70 = .ok (.aload_n 0, 1) := by decide +kernel
theorem dX6_quietUnits_71 : decode cX6_quietUnits 71 = .ok (.getfield 68, 3) := by decide +kernel
theorem dX6_quietUnits_74 : decode cX6_quietUnits 74 = .ok (.iload_n 3, 1) := by decide +kernel
theorem dX6_quietUnits_75 : decode cX6_quietUnits 75 = .ok (.aload_n 0, 1) := by decide +kernel
theorem dX6_quietUnits_76 : decode cX6_quietUnits 76 = .ok (.getfield 9, 3) := by decide +kernel
theorem dX6_quietUnits_79 : decode cX6_quietUnits 79 = .ok (.invokevirtual 155, 3) := by decide +kernel
theorem dX6_quietUnits_82 : decode cX6_quietUnits 82 = .ok (.istore 4, 2) := by decide +kernel
theorem dX6_quietUnits_84 : decode cX6_quietUnits 84 = .ok (.iload 4, 2) := by decide +kernel
theorem dX6_quietUnits_86 : decode cX6_quietUnits 86 = .ok (.iload_n 2, 1) := by decide +kernel
theorem dX6_quietUnits_87 : decode cX6_quietUnits 87 = .ok (.if_icmp .ge 8, 3) := by decide +kernel
theorem dX6_quietUnits_90 : decode cX6_quietUnits 90 = .ok (.iload 4, 2) := by decide +kernel
theorem dX6_quietUnits_92 : decode cX6_quietUnits 92 = .ok (.goto 4, 3) := by decide +kernel
theorem dX6_quietUnits_95 : decode cX6_quietUnits 95 = .ok (.iload_n 2, 1) := by decide +kernel
theorem dX6_quietUnits_96 : decode cX6_quietUnits 96 = .ok (.istore_n 2, 1) := by decide +kernel
theorem dX6_quietUnits_97 : decode cX6_quietUnits 97 = .ok (.iinc 3 1, 3) := by decide +kernel
theorem dX6_quietUnits_100 : decode cX6_quietUnits 100 = .ok (.goto (-52), 3) := by decide +kernel
theorem dX6_quietUnits_103 : decode cX6_quietUnits 103 = .ok (.iload_n 2, 1) := by decide +kernel
theorem dX6_quietUnits_104 : decode cX6_quietUnits 104 = .ok (.ireturn, 1) := by decide +kernel
theorem dX6_pickByDeadline_0 : decode cX6_pickByDeadline 0 = .ok (.iconst (-1), 1) := by decide +kernel
theorem dX6_pickByDeadline_1 : decode cX6_pickByDeadline 1 = .ok (.istore_n 1, 1) := by decide +kernel
theorem dX6_pickByDeadline_2 : decode cX6_pickByDeadline 2 = .ok (.iconst 0, 1) := by decide +kernel
theorem dX6_pickByDeadline_3 : decode cX6_pickByDeadline 3 = .ok (.istore_n 2, 1) := by decide +kernel
theorem dX6_pickByDeadline_4 : decode cX6_pickByDeadline 4 = .ok (.iconst 0, 1) := by decide +kernel
theorem dX6_pickByDeadline_5 : decode cX6_pickByDeadline 5 = .ok (.istore_n 3, 1) := by decide +kernel
theorem dX6_pickByDeadline_6 : decode cX6_pickByDeadline 6 = .ok (.iload_n 3, 1) := by decide +kernel
theorem dX6_pickByDeadline_7 : decode cX6_pickByDeadline 7 = .ok (.aload_n 0, 1) := by decide +kernel
theorem dX6_pickByDeadline_8 : decode cX6_pickByDeadline 8 = .ok (.getfield 68, 3) := by decide +kernel
theorem dX6_pickByDeadline_11 : decode cX6_pickByDeadline 11 = .ok (.getfield 96, 3) := by decide +kernel
theorem dX6_pickByDeadline_14 : decode cX6_pickByDeadline 14 = .ok (.if_icmp .ge 68, 3) := by decide +kernel
theorem dX6_pickByDeadline_17 : decode cX6_pickByDeadline 17 = .ok (.aload_n 0, 1) := by decide +kernel
theorem dX6_pickByDeadline_18 : decode cX6_pickByDeadline 18 = .ok (.getfield 46, 3) := by decide +kernel
theorem dX6_pickByDeadline_21 : decode cX6_pickByDeadline 21 = .ok (.iload_n 3, 1) := by decide +kernel
theorem dX6_pickByDeadline_22 : decode cX6_pickByDeadline 22 = .ok (.iaload, 1) := by decide +kernel
theorem dX6_pickByDeadline_23 : decode cX6_pickByDeadline 23 = .ok (.ifCond .le 53, 3) := by decide +kernel
theorem dX6_pickByDeadline_26 : decode cX6_pickByDeadline 26 = .ok (.aload_n 0, 1) := by decide +kernel
theorem dX6_pickByDeadline_27 : decode cX6_pickByDeadline 27 = .ok (.getfield 61, 3) := by decide +kernel
theorem dX6_pickByDeadline_30 : decode cX6_pickByDeadline 30 = .ok (.iload_n 3, 1) := by decide +kernel
theorem dX6_pickByDeadline_31 : decode cX6_pickByDeadline 31 = .ok (.iconst 3, 1) := by decide +kernel
theorem dX6_pickByDeadline_32 : decode cX6_pickByDeadline 32 = .ok (.imul, 1) := by decide +kernel
theorem dX6_pickByDeadline_33 : decode cX6_pickByDeadline 33 = .ok (.iconst 0, 1) := by decide +kernel
theorem dX6_pickByDeadline_34 : decode cX6_pickByDeadline 34 = .ok (.iadd, 1) := by decide +kernel
theorem dX6_pickByDeadline_35 : decode cX6_pickByDeadline 35 = .ok (.invokevirtual 102, 3) := by decide +kernel
theorem dX6_pickByDeadline_38 : decode cX6_pickByDeadline 38 = .ok (.ifCond .eq 38, 3) := by decide +kernel
theorem dX6_pickByDeadline_41 : decode cX6_pickByDeadline 41 = .ok (.aload_n 0, 1) := by decide +kernel
theorem dX6_pickByDeadline_42 : decode cX6_pickByDeadline 42 = .ok (.iload_n 3, 1) := by decide +kernel
theorem dX6_pickByDeadline_43 : decode cX6_pickByDeadline 43 = .ok (.invokevirtual 176, 3) := by decide +kernel
theorem dX6_pickByDeadline_46 : decode cX6_pickByDeadline 46 = .ok (.aload_n 0, 1) := by decide +kernel
theorem dX6_pickByDeadline_47 : decode cX6_pickByDeadline 47 = .ok (.getfield 9, 3) := by decide +kernel
theorem dX6_pickByDeadline_50 : decode cX6_pickByDeadline 50 = .ok (.if_icmp .gt 26, 3) := by decide +kernel
theorem dX6_pickByDeadline_53 : decode cX6_pickByDeadline 53 = .ok (.aload_n 0, 1) := by decide +kernel
theorem dX6_pickByDeadline_54 : decode cX6_pickByDeadline 54 = .ok (.iload_n 3, 1) := by decide +kernel
theorem dX6_pickByDeadline_55 : decode cX6_pickByDeadline 55 = .ok (.invokevirtual 179, 3) := by decide +kernel
theorem dX6_pickByDeadline_58 : decode cX6_pickByDeadline 58 = .ok (.istore 4, 2) := by decide +kernel
theorem dX6_pickByDeadline_60 : decode cX6_pickByDeadline 60 = .ok (.iload_n 1, 1) := by decide +kernel
theorem dX6_pickByDeadline_61 : decode cX6_pickByDeadline 61 = .ok (.iconst (-1), 1) := by decide +kernel
theorem dX6_pickByDeadline_62 : decode cX6_pickByDeadline 62 = .ok (.if_icmp .eq 9, 3) := by decide +kernel
theorem dX6_pickByDeadline_65 : decode cX6_pickByDeadline 65 = .ok (.iload 4, 2) := by decide +kernel
theorem dX6_pickByDeadline_67 : decode cX6_pickByDeadline 67 = .ok (.iload_n 2, 1) := by decide +kernel
theorem dX6_pickByDeadline_68 : decode cX6_pickByDeadline 68 = .ok (.if_icmp .ge 8, 3) := by decide +kernel
theorem dX6_pickByDeadline_71 : decode cX6_pickByDeadline 71 = .ok (.iload_n 3, 1) := by decide +kernel
theorem dX6_pickByDeadline_72 : decode cX6_pickByDeadline 72 = .ok (.istore_n 1, 1) := by decide +kernel
theorem dX6_pickByDeadline_73 : decode cX6_pickByDeadline 73 = .ok (.iload 4, 2) := by decide +kernel
theorem dX6_pickByDeadline_75 : decode cX6_pickByDeadline 75 = .ok (.istore_n 2, 1) := by decide +kernel
theorem dX6_pickByDeadline_76 : decode cX6_pickByDeadline 76 = .ok (.iinc 3 1, 3) := by decide +kernel
theorem dX6_pickByDeadline_79 : decode cX6_pickByDeadline 79 = .ok (.goto (-73), 3) := by decide +kernel
theorem dX6_pickByDeadline_82 : decode cX6_pickByDeadline 82 = .ok (.iload_n 1, 1) := by decide +kernel
theorem dX6_pickByDeadline_83 : decode cX6_pickByDeadline 83 = .ok (.ireturn, 1) := by decide +kernel
