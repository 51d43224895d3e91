theorem dX11_due_0 : decode cX11_due 0 = .ok (.aload_n 0, 1) := by decide +kernel
theorem dX11_due_1 : decode cX11_due 1 = .ok (.iload_n 1, 1) := by decide +kernel
theorem dX11_due_2 : decode cX11_due 2 = .ok (.invokevirtual 195, 3) := by decide +kernel
theorem dX11_due_5 : decode cX11_due 5 = .ok (.iload_n 2, 1) := by decide +kernel
theorem dX11_due_6 : decode cX11_due 6 = .ok (.ifCond .lt 19, 3) := by decide +kernel
theorem dX11_due_9 : decode cX11_due 9 = .ok (.iload_n 2, 1) := by decide +kernel
theorem dX11_due_10 : decode cX11_due 10 = .ok (.iconst 2, 1) := by decide +kernel
theorem dX11_due_11 : decode cX11_due 11 = .ok (.if_icmp .gt 14, 3) := by decide +kernel
theorem dX11_due_14 : decode cX11_due 14 = .ok (.aload_n 0, 1) := by decide +kernel
theorem dX11_due_15 : decode cX11_due 15 = .ok (.getfield 47, 3) := by decide +kernel
theorem dX11_due_18 : decode cX11_due 18 = .ok (.iload_n 1, 1) := by decide +kernel
theorem dX11_due_19 : decode cX11_due 19 = .ok (.invokevirtual 205, 3) := by decide +kernel
theorem dX11_due_22 : decode cX11_due 22 = .ok (.ifCond .ne 11, 3) := by decide +kernel
theorem dX11_due_25 : decode cX11_due 25 = .ok (.new 192, 3) := by decide +kernel
theorem dX11_due_28 : decode cX11_due 28 = .ok (.dup, 1) := by decide +kernel
theorem dX11_due_29 : decode cX11_due 29 = .ok (.invokespecial 194, 3) := by decide +kernel
theorem dX11_due_32 : decode cX11_due 32 = .ok (.athrow, 1) := by decide +kernel
theorem dX11_due_33 : decode cX11_due 33 = .ok (.iload_n 2, 1) := by decide +kernel
theorem dX11_due_34 : decode cX11_due 34 = .ok (.iconst 2, 1) := by decide +kernel
theorem dX11_due_35 : decode cX11_due 35 = .ok (.if_icmp .ne 12, 3) := by decide +kernel
theorem dX11_due_38 : decode cX11_due 38 = .ok (.aload_n 0, 1) := by decide +kernel
theorem dX11_due_39 : decode cX11_due 39 = .ok (.getfield 47, 3) := by decide +kernel
theorem dX11_due_42 : decode cX11_due 42 = .ok (.iload_n 1, 1) := by decide +kernel
theorem dX11_due_43 : decode cX11_due 43 = .ok (.invokevirtual 252, 3) := by decide +kernel
theorem dX11_due_46 : decode cX11_due 46 = .ok (.ireturn, 1) := by decide +kernel
theorem dX11_due_47 : decode cX11_due 47 = .ok (.aload_n 0, 1) := by decide +kernel
theorem dX11_due_48 : decode cX11_due 48 = .ok (.getfield 47, 3) := by decide +kernel
theorem dX11_due_51 : decode cX11_due 51 = .ok (.iload_n 1, 1) := by decide +kernel
theorem dX11_due_52 : decode cX11_due 52 = .ok (.iconst 0, 1) := by decide +kernel
theorem dX11_due_53 : decode cX11_due 53 = .ok (.invokevirtual 229, 3) := by decide +kernel
theorem dX11_due_56 : decode cX11_due 56 = .ok (.ifCond .ne 11, 3) := by decide +kernel
theorem dX11_due_59 : decode cX11_due 59 = .ok (.new 192, 3) := by decide +kernel
theorem dX11_due_62 : decode cX11_due 62 = .ok (.dup, 1) := by decide +kernel
theorem dX11_due_63 : decode cX11_due 63 = .ok (.invokespecial 194, 3) := by decide +kernel
theorem dX11_due_66 : decode cX11_due 66 = .ok (.athrow, 1) := by decide +kernel
theorem dX11_due_67 : decode cX11_due 67 = .ok (.iload_n 2, 1) := by decide +kernel
theorem dX11_due_68 : decode cX11_due 68 = .ok (.ifCond .ne 14, 3) := by decide +kernel
theorem dX11_due_71 : decode cX11_due 71 = .ok (.aload_n 0, 1) := by decide +kernel
theorem dX11_due_72 : decode cX11_due 72 = .ok (.getfield 47, 3) := by decide +kernel
theorem dX11_due_75 : decode cX11_due 75 = .ok (.iload_n 1, 1) := by decide +kernel
theorem dX11_due_76 : decode cX11_due 76 = .ok (.invokevirtual 255, 3) := by decide +kernel
theorem dX11_due_79 : decode cX11_due 79 = .ok (.goto 11, 3) := by decide +kernel
theorem dX11_due_82 : decode cX11_due 82 = .ok (.aload_n 0, 1) := by decide +kernel
theorem dX11_due_83 : decode cX11_due 83 = .ok (.getfield 47, 3) := by decide +kernel
theorem dX11_due_86 : decode cX11_due 86 = .ok (.iload_n 1, 1) := by decide +kernel
theorem dX11_due_87 : decode cX11_due 87 = .ok (.invokevirtual 258, 3) := by decide +kernel
theorem dX11_due_90 : decode cX11_due 90 = .ok (.ireturn, 1) := by decide +kernel
theorem dX11_come_0 : decode cX11_come 0 = .ok (.aload_n 0, 1) := by decide +kernel
theorem dX11_come_1 : decode cX11_come 1 = .ok (.getfield 26, 3) := by decide +kernel
theorem dX11_come_4 : decode cX11_come 4 = .ok (.iload_n 1, 1) := by decide +kernel
theorem dX11_come_5 : decode cX11_come 5 = .ok (.invokevirtual 261, 3) := by decide +kernel
theorem dX11_come_8 : decode cX11_come 8 = .ok (.ifCond .eq 14, 3) := by decide +kernel
theorem dX11_come_11 : decode cX11_come 11 = .ok (.iload_n 2, 1) := by decide +kernel
theorem dX11_come_12 : decode cX11_come 12 = .ok (.iconst 1, 1) := by decide +kernel
theorem dX11_come_13 : decode cX11_come 13 = .ok (.if_icmp .lt 9, 3) := by decide +kernel
theorem dX11_come_16 : decode cX11_come 16 = .ok (.iload_n 2, 1) := by decide +kernel
theorem dX11_come_17 : decode cX11_come 17 = .ok (.bipush 64, 2) := by decide +kernel
theorem dX11_come_19 : decode cX11_come 19 = .ok (.if_icmp .le 9, 3) := by decide +kernel
theorem dX11_come_22 : decode cX11_come 22 = .ok (.aload_n 0, 1) := by decide +kernel
theorem dX11_come_23 : decode cX11_come 23 = .ok (.iconst 1, 1) := by decide +kernel
theorem dX11_come_24 : decode cX11_come 24 = .ok (.invokevirtual 264, 3) := by decide +kernel
theorem dX11_come_27 : decode cX11_come 27 = .ok (.ireturn, 1) := by decide +kernel
theorem dX11_come_28 : decode cX11_come 28 = .ok (.aload_n 0, 1) := by decide +kernel
theorem dX11_come_29 : decode cX11_come 29 = .ok (.getfield 54, 3) := by decide +kernel
theorem dX11_come_32 : decode cX11_come 32 = .ok (.aload_n 0, 1) := by decide +kernel
theorem dX11_come_33 : decode cX11_come 33 = .ok (.getfield 47, 3) := by decide +kernel
theorem dX11_come_36 : decode cX11_come 36 = .ok (.invokevirtual 267, 3) := by decide +kernel
theorem dX11_come_39 : decode cX11_come 39 = .ok (.aload_n 0, 1) := by decide +kernel
theorem dX11_come_40 : decode cX11_come 40 = .ok (.getfield 47, 3) := by decide +kernel
theorem dX11_come_43 : decode cX11_come 43 = .ok (.iload_n 1, 1) := by decide +kernel
theorem dX11_come_44 : decode cX11_come 44 = .ok (.iload_n 2, 1) := by decide +kernel
theorem dX11_come_45 : decode cX11_come 45 = .ok (.invokevirtual 271, 3) := by decide +kernel
theorem dX11_come_48 : decode cX11_come 48 = .ok (.aload_n 0, 1) := by decide +kernel
theorem dX11_come_49 : decode cX11_come 49 = .ok (.getfield 47, 3) := by decide +kernel
theorem dX11_come_52 : decode cX11_come 52 = .ok (.iload_n 1, 1) := by decide +kernel
theorem dX11_come_53 : decode cX11_come 53 = .ok (.invokevirtual 220, 3) := by decide +kernel
theorem dX11_come_56 : decode cX11_come 56 = .ok (.ireturn, 1) := by decide +kernel
theorem dX11_units_0 : decode cX11_units 0 = .ok (.iload_n 1, 1) := by decide +kernel
theorem dX11_units_1 : decode cX11_units 1 = .ok (.iconst 1, 1) := by decide +kernel
theorem dX11_units_2 : decode cX11_units 2 = .ok (.if_icmp .lt 24, 3) := by decide +kernel
theorem dX11_units_5 : decode cX11_units 5 = .ok (.iload_n 1, 1) := by decide +kernel
theorem dX11_units_6 : decode cX11_units 6 = .ok (.bipush 100, 2) := by decide +kernel
theorem dX11_units_8 : decode cX11_units 8 = .ok (.if_icmp .gt 18, 3) := by decide +kernel
theorem dX11_units_11 : decode cX11_units 11 = .ok (.aload_n 0, 1) := by decide +kernel
theorem dX11_units_12 : decode cX11_units 12 = .ok (.getfield 47, 3) := by decide +kernel
theorem dX11_units_15 : decode cX11_units 15 = .ok (.getfield 156, 3) := by decide +kernel
theorem dX11_units_18 : decode cX11_units 18 = .ok (.iload_n 1, 1) := by decide +kernel
theorem dX11_units_19 : decode cX11_units 19 = .ok (.iadd, 1) := by decide +kernel
theorem dX11_units_20 : decode cX11_units 20 = .ok (.sipush 2000, 3) := by decide +kernel
theorem dX11_units_23 : decode cX11_units 23 = .ok (.if_icmp .le 9, 3) := by decide +kernel
theorem dX11_units_26 : decode cX11_units 26 = .ok (.aload_n 0, 1) := by decide +kernel
theorem dX11_units_27 : decode cX11_units 27 = .ok (.iconst 1, 1) := by decide +kernel
theorem dX11_units_28 : decode cX11_units 28 = .ok (.invokevirtual 264, 3) := by decide +kernel
theorem dX11_units_31 : decode cX11_units 31 = .ok (.ireturn, 1) := by decide +kernel
theorem dX11_units_32 : decode cX11_units 32 = .ok (.aload_n 0, 1) := by decide +kernel
theorem dX11_units_33 : decode cX11_units 33 = .ok (.getfield 54, 3) := by decide +kernel
theorem dX11_units_36 : decode cX11_units 36 = .ok (.aload_n 0, 1) := by decide +kernel
theorem dX11_units_37 : decode cX11_units 37 = .ok (.getfield 47, 3) := by decide +kernel
theorem dX11_units_40 : decode cX11_units 40 = .ok (.invokevirtual 267, 3) := by decide +kernel
theorem dX11_units_43 : decode cX11_units 43 = .ok (.aload_n 0, 1) := by decide +kernel
theorem dX11_units_44 : decode cX11_units 44 = .ok (.getfield 47, 3) := by decide +kernel
theorem dX11_units_47 : decode cX11_units 47 = .ok (.iload_n 1, 1) := by decide +kernel
theorem dX11_units_48 : decode cX11_units 48 = .ok (.invokevirtual 275, 3) := by decide +kernel
theorem dX11_units_51 : decode cX11_units 51 = .ok (.aload_n 0, 1) := by decide +kernel
theorem dX11_units_52 : decode cX11_units 52 = .ok (.getfield 47, 3) := by decide +kernel
theorem dX11_units_55 : decode cX11_units 55 = .ok (.getfield 156, 3) := by decide +kernel
theorem dX11_units_58 : decode cX11_units 58 = .ok (.ireturn, 1) := by decide +kernel
theorem dX11_undo_0 : decode cX11_undo 0 = .ok (.aload_n 0, 1) := by decide +kernel
theorem dX11_undo_1 : decode cX11_undo 1 = .ok (.getfield 54, 3) := by decide +kernel
theorem dX11_undo_4 : decode cX11_undo 4 = .ok (.invokevirtual 186, 3) := by decide +kernel
theorem dX11_undo_7 : decode cX11_undo 7 = .ok (.ifCond .ne 5, 3) := by decide +kernel
theorem dX11_undo_10 : decode cX11_undo 10 = .ok (.iconst (-1), 1) := by decide +kernel
theorem dX11_undo_11 : decode cX11_undo 11 = .ok (.ireturn, 1) := by decide +kernel
theorem dX11_undo_12 : decode cX11_undo 12 = .ok (.aload_n 0, 1) := by decide +kernel
theorem dX11_undo_13 : decode cX11_undo 13 = .ok (.getfield 54, 3) := by decide +kernel
theorem dX11_undo_16 : decode cX11_undo 16 = .ok (.aload_n 0, 1) := by decide +kernel
theorem dX11_undo_17 : decode cX11_undo 17 = .ok (.getfield 47, 3) := by decide +kernel
theorem dX11_undo_20 : decode cX11_undo 20 = .ok (.invokevirtual 311, 3) := by decide +kernel
theorem dX11_undo_23 : decode cX11_undo 23 = .ok (.aload_n 0, 1) := by decide +kernel
theorem dX11_undo_24 : decode cX11_undo 24 = .ok (.getfield 54, 3) := by decide +kernel
theorem dX11_undo_27 : decode cX11_undo 27 = .ok (.invokevirtual 186, 3) := by decide +kernel
theorem dX11_undo_30 : decode cX11_undo 30 = .ok (.ireturn, 1) := by decide +kernel
theorem dX11_next_0 : decode cX11_next 0 = .ok (.iload_n 2, 1) := by decide +kernel
theorem dX11_next_1 : decode cX11_next 1 = .ok (.ifCond .lt 8, 3) := by decide +kernel
theorem dX11_next_4 : decode cX11_next 4 = .ok (.iload_n 2, 1) := by decide +kernel
theorem dX11_next_5 : decode cX11_next 5 = .ok (.iconst 2, 1) := by decide +kernel
theorem dX11_next_6 : decode cX11_next 6 = .ok (.if_icmp .le 11, 3) := by decide +kernel
theorem dX11_next_9 : decode cX11_next 9 = .ok (.new 192, 3) := by decide +kernel
theorem dX11_next_12 : decode cX11_next 12 = .ok (.dup, 1) := by decide +kernel
theorem dX11_next_13 : decode cX11_next 13 = .ok (.invokespecial 194, 3) := by decide +kernel
theorem dX11_next_16 : decode cX11_next 16 = .ok (.athrow, 1) := by decide +kernel
theorem dX11_next_17 : decode cX11_next 17 = .ok (.iload_n 1, 1) := by decide +kernel
theorem dX11_next_18 : decode cX11_next 18 = .ok (.iconst 1, 1) := by decide +kernel
theorem dX11_next_19 : decode cX11_next 19 = .ok (.bipush 20, 2) := by decide +kernel
theorem dX11_next_21 : decode cX11_next 21 = .ok (.invokestatic 320, 3) := by decide +kernel
theorem dX11_next_24 : decode cX11_next 24 = .ok (.aload_n 0, 1) := by decide +kernel
theorem dX11_next_25 : decode cX11_next 25 = .ok (.getfield 98, 3) := by decide +kernel
theorem dX11_next_28 : decode cX11_next 28 = .ok (.iload_n 1, 1) := by decide +kernel
theorem dX11_next_29 : decode cX11_next 29 = .ok (.iload_n 2, 1) := by decide +kernel
theorem dX11_next_30 : decode cX11_next 30 = .ok (.invokevirtual 331, 3) := by decide +kernel
theorem dX11_next_33 : decode cX11_next 33 = .ok (.ireturn, 1) := by decide +kernel
theorem dX11_years_0 : decode cX11_years 0 = .ok (.iload_n 3, 1) := by decide +kernel
theorem dX11_years_1 : decode cX11_years 1 = .ok (.ifCond .lt 8, 3) := by decide +kernel
theorem dX11_years_4 : decode cX11_years 4 = .ok (.iload_n 3, 1) := by decide +kernel
theorem dX11_years_5 : decode cX11_years 5 = .ok (.iconst 2, 1) := by decide +kernel
theorem dX11_years_6 : decode cX11_years 6 = .ok (.if_icmp .le 11, 3) := by decide +kernel
theorem dX11_years_9 : decode cX11_years 9 = .ok (.new 192, 3) := by decide +kernel
theorem dX11_years_12 : decode cX11_years 12 = .ok (.dup, 1) := by decide +kernel
theorem dX11_years_13 : decode cX11_years 13 = .ok (.invokespecial 194, 3) := by decide +kernel
theorem dX11_years_16 : decode cX11_years 16 = .ok (.athrow, 1) := by decide +kernel
theorem dX11_years_17 : decode cX11_years 17 = .ok (.iload_n 2, 1) := by decide +kernel
theorem dX11_years_18 : decode cX11_years 18 = .ok (.iconst 0, 1) := by decide +kernel
theorem dX11_years_19 : decode cX11_years 19 = .ok (.bipush 60, 2) := by decide +kernel
theorem dX11_years_21 : decode cX11_years 21 = .ok (.invokestatic 320, 3) := by decide +kernel
theorem dX11_years_24 : decode cX11_years 24 = .ok (.aload_n 0, 1) := by decide +kernel
theorem dX11_years_25 : decode cX11_years 25 = .ok (.getfield 114, 3) := by decide +kernel
theorem dX11_years_28 : decode cX11_years 28 = .ok (.iload_n 1, 1) := by decide +kernel
theorem dX11_years_29 : decode cX11_years 29 = .ok (.iload_n 2, 1) := by decide +kernel
theorem dX11_years_30 : decode cX11_years 30 = .ok (.iload_n 3, 1) := by decide +kernel
theorem dX11_years_31 : decode cX11_years 31 = .ok (.invokevirtual 383, 3) := by decide +kernel
theorem dX11_years_34 : decode cX11_years 34 = .ok (.ireturn, 1) := by decide +kernel
theorem dX11_told_0 : decode cX11_told 0 = .ok (.aload_n 0, 1) := by decide +kernel
theorem dX11_told_1 : decode cX11_told 1 = .ok (.iload_n 1, 1) := by decide +kernel
theorem dX11_told_2 : decode cX11_told 2 = .ok (.invokevirtual 195, 3) := by decide +kernel
theorem dX11_told_5 : decode cX11_told 5 = .ok (.aload_n 0, 1) := by decide +kernel
theorem dX11_told_6 : decode cX11_told 6 = .ok (.getfield 121, 3) := by decide +kernel
theorem dX11_told_9 : decode cX11_told 9 = .ok (.iload_n 1, 1) := by decide +kernel
theorem dX11_told_10 : decode cX11_told 10 = .ok (.aload_n 0, 1) := by decide +kernel
theorem dX11_told_11 : decode cX11_told 11 = .ok (.getfield 26, 3) := by decide +kernel
theorem dX11_told_14 : decode cX11_told 14 = .ok (.aload_n 0, 1) := by decide +kernel
theorem dX11_told_15 : decode cX11_told 15 = .ok (.getfield 47, 3) := by decide +kernel
theorem dX11_told_18 : decode cX11_told 18 = .ok (.getfield 233, 3) := by decide +kernel
theorem dX11_told_21 : decode cX11_told 21 = .ok (.invokevirtual 386, 3) := by decide +kernel
theorem dX11_told_24 : decode cX11_told 24 = .ok (.iload_n 2, 1) := by decide +kernel
theorem dX11_told_25 : decode cX11_told 25 = .ok (.iconst (-1), 1) := by decide +kernel
theorem dX11_told_26 : decode cX11_told 26 = .ok (.if_icmp .ne 11, 3) := by decide +kernel
theorem dX11_told_29 : decode cX11_told 29 = .ok (.aload_n 0, 1) := by decide +kernel
theorem dX11_told_30 : decode cX11_told 30 = .ok (.getfield 121, 3) := by decide +kernel
theorem dX11_told_33 : decode cX11_told 33 = .ok (.getfield 390, 3) := by decide +kernel
theorem dX11_told_36 : decode cX11_told 36 = .ok (.ireturn, 1) := by decide +kernel
theorem dX11_told_37 : decode cX11_told 37 = .ok (.iload_n 2, 1) := by decide +kernel
theorem dX11_told_38 : decode cX11_told 38 = .ok (.ifCond .lt 14, 3) := by decide +kernel
theorem dX11_told_41 : decode cX11_told 41 = .ok (.iload_n 2, 1) := by decide +kernel
theorem dX11_told_42 : decode cX11_told 42 = .ok (.aload_n 0, 1) := by decide +kernel
theorem dX11_told_43 : decode cX11_told 43 = .ok (.getfield 121, 3) := by decide +kernel
theorem dX11_told_46 : decode cX11_told 46 = .ok (.getfield 390, 3) := by decide +kernel
theorem dX11_told_49 : decode cX11_told 49 = .ok (.if_icmp .lt 11, 3) := by decide +kernel
theorem dX11_told_52 : decode cX11_told 52 = .ok (.new 192, 3) := by decide +kernel
theorem dX11_told_55 : decode cX11_told 55 = .ok (.dup, 1) := by decide +kernel
theorem dX11_told_56 : decode cX11_told 56 = .ok (.invokespecial 194, 3) := by decide +kernel
theorem dX11_told_59 : decode cX11_told 59 = .ok (.athrow, 1) := by decide +kernel
theorem dX11_told_60 : decode cX11_told 60 = .ok (.aload_n 0, 1) := by decide +kernel
theorem dX11_told_61 : decode cX11_told 61 = .ok (.getfield 121, 3) := by decide +kernel
theorem dX11_told_64 : decode cX11_told 64 = .ok (.getfield 393, 3) := by decide +kernel
theorem dX11_told_67 : decode cX11_told 67 = .ok (.iload_n 2, 1) := by decide +kernel
theorem dX11_told_68 : decode cX11_told 68 = .ok (.iaload, 1) := by decide +kernel
theorem dX11_told_69 : decode cX11_told 69 = .ok (.ireturn, 1) := by decide +kernel
theorem dX11_image_0 : decode cX11_image 0 = .ok (.aload_n 0, 1) := by decide +kernel
theorem dX11_image_1 : decode cX11_image 1 = .ok (.getfield 69, 3) := by decide +kernel
theorem dX11_image_4 : decode cX11_image 4 = .ok (.aload_n 0, 1) := by decide +kernel
theorem dX11_image_5 : decode cX11_image 5 = .ok (.getfield 47, 3) := by decide +kernel
theorem dX11_image_8 : decode cX11_image 8 = .ok (.invokevirtual 396, 3) := by decide +kernel
theorem dX11_image_11 : decode cX11_image 11 = .ok (.aload_n 0, 1) := by decide +kernel
theorem dX11_image_12 : decode cX11_image 12 = .ok (.getfield 72, 3) := by decide +kernel
theorem dX11_image_15 : decode cX11_image 15 = .ok (.aload_n 0, 1) := by decide +kernel
theorem dX11_image_16 : decode cX11_image 16 = .ok (.getfield 54, 3) := by decide +kernel
theorem dX11_image_19 : decode cX11_image 19 = .ok (.invokevirtual 398, 3) := by decide +kernel
theorem dX11_image_22 : decode cX11_image 22 = .ok (.aload_n 0, 1) := by decide +kernel
theorem dX11_image_23 : decode cX11_image 23 = .ok (.getfield 75, 3) := by decide +kernel
theorem dX11_image_26 : decode cX11_image 26 = .ok (.aload_n 0, 1) := by decide +kernel
theorem dX11_image_27 : decode cX11_image 27 = .ok (.getfield 61, 3) := by decide +kernel
theorem dX11_image_30 : decode cX11_image 30 = .ok (.invokevirtual 401, 3) := by decide +kernel
theorem dX11_image_33 : decode cX11_image 33 = .ok (.aload_n 0, 1) := by decide +kernel
theorem dX11_image_34 : decode cX11_image 34 = .ok (.getfield 20, 3) := by decide +kernel
theorem dX11_image_37 : decode cX11_image 37 = .ok (.iconst 0, 1) := by decide +kernel
theorem dX11_image_38 : decode cX11_image 38 = .ok (.aload_n 0, 1) := by decide +kernel
theorem dX11_image_39 : decode cX11_image 39 = .ok (.getfield 78, 3) := by decide +kernel
theorem dX11_image_42 : decode cX11_image 42 = .ok (.iconst 0, 1) := by decide +kernel
theorem dX11_image_43 : decode cX11_image 43 = .ok (.aload_n 0, 1) := by decide +kernel
theorem dX11_image_44 : decode cX11_image 44 = .ok (.getfield 20, 3) := by decide +kernel
theorem dX11_image_47 : decode cX11_image 47 = .ok (.arraylength, 1) := by decide +kernel
theorem dX11_image_48 : decode cX11_image 48 = .ok (.invokestatic 404, 3) := by decide +kernel
theorem dX11_image_51 : decode cX11_image 51 = .ok (.aload_n 0, 1) := by decide +kernel
theorem dX11_image_52 : decode cX11_image 52 = .ok (.iconst 1, 1) := by decide +kernel
theorem dX11_image_53 : decode cX11_image 53 = .ok (.putfield 65, 3) := by decide +kernel
theorem dX11_image_56 : decode cX11_image 56 = .ok (.return_, 1) := by decide +kernel
theorem dX11_restore_0 : decode cX11_restore 0 = .ok (.aload_n 0, 1) := by decide +kernel
theorem dX11_restore_1 : decode cX11_restore 1 = .ok (.getfield 65, 3) := by decide +kernel
theorem dX11_restore_4 : decode cX11_restore 4 = .ok (.ifCond .ne 5, 3) := by decide +kernel
theorem dX11_restore_7 : decode cX11_restore 7 = .ok (.iconst 0, 1) := by decide +kernel
theorem dX11_restore_8 : decode cX11_restore 8 = .ok (.ireturn, 1) := by decide +kernel
theorem dX11_restore_9 : decode cX11_restore 9 = .ok (.aload_n 0, 1) := by decide +kernel
theorem dX11_restore_10 : decode cX11_restore 10 = .ok (.getfield 47, 3) := by decide +kernel
theorem dX11_restore_13 : decode cX11_restore 13 = .ok (.aload_n 0, 1) := by decide +kernel
theorem dX11_restore_14 : decode cX11_restore 14 = .ok (.getfield 69, 3) := by decide +kernel
theorem dX11_restore_17 : decode cX11_restore 17 = .ok (.invokevirtual 396, 3) := by decide +kernel
theorem dX11_restore_20 : decode cX11_restore 20 = .ok (.aload_n 0, 1) := by decide +kernel
theorem dX11_restore_21 : decode cX11_restore 21 = .ok (.getfield 54, 3) := by decide +kernel
theorem dX11_restore_24 : decode cX11_restore 24 = .ok (.aload_n 0, 1) := by decide +kernel
theorem dX11_restore_25 : decode cX11_restore 25 = .ok (.getfield 72, 3) := by decide +kernel
theorem dX11_restore_28 : decode cX11_restore 28 = .ok (.invokevirtual 398, 3) := by decide +kernel
theorem dX11_restore_31 : decode cX11_restore 31 = .ok (.aload_n 0, 1) := by decide +kernel
theorem dX11_restore_32 : decode cX11_restore 32 = .ok (.getfield 61, 3) := by decide +kernel
theorem dX11_restore_35 : decode cX11_restore 35 = .ok (.aload_n 0, 1) := by decide +kernel
theorem dX11_restore_36 : decode cX11_restore 36 = .ok (.getfield 75, 3) := by decide +kernel
theorem dX11_restore_39 : decode cX11_restore 39 = .ok (.invokevirtual 401, 3) := by decide +kernel
theorem dX11_restore_42 : decode cX11_restore 42 = .ok (.aload_n 0, 1) := by decide +kernel
theorem dX11_restore_43 : decode cX11_restore 43 = .ok (.getfield 78, 3) := by decide +kernel
theorem dX11_restore_46 : decode cX11_restore 46 = .ok (.iconst 0, 1) := by decide +kernel
theorem dX11_restore_47 : decode cX11_restore 47 = .ok (.aload_n 0, 1) := by decide +kernel
theorem dX11_restore_48 : decode cX11_restore 48 = .ok (.getfield 20, 3) := by decide +kernel
theorem dX11_restore_51 : decode cX11_restore 51 = .ok (.iconst 0, 1) := by decide +kernel
theorem dX11_restore_52 : decode cX11_restore 52 = .ok (.aload_n 0, 1) := by decide +kernel
theorem dX11_restore_53 : decode cX11_restore 53 = .ok (.getfield 20, 3) := by decide +kernel
theorem dX11_restore_56 : decode cX11_restore 56 = .ok (.arraylength, 1) := by decide +kernel
theorem dX11_restore_57 : decode cX11_restore 57 = .ok (.invokestatic 404, 3) := by decide +kernel
theorem dX11_restore_60 : decode cX11_restore 60 = .ok (.iconst 1, 1) := by decide +kernel
theorem dX11_restore_61 : decode cX11_restore 61 = .ok (.ireturn, 1) := by decide +kernel
theorem dX11_refuse_0 : decode cX11_refuse 0 = .ok (.aload_n 0, 1) := by decide +kernel
theorem dX11_refuse_1 : decode cX11_refuse 1 = .ok (.getfield 20, 3) := by decide +kernel
theorem dX11_refuse_4 : decode cX11_refuse 4 = .ok (.iload_n 1, 1) := by decide +kernel
theorem dX11_refuse_5 : decode cX11_refuse 5 = .ok (.dup2, 1) := by decide +kernel
theorem dX11_refuse_6 : decode cX11_refuse 6 = .ok (.iaload, 1) := by decide +kernel
theorem dX11_refuse_7 : decode cX11_refuse 7 = .ok (.iconst 1, 1) := by decide +kernel
theorem dX11_refuse_8 : decode cX11_refuse 8 = .ok (.iadd, 1) := by decide +kernel
theorem dX11_refuse_9 : decode cX11_refuse 9 = .ok (.iastore, 1) := by decide +kernel
theorem dX11_refuse_10 : decode cX11_refuse 10 = .ok (.iconst (-1), 1) := by decide +kernel
theorem dX11_refuse_11 : decode cX11_refuse 11 = .ok (.ireturn, 1) := by decide +kernel
theorem dX11_needClass_0 : decode cX11_needClass 0 = .ok (.aload_n 0, 1) := by decide +kernel
theorem dX11_needClass_1 : decode cX11_needClass 1 = .ok (.getfield 26, 3) := by decide +kernel
theorem dX11_needClass_4 : decode cX11_needClass 4 = .ok (.iload_n 1, 1) := by decide +kernel
theorem dX11_needClass_5 : decode cX11_needClass 5 = .ok (.invokevirtual 278, 3) := by decide +kernel
theorem dX11_needClass_8 : decode cX11_needClass 8 = .ok (.ifCond .ne 11, 3) := by decide +kernel
theorem dX11_needClass_11 : decode cX11_needClass 11 = .ok (.new 192, 3) := by decide +kernel
theorem dX11_needClass_14 : decode cX11_needClass 14 = .ok (.dup, 1) := by decide +kernel
theorem dX11_needClass_15 : decode cX11_needClass 15 = .ok (.invokespecial 194, 3) := by decide +kernel
theorem dX11_needClass_18 : decode cX11_needClass 18 = .ok (.athrow, 1) := by decide +kernel
theorem dX11_needClass_19 : decode cX11_needClass 19 = .ok (.return_, 1) := by decide +kernel
theorem dX11_needRange_0 : decode cX11_needRange 0 = .ok (.iload_n 0, 1) := by decide +kernel
theorem dX11_needRange_1 : decode cX11_needRange 1 = .ok (.iload_n 1, 1) := by decide +kernel
theorem dX11_needRange_2 : decode cX11_needRange 2 = .ok (.if_icmp .lt 8, 3) := by decide +kernel
theorem dX11_needRange_5 : decode cX11_needRange 5 = .ok (.iload_n 0, 1) := by decide +kernel
theorem dX11_needRange_6 : decode cX11_needRange 6 = .ok (.iload_n 2, 1) := by decide +kernel
theorem dX11_needRange_7 : decode cX11_needRange 7 = .ok (.if_icmp .le 11, 3) := by decide +kernel
theorem dX11_needRange_10 : decode cX11_needRange 10 = .ok (.new 129, 3) := by decide +kernel
theorem dX11_needRange_13 : decode cX11_needRange 13 = .ok (.dup, 1) := by decide +kernel
theorem dX11_needRange_14 : decode cX11_needRange 14 = .ok (.invokespecial 131, 3) := by decide +kernel
theorem dX11_needRange_17 : decode cX11_needRange 17 = .ok (.athrow, 1) := by decide +kernel
theorem dX11_needRange_18 : decode cX11_needRange 18 = .ok (.return_, 1) := by decide +kernel
theorem dJ9_max_7cf53_0 : decode cJ9_max_7cf53 0 = .ok (.iload_n 0, 1) := by decide +kernel
theorem dJ9_max_7cf53_1 : decode cJ9_max_7cf53 1 = .ok (.iload_n 1, 1) := by decide +kernel
theorem dJ9_max_7cf53_2 : decode cJ9_max_7cf53 2 = .ok (.if_icmp .lt 7, 3) := by decide +kernel
theorem dJ9_max_7cf53_5 : decode cJ9_max_7cf53 5 = .ok (.iload_n 0, 1) := by decide +kernel
theorem dJ9_max_7cf53_6 : decode cJ9_max_7cf53 6 = .ok (.goto 4, 3) := by decide +kernel
theorem dJ9_max_7cf53_9 : decode cJ9_max_7cf53 9 = .ok (.iload_n 1, 1) := by decide +kernel
theorem dJ9_max_7cf53_10 : decode cJ9_max_7cf53 10 = .ok (.ireturn, 1) := by decide +kernel
theorem dJ0_length_8abf5_0 : decode cJ0_length_8abf5 0 = .ok (.aload_n 0, 1) := by decide +kernel
theorem dJ0_length_8abf5_1 : decode cJ0_length_8abf5 1 = .ok (.getfield 9, 3) := by decide +kernel
theorem dJ0_length_8abf5_4 : decode cJ0_length_8abf5 4 = .ok (.arraylength, 1) := by decide +kernel
theorem dJ0_length_8abf5_5 : decode cJ0_length_8abf5 5 = .ok (.aload_n 0, 1) := by decide +kernel
theorem dJ0_length_8abf5_6 : decode cJ0_length_8abf5 6 = .ok (.invokevirtual 335, 3) := by decide +kernel
theorem dJ0_length_8abf5_9 : decode cJ0_length_8abf5 9 = .ok (.ishr, 1) := by decide +kernel
theorem dJ0_length_8abf5_10 : decode cJ0_length_8abf5 10 = .ok (.ireturn, 1) := by decide +kernel
theorem dJ0_charAt_5068e_0 : decode cJ0_charAt_5068e 0 = .ok (.aload_n 0, 1) := by decide +kernel
theorem dJ0_charAt_5068e_1 : decode cJ0_charAt_5068e 1 = .ok (.invokevirtual 492, 3) := by decide +kernel
theorem dJ0_charAt_5068e_4 : decode cJ0_charAt_5068e 4 = .ok (.ifCond .eq 12, 3) := by decide +kernel
theorem dJ0_charAt_5068e_7 : decode cJ0_charAt_5068e 7 = .ok (.aload_n 0, 1) := by decide +kernel
theorem dJ0_charAt_5068e_8 : decode cJ0_charAt_5068e 8 = .ok (.getfield 9, 3) := by decide +kernel
theorem dJ0_charAt_5068e_11 : decode cJ0_charAt_5068e 11 = .ok (.iload_n 1, 1) := by decide +kernel
theorem dJ0_charAt_5068e_12 : decode cJ0_charAt_5068e 12 = .ok (.invokestatic 495, 3) := by decide +kernel
theorem dJ0_charAt_5068e_15 : decode cJ0_charAt_5068e 15 = .ok (.ireturn, 1) := by decide +kernel
theorem dJ0_charAt_5068e_16 : decode cJ0_charAt_5068e 16 = .ok (.aload_n 0, 1) := by decide +kernel
theorem dJ0_charAt_5068e_17 : decode cJ0_charAt_5068e 17 = .ok (.getfield 9, 3) := by decide +kernel
theorem dJ0_charAt_5068e_20 : decode cJ0_charAt_5068e 20 = .ok (.iload_n 1, 1) := by decide +kernel
theorem dJ0_charAt_5068e_21 : decode cJ0_charAt_5068e 21 = .ok (.invokestatic 498, 3) := by decide +kernel
theorem dJ0_charAt_5068e_24 : decode cJ0_charAt_5068e 24 = .ok (.ireturn, 1) := by decide +kernel
theorem dJ0_coder_7d493_0 : decode cJ0_coder_7d493 0 = .ok (.getstatic 38, 3) := by decide +kernel
theorem dJ0_coder_7d493_3 : decode cJ0_coder_7d493 3 = .ok (.ifCond .eq 10, 3) := by decide +kernel
theorem dJ0_coder_7d493_6 : decode cJ0_coder_7d493 6 = .ok (.aload_n 0, 1) := by decide +kernel
theorem dJ0_coder_7d493_7 : decode cJ0_coder_7d493 7 = .ok (.getfield 15, 3) := by decide +kernel
theorem dJ0_coder_7d493_10 : decode cJ0_coder_7d493 10 = .ok (.goto 4, 3) := by decide +kernel
theorem dJ0_coder_7d493_13 : decode cJ0_coder_7d493 13 = .ok (.iconst 1, 1) := by decide +kernel
theorem dJ0_coder_7d493_14 : decode cJ0_coder_7d493 14 = .ok (.ireturn, 1) := by decide +kernel
theorem dJ0_isLatin1_aae02_0 : decode cJ0_isLatin1_aae02 0 = .ok (.getstatic 38, 3) := by decide +kernel
theorem dJ0_isLatin1_aae02_3 : decode cJ0_isLatin1_aae02 3 = .ok (.ifCond .eq 14, 3) := by decide +kernel
theorem dJ0_isLatin1_aae02_6 : decode cJ0_isLatin1_aae02 6 = .ok (.aload_n 0, 1) := by decide +kernel
theorem dJ0_isLatin1_aae02_7 : decode cJ0_isLatin1_aae02 7 = .ok (.getfield 15, 3) := by decide +kernel
theorem dJ0_isLatin1_aae02_10 : decode cJ0_isLatin1_aae02 10 = .ok (.ifCond .ne 7, 3) := by decide +kernel
theorem dJ0_isLatin1_aae02_13 : decode cJ0_isLatin1_aae02 13 = .ok (.iconst 1, 1) := by decide +kernel
theorem dJ0_isLatin1_aae02_14 : decode cJ0_isLatin1_aae02 14 = .ok (.goto 4, 3) := by decide +kernel
theorem dJ0_isLatin1_aae02_17 : decode cJ0_isLatin1_aae02 17 = .ok (.iconst 0, 1) := by decide +kernel
theorem dJ0_isLatin1_aae02_18 : decode cJ0_isLatin1_aae02 18 = .ok (.ireturn, 1) := by decide +kernel
theorem dJ0_checkIndex_df160_0 : decode cJ0_checkIndex_df160 0 = .ok (.iload_n 0, 1) := by decide +kernel
theorem dJ0_checkIndex_df160_1 : decode cJ0_checkIndex_df160 1 = .ok (.iload_n 1, 1) := by decide +kernel
theorem dJ0_checkIndex_df160_2 : decode cJ0_checkIndex_df160 2 = .ok (.getstatic 1053, 3) := by decide +kernel
theorem dJ0_checkIndex_df160_5 : decode cJ0_checkIndex_df160 5 = .ok (.invokestatic 1059, 3) := by decide +kernel
theorem dJ0_checkIndex_df160_8 : decode cJ0_checkIndex_df160 8 = .ok (.pop, 1) := by decide +kernel
theorem dJ0_checkIndex_df160_9 : decode cJ0_checkIndex_df160 9 = .ok (.return_, 1) := by decide +kernel
theorem dJ1_charAt_3b067_0 : decode cJ1_charAt_3b067 0 = .ok (.iload_n 1, 1) := by decide +kernel
theorem dJ1_charAt_3b067_1 : decode cJ1_charAt_3b067 1 = .ok (.aload_n 0, 1) := by decide +kernel
theorem dJ1_charAt_3b067_2 : decode cJ1_charAt_3b067 2 = .ok (.arraylength, 1) := by decide +kernel
theorem dJ1_charAt_3b067_3 : decode cJ1_charAt_3b067 3 = .ok (.invokestatic 9, 3) := by decide +kernel
theorem dJ1_charAt_3b067_6 : decode cJ1_charAt_3b067 6 = .ok (.aload_n 0, 1) := by decide +kernel
theorem dJ1_charAt_3b067_7 : decode cJ1_charAt_3b067 7 = .ok (.iload_n 1, 1) := by decide +kernel
theorem dJ1_charAt_3b067_8 : decode cJ1_charAt_3b067 8 = .ok (.baload, 1) := by decide +kernel
theorem dJ1_charAt_3b067_9 : decode cJ1_charAt_3b067 9 = .ok (.sipush 255, 3) := by decide +kernel
theorem dJ1_charAt_3b067_12 : decode cJ1_charAt_3b067 12 = .ok (.iand, 1) := by decide +kernel
theorem dJ1_charAt_3b067_13 : decode cJ1_charAt_3b067 13 = .ok (.i2c, 1) := by decide +kernel
theorem dJ1_charAt_3b067_14 : decode cJ1_charAt_3b067 14 = .ok (.ireturn, 1) := by decide +kernel
theorem dJ2_getChar_3b067_0 : decode cJ2_getChar_3b067 0 = .ok (.getstatic 44, 3) := by decide +kernel
theorem dJ2_getChar_3b067_3 : decode cJ2_getChar_3b067 3 = .ok (.ifCond .ne 25, 3) := by decide +kernel
theorem dJ2_getChar_3b067_6 : decode cJ2_getChar_3b067 6 = .ok (.iload_n 1, 1) := by decide +kernel
theorem dJ2_getChar_3b067_7 : decode cJ2_getChar_3b067 7 = .ok (.ifCond .lt 11, 3) := by decide +kernel
theorem dJ2_getChar_3b067_10 : decode cJ2_getChar_3b067 10 = .ok (.iload_n 1, 1) := by decide +kernel
theorem dJ2_getChar_3b067_11 : decode cJ2_getChar_3b067 11 = .ok (.aload_n 0, 1) := by decide +kernel
theorem dJ2_getChar_3b067_12 : decode cJ2_getChar_3b067 12 = .ok (.invokestatic 48, 3) := by decide +kernel
theorem dJ2_getChar_3b067_15 : decode cJ2_getChar_3b067 15 = .ok (.if_icmp .lt 13, 3) := by decide +kernel
theorem dJ2_getChar_3b067_18 : decode cJ2_getChar_3b067 18 = .ok (.new 52, 3) := by decide +kernel
theorem dJ2_getChar_3b067_21 : decode cJ2_getChar_3b067 21 = .ok (.dup, 1) := by decide +kernel
theorem dJ2_getChar_3b067_22 : decode cJ2_getChar_3b067 22 = .ok (.ldc 54, 2) := by decide +kernel
theorem dJ2_getChar_3b067_24 : decode cJ2_getChar_3b067 24 = .ok (.invokespecial 56, 3) := by decide +kernel
theorem dJ2_getChar_3b067_27 : decode cJ2_getChar_3b067 27 = .ok (.athrow, 1) := by decide +kernel
theorem dJ2_getChar_3b067_28 : decode cJ2_getChar_3b067 28 = .ok (.iload_n 1, 1) := by decide +kernel
theorem dJ2_getChar_3b067_29 : decode cJ2_getChar_3b067 29 = .ok (.iconst 1, 1) := by decide +kernel
theorem dJ2_getChar_3b067_30 : decode cJ2_getChar_3b067 30 = .ok (.ishl, 1) := by decide +kernel
theorem dJ2_getChar_3b067_31 : decode cJ2_getChar_3b067 31 = .ok (.istore_n 1, 1) := by decide +kernel
theorem dJ2_getChar_3b067_32 : decode cJ2_getChar_3b067 32 = .ok (.aload_n 0, 1) := by decide +kernel
theorem dJ2_getChar_3b067_33 : decode cJ2_getChar_3b067 33 = .ok (.iload_n 1, 1) := by decide +kernel
theorem dJ2_getChar_3b067_34 : decode cJ2_getChar_3b067 34 = .ok (.iinc 1 1, 3) := by decide +kernel
theorem dJ2_getChar_3b067_37 : decode cJ2_getChar_3b067 37 = .ok (.baload, 1) := by decide +kernel
theorem dJ2_getChar_3b067_38 : decode cJ2_getChar_3b067 38 = .ok (.sipush 255, 3) := by decide +kernel
theorem dJ2_getChar_3b067_41 : decode cJ2_getChar_3b067 41 = .ok (.iand, 1) := by decide +kernel
theorem dJ2_getChar_3b067_42 : decode cJ2_getChar_3b067 42 = .ok (.getstatic 59, 3) := by decide +kernel
theorem dJ2_getChar_3b067_45 : decode cJ2_getChar_3b067 45 = .ok (.ishl, 1) := by decide +kernel
theorem dJ2_getChar_3b067_46 : decode cJ2_getChar_3b067 46 = .ok (.aload_n 0, 1) := by decide +kernel
theorem dJ2_getChar_3b067_47 : decode cJ2_getChar_3b067 47 = .ok (.iload_n 1, 1) := by decide +kernel
theorem dJ2_getChar_3b067_48 : decode cJ2_getChar_3b067 48 = .ok (.baload, 1) := by decide +kernel
theorem dJ2_getChar_3b067_49 : decode cJ2_getChar_3b067 49 = .ok (.sipush 255, 3) := by decide +kernel
theorem dJ2_getChar_3b067_52 : decode cJ2_getChar_3b067 52 = .ok (.iand, 1) := by decide +kernel
theorem dJ2_getChar_3b067_53 : decode cJ2_getChar_3b067 53 = .ok (.getstatic 63, 3) := by decide +kernel
theorem dJ2_getChar_3b067_56 : decode cJ2_getChar_3b067 56 = .ok (.ishl, 1) := by decide +kernel
theorem dJ2_getChar_3b067_57 : decode cJ2_getChar_3b067 57 = .ok (.ior, 1) := by decide +kernel
theorem dJ2_getChar_3b067_58 : decode cJ2_getChar_3b067 58 = .ok (.i2c, 1) := by decide +kernel
theorem dJ2_getChar_3b067_59 : decode cJ2_getChar_3b067 59 = .ok (.ireturn, 1) := by decide +kernel
theorem dJ2_length_9d52b_0 : decode cJ2_length_9d52b 0 = .ok (.aload_n 0, 1) := by decide +kernel
theorem dJ2_length_9d52b_1 : decode cJ2_length_9d52b 1 = .ok (.arraylength, 1) := by decide +kernel
theorem dJ2_length_9d52b_2 : decode cJ2_length_9d52b 2 = .ok (.iconst 1, 1) := by decide +kernel
theorem dJ2_length_9d52b_3 : decode cJ2_length_9d52b 3 = .ok (.ishr, 1) := by decide +kernel
theorem dJ2_length_9d52b_4 : decode cJ2_length_9d52b 4 = .ok (.ireturn, 1) := by decide +kernel
theorem dJ2_charAt_3b067_0 : decode cJ2_charAt_3b067 0 = .ok (.iload_n 1, 1) := by decide +kernel
theorem dJ2_charAt_3b067_1 : decode cJ2_charAt_3b067 1 = .ok (.aload_n 0, 1) := by decide +kernel
theorem dJ2_charAt_3b067_2 : decode cJ2_charAt_3b067 2 = .ok (.invokestatic 67, 3) := by decide +kernel
theorem dJ2_charAt_3b067_5 : decode cJ2_charAt_3b067 5 = .ok (.aload_n 0, 1) := by decide +kernel
theorem dJ2_charAt_3b067_6 : decode cJ2_charAt_3b067 6 = .ok (.iload_n 1, 1) := by decide +kernel
theorem dJ2_charAt_3b067_7 : decode cJ2_charAt_3b067 7 = .ok (.invokestatic 71, 3) := by decide +kernel
theorem dJ2_charAt_3b067_10 : decode cJ2_charAt_3b067 10 = .ok (.ireturn, 1) := by decide +kernel
theorem dJ2_checkIndex_2214a_0 : decode cJ2_checkIndex_2214a 0 = .ok (.iload_n 0, 1) := by decide +kernel
theorem dJ2_checkIndex_2214a_1 : decode cJ2_checkIndex_2214a 1 = .ok (.aload_n 1, 1) := by decide +kernel
theorem dJ2_checkIndex_2214a_2 : decode cJ2_checkIndex_2214a 2 = .ok (.invokestatic 48, 3) := by decide +kernel
theorem dJ2_checkIndex_2214a_5 : decode cJ2_checkIndex_2214a 5 = .ok (.invokestatic 414, 3) := by decide +kernel
theorem dJ2_checkIndex_2214a_8 : decode cJ2_checkIndex_2214a 8 = .ok (.return_, 1) := by decide +kernel
theorem dJ7_fill_53178_0 : decode cJ7_fill_53178 0 = .ok (.iconst 0, 1) := by decide +kernel
theorem dJ7_fill_53178_1 : decode cJ7_fill_53178 1 = .ok (.istore_n 2, 1) := by decide +kernel
theorem dJ7_fill_53178_2 : decode cJ7_fill_53178 2 = .ok (.aload_n 0, 1) := by decide +kernel
theorem dJ7_fill_53178_3 : decode cJ7_fill_53178 3 = .ok (.arraylength, 1) := by decide +kernel
theorem dJ7_fill_53178_4 : decode cJ7_fill_53178 4 = .ok (.istore_n 3, 1) := by decide +kernel
theorem dJ7_fill_53178_5 : decode cJ7_fill_53178 5 = .ok (.iload_n 2, 1) := by decide +kernel
theorem dJ7_fill_53178_6 : decode cJ7_fill_53178 6 = .ok (.iload_n 3, 1) := by decide +kernel
theorem dJ7_fill_53178_7 : decode cJ7_fill_53178 7 = .ok (.if_icmp .ge 13, 3) := by decide +kernel
theorem dJ7_fill_53178_10 : decode cJ7_fill_53178 10 = .ok (.aload_n 0, 1) := by decide +kernel
theorem dJ7_fill_53178_11 : decode cJ7_fill_53178 11 = .ok (.iload_n 2, 1) := by decide +kernel
theorem dJ7_fill_53178_12 : decode cJ7_fill_53178 12 = .ok (.iload_n 1, 1) := by decide +kernel
theorem dJ7_fill_53178_13 : decode cJ7_fill_53178 13 = .ok (.iastore, 1) := by decide +kernel
theorem dJ7_fill_53178_14 : decode cJ7_fill_53178 14 = .ok (.iinc 2 1, 3) := by decide +kernel
theorem dJ7_fill_53178_17 : decode cJ7_fill_53178 17 = .ok (.goto (-12), 3) := by decide +kernel
theorem dJ7_fill_53178_20 : decode cJ7_fill_53178 20 = .ok (.return_, 1) := by decide +kernel
theorem dJ3_checkIndex_8e157_0 : decode cJ3_checkIndex_8e157 0 = .ok (.iload_n 0, 1) := by decide +kernel
theorem dJ3_checkIndex_8e157_1 : decode cJ3_checkIndex_8e157 1 = .ok (.ifCond .lt 8, 3) := by decide +kernel
theorem dJ3_checkIndex_8e157_4 : decode cJ3_checkIndex_8e157 4 = .ok (.iload_n 0, 1) := by decide +kernel
theorem dJ3_checkIndex_8e157_5 : decode cJ3_checkIndex_8e157 5 = .ok (.iload_n 1, 1) := by decide +kernel
theorem dJ3_checkIndex_8e157_6 : decode cJ3_checkIndex_8e157 6 = .ok (.if_icmp .lt 10, 3) := by decide +kernel
theorem dJ3_checkIndex_8e157_9 : decode cJ3_checkIndex_8e157 9 = .ok (.aload_n 2, 1) := by decide +kernel
theorem dJ3_checkIndex_8e157_10 : decode cJ3_checkIndex_8e157 10 = .ok (.iload_n 0, 1) := by decide +kernel
theorem dJ3_checkIndex_8e157_11 : decode cJ3_checkIndex_8e157 11 = .ok (.iload_n 1, 1) := by decide +kernel
theorem dJ3_checkIndex_8e157_12 : decode cJ3_checkIndex_8e157 12 = .ok (.invokestatic 95, 3) := by decide +kernel
theorem dJ3_checkIndex_8e157_15 : decode cJ3_checkIndex_8e157 15 = .ok (.athrow, 1) := by decide +kernel
theorem dJ3_checkIndex_8e157_16 : decode cJ3_checkIndex_8e157 16 = .ok (.iload_n 0, 1) := by decide +kernel
theorem dJ3_checkIndex_8e157_17 : decode cJ3_checkIndex_8e157 17 = .ok (.ireturn, 1) := by decide +kernel
theorem dL_most_0 : decode cL_most 0 = .ok (.iload_n 0, 1) := by decide +kernel
theorem dL_most_1 : decode cL_most 1 = .ok (.ldc 7, 2) := by decide +kernel
theorem dL_most_3 : decode cL_most 3 = .ok (.iand, 1) := by decide +kernel
theorem dL_most_4 : decode cL_most 4 = .ok (.iload_n 1, 1) := by decide +kernel
theorem dL_most_5 : decode cL_most 5 = .ok (.irem, 1) := by decide +kernel
theorem dL_most_6 : decode cL_most 6 = .ok (.ireturn, 1) := by decide +kernel
theorem dL_cell_0 : decode cL_cell 0 = .ok (.iload_n 1, 1) := by decide +kernel
theorem dL_cell_1 : decode cL_cell 1 = .ok (.aload_n 0, 1) := by decide +kernel
theorem dL_cell_2 : decode cL_cell 2 = .ok (.arraylength, 1) := by decide +kernel
theorem dL_cell_3 : decode cL_cell 3 = .ok (.if_icmp .ge 9, 3) := by decide +kernel
theorem dL_cell_6 : decode cL_cell 6 = .ok (.aload_n 0, 1) := by decide +kernel
theorem dL_cell_7 : decode cL_cell 7 = .ok (.iload_n 1, 1) := by decide +kernel
theorem dL_cell_8 : decode cL_cell 8 = .ok (.iaload, 1) := by decide +kernel
theorem dL_cell_9 : decode cL_cell 9 = .ok (.goto 7, 3) := by decide +kernel
theorem dL_cell_12 : decode cL_cell 12 = .ok (.bipush 37, 2) := by decide +kernel
theorem dL_cell_14 : decode cL_cell 14 = .ok (.iload_n 1, 1) := by decide +kernel
theorem dL_cell_15 : decode cL_cell 15 = .ok (.imul, 1) := by decide +kernel
theorem dL_cell_16 : decode cL_cell 16 = .ok (.ireturn, 1) := by decide +kernel
theorem dL_add_0 : decode cL_add 0 = .ok (.aload_n 1, 1) := by decide +kernel
theorem dL_add_1 : decode cL_add 1 = .ok (.aload_n 1, 1) := by decide +kernel
theorem dL_add_2 : decode cL_add 2 = .ok (.iconst 5, 1) := by decide +kernel
theorem dL_add_3 : decode cL_add 3 = .ok (.iaload, 1) := by decide +kernel
theorem dL_add_4 : decode cL_add 4 = .ok (.bipush 20, 2) := by decide +kernel
theorem dL_add_6 : decode cL_add 6 = .ok (.irem, 1) := by decide +kernel
theorem dL_add_7 : decode cL_add 7 = .ok (.iconst 4, 1) := by decide +kernel
theorem dL_add_8 : decode cL_add 8 = .ok (.idiv, 1) := by decide +kernel
theorem dL_add_9 : decode cL_add 9 = .ok (.dup2, 1) := by decide +kernel
theorem dL_add_10 : decode cL_add 10 = .ok (.iaload, 1) := by decide +kernel
theorem dL_add_11 : decode cL_add 11 = .ok (.iload_n 2, 1) := by decide +kernel
theorem dL_add_12 : decode cL_add 12 = .ok (.bipush 24, 2) := by decide +kernel
theorem dL_add_14 : decode cL_add 14 = .ok (.bipush 8, 2) := by decide +kernel
theorem dL_add_16 : decode cL_add 16 = .ok (.aload_n 1, 1) := by decide +kernel
theorem dL_add_17 : decode cL_add 17 = .ok (.iconst 5, 1) := by decide +kernel
theorem dL_add_18 : decode cL_add 18 = .ok (.iaload, 1) := by decide +kernel
theorem dL_add_19 : decode cL_add 19 = .ok (.iconst 4, 1) := by decide +kernel
theorem dL_add_20 : decode cL_add 20 = .ok (.irem, 1) := by decide +kernel
theorem dL_add_21 : decode cL_add 21 = .ok (.imul, 1) := by decide +kernel
theorem dL_add_22 : decode cL_add 22 = .ok (.isub, 1) := by decide +kernel
theorem dL_add_23 : decode cL_add 23 = .ok (.ishl, 1) := by decide +kernel
theorem dL_add_24 : decode cL_add 24 = .ok (.ior, 1) := by decide +kernel
theorem dL_add_25 : decode cL_add 25 = .ok (.iastore, 1) := by decide +kernel
theorem dL_add_26 : decode cL_add 26 = .ok (.aload_n 1, 1) := by decide +kernel
theorem dL_add_27 : decode cL_add 27 = .ok (.iconst 5, 1) := by decide +kernel
theorem dL_add_28 : decode cL_add 28 = .ok (.dup2, 1) := by decide +kernel
theorem dL_add_29 : decode cL_add 29 = .ok (.iaload, 1) := by decide +kernel
theorem dL_add_30 : decode cL_add 30 = .ok (.iconst 1, 1) := by decide +kernel
theorem dL_add_31 : decode cL_add 31 = .ok (.iadd, 1) := by decide +kernel
theorem dL_add_32 : decode cL_add 32 = .ok (.iastore, 1) := by decide +kernel
theorem dL_add_33 : decode cL_add 33 = .ok (.aload_n 1, 1) := by decide +kernel
theorem dL_add_34 : decode cL_add 34 = .ok (.iconst 5, 1) := by decide +kernel
theorem dL_add_35 : decode cL_add 35 = .ok (.iaload, 1) := by decide +kernel
theorem dL_add_36 : decode cL_add 36 = .ok (.bipush 20, 2) := by decide +kernel
theorem dL_add_38 : decode cL_add 38 = .ok (.irem, 1) := by decide +kernel
theorem dL_add_39 : decode cL_add 39 = .ok (.ifCond .eq 4, 3) := by decide +kernel
theorem dL_add_42 : decode cL_add 42 = .ok (.return_, 1) := by decide +kernel
theorem dL_add_43 : decode cL_add 43 = .ok (.aload_n 0, 1) := by decide +kernel
theorem dL_add_44 : decode cL_add 44 = .ok (.aload_n 1, 1) := by decide +kernel
theorem dL_add_45 : decode cL_add 45 = .ok (.iconst 0, 1) := by decide +kernel
theorem dL_add_46 : decode cL_add 46 = .ok (.iaload, 1) := by decide +kernel
theorem dL_add_47 : decode cL_add 47 = .ok (.aload_n 1, 1) := by decide +kernel
theorem dL_add_48 : decode cL_add 48 = .ok (.iconst 1, 1) := by decide +kernel
theorem dL_add_49 : decode cL_add 49 = .ok (.iaload, 1) := by decide +kernel
theorem dL_add_50 : decode cL_add 50 = .ok (.aload_n 1, 1) := by decide +kernel
theorem dL_add_51 : decode cL_add 51 = .ok (.iconst 2, 1) := by decide +kernel
theorem dL_add_52 : decode cL_add 52 = .ok (.iaload, 1) := by decide +kernel
theorem dL_add_53 : decode cL_add 53 = .ok (.aload_n 1, 1) := by decide +kernel
theorem dL_add_54 : decode cL_add 54 = .ok (.iconst 3, 1) := by decide +kernel
theorem dL_add_55 : decode cL_add 55 = .ok (.iaload, 1) := by decide +kernel
theorem dL_add_56 : decode cL_add 56 = .ok (.aload_n 1, 1) := by decide +kernel
theorem dL_add_57 : decode cL_add 57 = .ok (.iconst 4, 1) := by decide +kernel
theorem dL_add_58 : decode cL_add 58 = .ok (.iaload, 1) := by decide +kernel
theorem dL_add_59 : decode cL_add 59 = .ok (.invokevirtual 8, 3) := by decide +kernel
theorem dL_add_62 : decode cL_add 62 = .ok (.pop, 1) := by decide +kernel
theorem dL_add_63 : decode cL_add 63 = .ok (.iconst 0, 1) := by decide +kernel
theorem dL_add_64 : decode cL_add 64 = .ok (.istore_n 3, 1) := by decide +kernel
theorem dL_add_65 : decode cL_add 65 = .ok (.iload_n 3, 1) := by decide +kernel
theorem dL_add_66 : decode cL_add 66 = .ok (.iconst 5, 1) := by decide +kernel
theorem dL_add_67 : decode cL_add 67 = .ok (.if_icmp .ge 13, 3) := by decide +kernel
theorem dL_add_70 : decode cL_add 70 = .ok (.aload_n 1, 1) := by decide +kernel
theorem dL_add_71 : decode cL_add 71 = .ok (.iload_n 3, 1) := by decide +kernel
theorem dL_add_72 : decode cL_add 72 = .ok (.iconst 0, 1) := by decide +kernel
theorem dL_add_73 : decode cL_add 73 = .ok (.iastore, 1) := by decide +kernel
theorem dL_add_74 : decode cL_add 74 = .ok (.iinc 3 1, 3) := by decide +kernel
theorem dL_add_77 : decode cL_add 77 = .ok (.goto (-12), 3) := by decide +kernel
theorem dL_add_80 : decode cL_add 80 = .ok (.return_, 1) := by decide +kernel
theorem dL_say_0 : decode cL_say 0 = .ok (.iload 4, 2) := by decide +kernel
theorem dL_say_2 : decode cL_say 2 = .ok (.iconst 1, 1) := by decide +kernel
theorem dL_say_3 : decode cL_say 3 = .ok (.isub, 1) := by decide +kernel
theorem dL_say_4 : decode cL_say 4 = .ok (.istore 5, 2) := by decide +kernel
theorem dL_say_6 : decode cL_say 6 = .ok (.iload 5, 2) := by decide +kernel
theorem dL_say_8 : decode cL_say 8 = .ok (.ifCond .lt 26, 3) := by decide +kernel
theorem dL_say_11 : decode cL_say 11 = .ok (.aload_n 0, 1) := by decide +kernel
theorem dL_say_12 : decode cL_say 12 = .ok (.aload_n 1, 1) := by decide +kernel
theorem dL_say_13 : decode cL_say 13 = .ok (.lload_n 2, 1) := by decide +kernel
theorem dL_say_14 : decode cL_say 14 = .ok (.bipush 8, 2) := by decide +kernel
theorem dL_say_16 : decode cL_say 16 = .ok (.iload 5, 2) := by decide +kernel
theorem dL_say_18 : decode cL_say 18 = .ok (.imul, 1) := by decide +kernel
theorem dL_say_19 : decode cL_say 19 = .ok (.lshr, 1) := by decide +kernel
theorem dL_say_20 : decode cL_say 20 = .ok (.l2i, 1) := by decide +kernel
theorem dL_say_21 : decode cL_say 21 = .ok (.sipush 255, 3) := by decide +kernel
theorem dL_say_24 : decode cL_say 24 = .ok (.iand, 1) := by decide +kernel
theorem dL_say_25 : decode cL_say 25 = .ok (.invokestatic 14, 3) := by decide +kernel
theorem dL_say_28 : decode cL_say 28 = .ok (.iinc 5 (-1), 3) := by decide +kernel
theorem dL_say_31 : decode cL_say 31 = .ok (.goto (-25), 3) := by decide +kernel
theorem dL_say_34 : decode cL_say 34 = .ok (.return_, 1) := by decide +kernel
theorem dL_number_0 : decode cL_number 0 = .ok (.iconst 1, 1) := by decide +kernel
theorem dL_number_1 : decode cL_number 1 = .ok (.istore_n 3, 1) := by decide +kernel
theorem dL_number_2 : decode cL_number 2 = .ok (.iload_n 3, 1) := by decide +kernel
theorem dL_number_3 : decode cL_number 3 = .ok (.iload_n 2, 1) := by decide +kernel
theorem dL_number_4 : decode cL_number 4 = .ok (.bipush 10, 2) := by decide +kernel
theorem dL_number_6 : decode cL_number 6 = .ok (.idiv, 1) := by decide +kernel
theorem dL_number_7 : decode cL_number 7 = .ok (.if_icmp .gt 11, 3) := by decide +kernel
theorem dL_number_10 : decode cL_number 10 = .ok (.iload_n 3, 1) := by decide +kernel
theorem dL_number_11 : decode cL_number 11 = .ok (.bipush 10, 2) := by decide +kernel
theorem dL_number_13 : decode cL_number 13 = .ok (.imul, 1) := by decide +kernel
theorem dL_number_14 : decode cL_number 14 = .ok (.istore_n 3, 1) := by decide +kernel
theorem dL_number_15 : decode cL_number 15 = .ok (.goto (-13), 3) := by decide +kernel
theorem dL_number_18 : decode cL_number 18 = .ok (.iload_n 3, 1) := by decide +kernel
theorem dL_number_19 : decode cL_number 19 = .ok (.ifCond .le 25, 3) := by decide +kernel
theorem dL_number_22 : decode cL_number 22 = .ok (.aload_n 0, 1) := by decide +kernel
theorem dL_number_23 : decode cL_number 23 = .ok (.aload_n 1, 1) := by decide +kernel
theorem dL_number_24 : decode cL_number 24 = .ok (.bipush 48, 2) := by decide +kernel
theorem dL_number_26 : decode cL_number 26 = .ok (.iload_n 2, 1) := by decide +kernel
theorem dL_number_27 : decode cL_number 27 = .ok (.iload_n 3, 1) := by decide +kernel
theorem dL_number_28 : decode cL_number 28 = .ok (.idiv, 1) := by decide +kernel
theorem dL_number_29 : decode cL_number 29 = .ok (.bipush 10, 2) := by decide +kernel
theorem dL_number_31 : decode cL_number 31 = .ok (.irem, 1) := by decide +kernel
theorem dL_number_32 : decode cL_number 32 = .ok (.iadd, 1) := by decide +kernel
theorem dL_number_33 : decode cL_number 33 = .ok (.invokestatic 14, 3) := by decide +kernel
theorem dL_number_36 : decode cL_number 36 = .ok (.iload_n 3, 1) := by decide +kernel
theorem dL_number_37 : decode cL_number 37 = .ok (.bipush 10, 2) := by decide +kernel
theorem dL_number_39 : decode cL_number 39 = .ok (.idiv, 1) := by decide +kernel
theorem dL_number_40 : decode cL_number 40 = .ok (.istore_n 3, 1) := by decide +kernel
theorem dL_number_41 : decode cL_number 41 = .ok (.goto (-23), 3) := by decide +kernel
theorem dL_number_44 : decode cL_number 44 = .ok (.return_, 1) := by decide +kernel
theorem dL_end_0 : decode cL_end 0 = .ok (.aload_n 1, 1) := by decide +kernel
theorem dL_end_1 : decode cL_end 1 = .ok (.iconst 5, 1) := by decide +kernel
theorem dL_end_2 : decode cL_end 2 = .ok (.iaload, 1) := by decide +kernel
theorem dL_end_3 : decode cL_end 3 = .ok (.istore_n 2, 1) := by decide +kernel
theorem dL_end_4 : decode cL_end 4 = .ok (.aload_n 1, 1) := by decide +kernel
theorem dL_end_5 : decode cL_end 5 = .ok (.iconst 5, 1) := by decide +kernel
theorem dL_end_6 : decode cL_end 6 = .ok (.iaload, 1) := by decide +kernel
theorem dL_end_7 : decode cL_end 7 = .ok (.bipush 20, 2) := by decide +kernel
theorem dL_end_9 : decode cL_end 9 = .ok (.irem, 1) := by decide +kernel
theorem dL_end_10 : decode cL_end 10 = .ok (.ifCond .eq 13, 3) := by decide +kernel
theorem dL_end_13 : decode cL_end 13 = .ok (.aload_n 0, 1) := by decide +kernel
theorem dL_end_14 : decode cL_end 14 = .ok (.aload_n 1, 1) := by decide +kernel
theorem dL_end_15 : decode cL_end 15 = .ok (.bipush 32, 2) := by decide +kernel
theorem dL_end_17 : decode cL_end 17 = .ok (.invokestatic 14, 3) := by decide +kernel
theorem dL_end_20 : decode cL_end 20 = .ok (.goto (-16), 3) := by decide +kernel
theorem dL_end_23 : decode cL_end 23 = .ok (.aload_n 1, 1) := by decide +kernel
theorem dL_end_24 : decode cL_end 24 = .ok (.iconst 5, 1) := by decide +kernel
theorem dL_end_25 : decode cL_end 25 = .ok (.iconst 0, 1) := by decide +kernel
theorem dL_end_26 : decode cL_end 26 = .ok (.iastore, 1) := by decide +kernel
theorem dL_end_27 : decode cL_end 27 = .ok (.iload_n 2, 1) := by decide +kernel
theorem dL_end_28 : decode cL_end 28 = .ok (.ireturn, 1) := by decide +kernel
theorem dL_parents_0 : decode cL_parents 0 = .ok (.iconst 1, 1) := by decide +kernel
theorem dL_parents_1 : decode cL_parents 1 = .ok (.aload_n 0, 1) := by decide +kernel
theorem dL_parents_2 : decode cL_parents 2 = .ok (.iload_n 1, 1) := by decide +kernel
theorem dL_parents_3 : decode cL_parents 3 = .ok (.invokestatic 20, 3) := by decide +kernel
theorem dL_parents_6 : decode cL_parents 6 = .ok (.bipush 6, 2) := by decide +kernel
theorem dL_parents_8 : decode cL_parents 8 = .ok (.invokestatic 24, 3) := by decide +kernel
theorem dL_parents_11 : decode cL_parents 11 = .ok (.iadd, 1) := by decide +kernel
theorem dL_parents_12 : decode cL_parents 12 = .ok (.newarray .int, 2) := by decide +kernel
theorem dL_parents_14 : decode cL_parents 14 = .ok (.astore_n 2, 1) := by decide +kernel
theorem dL_parents_15 : decode cL_parents 15 = .ok (.iconst 0, 1) := by decide +kernel
theorem dL_parents_16 : decode cL_parents 16 = .ok (.istore_n 3, 1) := by decide +kernel
theorem dL_parents_17 : decode cL_parents 17 = .ok (.iload_n 3, 1) := by decide +kernel
theorem dL_parents_18 : decode cL_parents 18 = .ok (.aload_n 2, 1) := by decide +kernel
theorem dL_parents_19 : decode cL_parents 19 = .ok (.arraylength, 1) := by decide +kernel
theorem dL_parents_20 : decode cL_parents 20 = .ok (.if_icmp .ge 31, 3) := by decide +kernel
theorem dL_parents_23 : decode cL_parents 23 = .ok (.aload_n 2, 1) := by decide +kernel
theorem dL_parents_24 : decode cL_parents 24 = .ok (.iload_n 3, 1) := by decide +kernel
theorem dL_parents_25 : decode cL_parents 25 = .ok (.aload_n 0, 1) := by decide +kernel
theorem dL_parents_26 : decode cL_parents 26 = .ok (.iload_n 1, 1) := by decide +kernel
theorem dL_parents_27 : decode cL_parents 27 = .ok (.invokestatic 20, 3) := by decide +kernel
theorem dL_parents_30 : decode cL_parents 30 = .ok (.iconst 3, 1) := by decide +kernel
theorem dL_parents_31 : decode cL_parents 31 = .ok (.iconst 4, 1) := by decide +kernel
theorem dL_parents_32 : decode cL_parents 32 = .ok (.iload_n 3, 1) := by decide +kernel
theorem dL_parents_33 : decode cL_parents 33 = .ok (.imul, 1) := by decide +kernel
theorem dL_parents_34 : decode cL_parents 34 = .ok (.iadd, 1) := by decide +kernel
theorem dL_parents_35 : decode cL_parents 35 = .ok (.ishr, 1) := by decide +kernel
theorem dL_parents_36 : decode cL_parents 36 = .ok (.iload_n 3, 1) := by decide +kernel
theorem dL_parents_37 : decode cL_parents 37 = .ok (.iconst 1, 1) := by decide +kernel
theorem dL_parents_38 : decode cL_parents 38 = .ok (.iadd, 1) := by decide +kernel
theorem dL_parents_39 : decode cL_parents 39 = .ok (.invokestatic 24, 3) := by decide +kernel
theorem dL_parents_42 : decode cL_parents 42 = .ok (.iconst 1, 1) := by decide +kernel
theorem dL_parents_43 : decode cL_parents 43 = .ok (.isub, 1) := by decide +kernel
theorem dL_parents_44 : decode cL_parents 44 = .ok (.iastore, 1) := by decide +kernel
theorem dL_parents_45 : decode cL_parents 45 = .ok (.iinc 3 1, 3) := by decide +kernel
theorem dL_parents_48 : decode cL_parents 48 = .ok (.goto (-31), 3) := by decide +kernel
theorem dL_parents_51 : decode cL_parents 51 = .ok (.aload_n 2, 1) := by decide +kernel
theorem dL_parents_52 : decode cL_parents 52 = .ok (.areturn, 1) := by decide +kernel
theorem dL_isLeaf_0 : decode cL_isLeaf 0 = .ok (.aload_n 0, 1) := by decide +kernel
theorem dL_isLeaf_1 : decode cL_isLeaf 1 = .ok (.astore_n 2, 1) := by decide +kernel
theorem dL_isLeaf_2 : decode cL_isLeaf 2 = .ok (.aload_n 2, 1) := by decide +kernel
theorem dL_isLeaf_3 : decode cL_isLeaf 3 = .ok (.arraylength, 1) := by decide +kernel
theorem dL_isLeaf_4 : decode cL_isLeaf 4 = .ok (.istore_n 3, 1) := by decide +kernel
theorem dL_isLeaf_5 : decode cL_isLeaf 5 = .ok (.iconst 0, 1) := by decide +kernel
theorem dL_isLeaf_6 : decode cL_isLeaf 6 = .ok (.istore 4, 2) := by decide +kernel
theorem dL_isLeaf_8 : decode cL_isLeaf 8 = .ok (.iload 4, 2) := by decide +kernel
theorem dL_isLeaf_10 : decode cL_isLeaf 10 = .ok (.iload_n 3, 1) := by decide +kernel
theorem dL_isLeaf_11 : decode cL_isLeaf 11 = .ok (.if_icmp .ge 23, 3) := by decide +kernel
theorem dL_isLeaf_14 : decode cL_isLeaf 14 = .ok (.aload_n 2, 1) := by decide +kernel
theorem dL_isLeaf_15 : decode cL_isLeaf 15 = .ok (.iload 4, 2) := by decide +kernel
theorem dL_isLeaf_17 : decode cL_isLeaf 17 = .ok (.iaload, 1) := by decide +kernel
theorem dL_isLeaf_18 : decode cL_isLeaf 18 = .ok (.istore 5, 2) := by decide +kernel
theorem dL_isLeaf_20 : decode cL_isLeaf 20 = .ok (.iload 5, 2) := by decide +kernel
theorem dL_isLeaf_22 : decode cL_isLeaf 22 = .ok (.iload_n 1, 1) := by decide +kernel
theorem dL_isLeaf_23 : decode cL_isLeaf 23 = .ok (.if_icmp .ne 5, 3) := by decide +kernel
theorem dL_isLeaf_26 : decode cL_isLeaf 26 = .ok (.iconst 0, 1) := by decide +kernel
theorem dL_isLeaf_27 : decode cL_isLeaf 27 = .ok (.ireturn, 1) := by decide +kernel
theorem dL_isLeaf_28 : decode cL_isLeaf 28 = .ok (.iinc 4 1, 3) := by decide +kernel
theorem dL_isLeaf_31 : decode cL_isLeaf 31 = .ok (.goto (-23), 3) := by decide +kernel
theorem dL_isLeaf_34 : decode cL_isLeaf 34 = .ok (.iconst 1, 1) := by decide +kernel
theorem dL_isLeaf_35 : decode cL_isLeaf 35 = .ok (.ireturn, 1) := by decide +kernel
theorem dL_curve_0 : decode cL_curve 0 = .ok (.iconst 3, 1) := by decide +kernel
theorem dL_curve_1 : decode cL_curve 1 = .ok (.newarray .int, 2) := by decide +kernel
theorem dL_curve_3 : decode cL_curve 3 = .ok (.dup, 1) := by decide +kernel
theorem dL_curve_4 : decode cL_curve 4 = .ok (.iconst 0, 1) := by decide +kernel
theorem dL_curve_5 : decode cL_curve 5 = .ok (.iload_n 0, 1) := by decide +kernel
theorem dL_curve_6 : decode cL_curve 6 = .ok (.bipush 101, 2) := by decide +kernel
theorem dL_curve_8 : decode cL_curve 8 = .ok (.invokestatic 24, 3) := by decide +kernel
theorem dL_curve_11 : decode cL_curve 11 = .ok (.iastore, 1) := by decide +kernel
theorem dL_curve_12 : decode cL_curve 12 = .ok (.dup, 1) := by decide +kernel
theorem dL_curve_13 : decode cL_curve 13 = .ok (.iconst 1, 1) := by decide +kernel
theorem dL_curve_14 : decode cL_curve 14 = .ok (.iload_n 0, 1) := by decide +kernel
theorem dL_curve_15 : decode cL_curve 15 = .ok (.bipush 7, 2) := by decide +kernel
theorem dL_curve_17 : decode cL_curve 17 = .ok (.ishr, 1) := by decide +kernel
theorem dL_curve_18 : decode cL_curve 18 = .ok (.iconst 4, 1) := by decide +kernel
theorem dL_curve_19 : decode cL_curve 19 = .ok (.invokestatic 24, 3) := by decide +kernel
theorem dL_curve_22 : decode cL_curve 22 = .ok (.ifCond .ne 7, 3) := by decide +kernel
theorem dL_curve_25 : decode cL_curve 25 = .ok (.iconst 0, 1) := by decide +kernel
theorem dL_curve_26 : decode cL_curve 26 = .ok (.goto 12, 3) := by decide +kernel
theorem dL_curve_29 : decode cL_curve 29 = .ok (.iload_n 0, 1) := by decide +kernel
theorem dL_curve_30 : decode cL_curve 30 = .ok (.bipush 9, 2) := by decide +kernel
theorem dL_curve_32 : decode cL_curve 32 = .ok (.ishr, 1) := by decide +kernel
theorem dL_curve_33 : decode cL_curve 33 = .ok (.bipush 31, 2) := by decide +kernel
theorem dL_curve_35 : decode cL_curve 35 = .ok (.invokestatic 24, 3) := by decide +kernel
theorem dL_curve_38 : decode cL_curve 38 = .ok (.iastore, 1) := by decide +kernel
theorem dL_curve_39 : decode cL_curve 39 = .ok (.dup, 1) := by decide +kernel
theorem dL_curve_40 : decode cL_curve 40 = .ok (.iconst 2, 1) := by decide +kernel
theorem dL_curve_41 : decode cL_curve 41 = .ok (.iconst 1, 1) := by decide +kernel
theorem dL_curve_42 : decode cL_curve 42 = .ok (.iload_n 0, 1) := by decide +kernel
theorem dL_curve_43 : decode cL_curve 43 = .ok (.bipush 14, 2) := by decide +kernel
theorem dL_curve_45 : decode cL_curve 45 = .ok (.ishr, 1) := by decide +kernel
theorem dL_curve_46 : decode cL_curve 46 = .ok (.bipush 100, 2) := by decide +kernel
theorem dL_curve_48 : decode cL_curve 48 = .ok (.invokestatic 24, 3) := by decide +kernel
theorem dL_curve_51 : decode cL_curve 51 = .ok (.iadd, 1) := by decide +kernel
theorem dL_curve_52 : decode cL_curve 52 = .ok (.iastore, 1) := by decide +kernel
theorem dL_curve_53 : decode cL_curve 53 = .ok (.areturn, 1) := by decide +kernel
theorem dL_curves_0 : decode cL_curves 0 = .ok (.aload_n 2, 1) := by decide +kernel
theorem dL_curves_1 : decode cL_curves 1 = .ok (.arraylength, 1) := by decide +kernel
theorem dL_curves_2 : decode cL_curves 2 = .ok (.iconst 3, 1) := by decide +kernel
theorem dL_curves_3 : decode cL_curves 3 = .ok (.multianewarray 28 2, 4) := by decide +kernel
theorem dL_curves_7 : decode cL_curves 7 = .ok (.astore_n 3, 1) := by decide +kernel
theorem dL_curves_8 : decode cL_curves 8 = .ok (.iconst 0, 1) := by decide +kernel
theorem dL_curves_9 : decode cL_curves 9 = .ok (.istore 4, 2) := by decide +kernel
theorem dL_curves_11 : decode cL_curves 11 = .ok (.iload 4, 2) := by decide +kernel
theorem dL_curves_13 : decode cL_curves 13 = .ok (.aload_n 2, 1) := by decide +kernel
theorem dL_curves_14 : decode cL_curves 14 = .ok (.arraylength, 1) := by decide +kernel
theorem dL_curves_15 : decode cL_curves 15 = .ok (.if_icmp .ge 128, 3) := by decide +kernel
theorem dL_curves_18 : decode cL_curves 18 = .ok (.aload_n 0, 1) := by decide +kernel
theorem dL_curves_19 : decode cL_curves 19 = .ok (.iload_n 1, 1) := by decide +kernel
theorem dL_curves_20 : decode cL_curves 20 = .ok (.iconst 2, 1) := by decide +kernel
theorem dL_curves_21 : decode cL_curves 21 = .ok (.iload 4, 2) := by decide +kernel
theorem dL_curves_23 : decode cL_curves 23 = .ok (.imul, 1) := by decide +kernel
theorem dL_curves_24 : decode cL_curves 24 = .ok (.iadd, 1) := by decide +kernel
theorem dL_curves_25 : decode cL_curves 25 = .ok (.invokestatic 20, 3) := by decide +kernel
theorem dL_curves_28 : decode cL_curves 28 = .ok (.istore 5, 2) := by decide +kernel
theorem dL_curves_30 : decode cL_curves 30 = .ok (.aload_n 0, 1) := by decide +kernel
theorem dL_curves_31 : decode cL_curves 31 = .ok (.iload_n 1, 1) := by decide +kernel
theorem dL_curves_32 : decode cL_curves 32 = .ok (.iconst 2, 1) := by decide +kernel
theorem dL_curves_33 : decode cL_curves 33 = .ok (.iload 4, 2) := by decide +kernel
theorem dL_curves_35 : decode cL_curves 35 = .ok (.imul, 1) := by decide +kernel
theorem dL_curves_36 : decode cL_curves 36 = .ok (.iadd, 1) := by decide +kernel
theorem dL_curves_37 : decode cL_curves 37 = .ok (.iconst 1, 1) := by decide +kernel
theorem dL_curves_38 : decode cL_curves 38 = .ok (.iadd, 1) := by decide +kernel
theorem dL_curves_39 : decode cL_curves 39 = .ok (.invokestatic 20, 3) := by decide +kernel
theorem dL_curves_42 : decode cL_curves 42 = .ok (.istore 6, 2) := by decide +kernel
theorem dL_curves_44 : decode cL_curves 44 = .ok (.aload_n 3, 1) := by decide +kernel
theorem dL_curves_45 : decode cL_curves 45 = .ok (.iload 4, 2) := by decide +kernel
theorem dL_curves_47 : decode cL_curves 47 = .ok (.aaload, 1) := by decide +kernel
theorem dL_curves_48 : decode cL_curves 48 = .ok (.iconst 1, 1) := by decide +kernel
theorem dL_curves_49 : decode cL_curves 49 = .ok (.iload 5, 2) := by decide +kernel
theorem dL_curves_51 : decode cL_curves 51 = .ok (.iconst 1, 1) := by decide +kernel
theorem dL_curves_52 : decode cL_curves 52 = .ok (.iand, 1) := by decide +kernel
theorem dL_curves_53 : decode cL_curves 53 = .ok (.ifCond .ne 23, 3) := by decide +kernel
theorem dL_curves_56 : decode cL_curves 56 = .ok (.iconst 3, 1) := by decide +kernel
theorem dL_curves_57 : decode cL_curves 57 = .ok (.newarray .int, 2) := by decide +kernel
theorem dL_curves_59 : decode cL_curves 59 = .ok (.dup, 1) := by decide +kernel
theorem dL_curves_60 : decode cL_curves 60 = .ok (.iconst 0, 1) := by decide +kernel
theorem dL_curves_61 : decode cL_curves 61 = .ok (.bipush 10, 2) := by decide +kernel
theorem dL_curves_63 : decode cL_curves 63 = .ok (.iastore, 1) := by decide +kernel
theorem dL_curves_64 : decode cL_curves 64 = .ok (.dup, 1) := by decide +kernel
theorem dL_curves_65 : decode cL_curves 65 = .ok (.iconst 1, 1) := by decide +kernel
theorem dL_curves_66 : decode cL_curves 66 = .ok (.iconst 0, 1) := by decide +kernel
theorem dL_curves_67 : decode cL_curves 67 = .ok (.iastore, 1) := by decide +kernel
theorem dL_curves_68 : decode cL_curves 68 = .ok (.dup, 1) := by decide +kernel
theorem dL_curves_69 : decode cL_curves 69 = .ok (.iconst 2, 1) := by decide +kernel
theorem dL_curves_70 : decode cL_curves 70 = .ok (.bipush 10, 2) := by decide +kernel
theorem dL_curves_72 : decode cL_curves 72 = .ok (.iastore, 1) := by decide +kernel
theorem dL_curves_73 : decode cL_curves 73 = .ok (.goto 10, 3) := by decide +kernel
theorem dL_curves_76 : decode cL_curves 76 = .ok (.iload 5, 2) := by decide +kernel
theorem dL_curves_78 : decode cL_curves 78 = .ok (.iconst 1, 1) := by decide +kernel
theorem dL_curves_79 : decode cL_curves 79 = .ok (.ishr, 1) := by decide +kernel
theorem dL_curves_80 : decode cL_curves 80 = .ok (.invokestatic 30, 3) := by decide +kernel
theorem dL_curves_83 : decode cL_curves 83 = .ok (.aastore, 1) := by decide +kernel
theorem dL_curves_84 : decode cL_curves 84 = .ok (.aload_n 2, 1) := by decide +kernel
theorem dL_curves_85 : decode cL_curves 85 = .ok (.iload 4, 2) := by decide +kernel
theorem dL_curves_87 : decode cL_curves 87 = .ok (.invokestatic 34, 3) := by decide +kernel
theorem dL_curves_90 : decode cL_curves 90 = .ok (.ifCond .eq 23, 3) := by decide +kernel
theorem dL_curves_93 : decode cL_curves 93 = .ok (.iload 6, 2) := by decide +kernel
theorem dL_curves_95 : decode cL_curves 95 = .ok (.iconst 3, 1) := by decide +kernel
theorem dL_curves_96 : decode cL_curves 96 = .ok (.iand, 1) := by decide +kernel
theorem dL_curves_97 : decode cL_curves 97 = .ok (.ifCond .le 16, 3) := by decide +kernel
theorem dL_curves_100 : decode cL_curves 100 = .ok (.aload_n 3, 1) := by decide +kernel
theorem dL_curves_101 : decode cL_curves 101 = .ok (.iload 4, 2) := by decide +kernel
theorem dL_curves_103 : decode cL_curves 103 = .ok (.aaload, 1) := by decide +kernel
theorem dL_curves_104 : decode cL_curves 104 = .ok (.iconst 0, 1) := by decide +kernel
theorem dL_curves_105 : decode cL_curves 105 = .ok (.iload 6, 2) := by decide +kernel
theorem dL_curves_107 : decode cL_curves 107 = .ok (.iconst 2, 1) := by decide +kernel
theorem dL_curves_108 : decode cL_curves 108 = .ok (.ishr, 1) := by decide +kernel
theorem dL_curves_109 : decode cL_curves 109 = .ok (.invokestatic 30, 3) := by decide +kernel
theorem dL_curves_112 : decode cL_curves 112 = .ok (.aastore, 1) := by decide +kernel
theorem dL_curves_113 : decode cL_curves 113 = .ok (.iload 6, 2) := by decide +kernel
theorem dL_curves_115 : decode cL_curves 115 = .ok (.ldc 38, 2) := by decide +kernel
theorem dL_curves_117 : decode cL_curves 117 = .ok (.iand, 1) := by decide +kernel
theorem dL_curves_118 : decode cL_curves 118 = .ok (.ifCond .ne 19, 3) := by decide +kernel
theorem dL_curves_121 : decode cL_curves 121 = .ok (.aload_n 3, 1) := by decide +kernel
theorem dL_curves_122 : decode cL_curves 122 = .ok (.iload 4, 2) := by decide +kernel
theorem dL_curves_124 : decode cL_curves 124 = .ok (.aaload, 1) := by decide +kernel
theorem dL_curves_125 : decode cL_curves 125 = .ok (.iconst 2, 1) := by decide +kernel
theorem dL_curves_126 : decode cL_curves 126 = .ok (.iload 5, 2) := by decide +kernel
theorem dL_curves_128 : decode cL_curves 128 = .ok (.iconst 3, 1) := by decide +kernel
theorem dL_curves_129 : decode cL_curves 129 = .ok (.ishr, 1) := by decide +kernel
theorem dL_curves_130 : decode cL_curves 130 = .ok (.iload 6, 2) := by decide +kernel
theorem dL_curves_132 : decode cL_curves 132 = .ok (.ixor, 1) := by decide +kernel
theorem dL_curves_133 : decode cL_curves 133 = .ok (.invokestatic 30, 3) := by decide +kernel
theorem dL_curves_136 : decode cL_curves 136 = .ok (.aastore, 1) := by decide +kernel
theorem dL_curves_137 : decode cL_curves 137 = .ok (.iinc 4 1, 3) := by decide +kernel
theorem dL_curves_140 : decode cL_curves 140 = .ok (.goto (-129), 3) := by decide +kernel
theorem dL_curves_143 : decode cL_curves 143 = .ok (.aload_n 3, 1) := by decide +kernel
theorem dL_curves_144 : decode cL_curves 144 = .ok (.areturn, 1) := by decide +kernel
theorem dL_three_0 : decode cL_three 0 = .ok (.aload_n 0, 1) := by decide +kernel
theorem dL_three_1 : decode cL_three 1 = .ok (.aload_n 1, 1) := by decide +kernel
theorem dL_three_2 : decode cL_three 2 = .ok (.bipush 32, 2) := by decide +kernel
theorem dL_three_4 : decode cL_three 4 = .ok (.invokestatic 14, 3) := by decide +kernel
theorem dL_three_7 : decode cL_three 7 = .ok (.aload_n 0, 1) := by decide +kernel
theorem dL_three_8 : decode cL_three 8 = .ok (.aload_n 1, 1) := by decide +kernel
theorem dL_three_9 : decode cL_three 9 = .ok (.iload_n 2, 1) := by decide +kernel
theorem dL_three_10 : decode cL_three 10 = .ok (.invokestatic 41, 3) := by decide +kernel
theorem dL_three_13 : decode cL_three 13 = .ok (.aload_n 0, 1) := by decide +kernel
theorem dL_three_14 : decode cL_three 14 = .ok (.aload_n 1, 1) := by decide +kernel
theorem dL_three_15 : decode cL_three 15 = .ok (.bipush 32, 2) := by decide +kernel
theorem dL_three_17 : decode cL_three 17 = .ok (.invokestatic 14, 3) := by decide +kernel
theorem dL_three_20 : decode cL_three 20 = .ok (.aload_n 0, 1) := by decide +kernel
theorem dL_three_21 : decode cL_three 21 = .ok (.aload_n 1, 1) := by decide +kernel
theorem dL_three_22 : decode cL_three 22 = .ok (.iload_n 3, 1) := by decide +kernel
theorem dL_three_23 : decode cL_three 23 = .ok (.invokestatic 41, 3) := by decide +kernel
theorem dL_three_26 : decode cL_three 26 = .ok (.aload_n 0, 1) := by decide +kernel
theorem dL_three_27 : decode cL_three 27 = .ok (.aload_n 1, 1) := by decide +kernel
theorem dL_three_28 : decode cL_three 28 = .ok (.bipush 32, 2) := by decide +kernel
theorem dL_three_30 : decode cL_three 30 = .ok (.invokestatic 14, 3) := by decide +kernel
theorem dL_three_33 : decode cL_three 33 = .ok (.aload_n 0, 1) := by decide +kernel
theorem dL_three_34 : decode cL_three 34 = .ok (.aload_n 1, 1) := by decide +kernel
theorem dL_three_35 : decode cL_three 35 = .ok (.iload 4, 2) := by decide +kernel
theorem dL_three_37 : decode cL_three 37 = .ok (.invokestatic 41, 3) := by decide +kernel
theorem dL_three_40 : decode cL_three 40 = .ok (.return_, 1) := by decide +kernel
theorem dL_tell_0 : decode cL_tell 0 = .ok (.iconst 0, 1) := by decide +kernel
theorem dL_tell_1 : decode cL_tell 1 = .ok (.istore 5, 2) := by decide +kernel
theorem dL_tell_3 : decode cL_tell 3 = .ok (.iload 5, 2) := by decide +kernel
theorem dL_tell_5 : decode cL_tell 5 = .ok (.aload_n 2, 1) := by decide +kernel
theorem dL_tell_6 : decode cL_tell 6 = .ok (.arraylength, 1) := by decide +kernel
theorem dL_tell_7 : decode cL_tell 7 = .ok (.if_icmp .ge 222, 3) := by decide +kernel
theorem dL_tell_10 : decode cL_tell 10 = .ok (.aload_n 0, 1) := by decide +kernel
theorem dL_tell_11 : decode cL_tell 11 = .ok (.aload_n 1, 1) := by decide +kernel
theorem dL_tell_12 : decode cL_tell 12 = .ok (.ldc2_w 44, 3) := by decide +kernel
theorem dL_tell_15 : decode cL_tell 15 = .ok (.iconst 5, 1) := by decide +kernel
theorem dL_tell_16 : decode cL_tell 16 = .ok (.invokestatic 46, 3) := by decide +kernel
theorem dL_tell_19 : decode cL_tell 19 = .ok (.aload_n 2, 1) := by decide +kernel
theorem dL_tell_20 : decode cL_tell 20 = .ok (.iload 5, 2) := by decide +kernel
theorem dL_tell_22 : decode cL_tell 22 = .ok (.iaload, 1) := by decide +kernel
theorem dL_tell_23 : decode cL_tell 23 = .ok (.ifCond .lt 21, 3) := by decide +kernel
theorem dL_tell_26 : decode cL_tell 26 = .ok (.aload_n 0, 1) := by decide +kernel
theorem dL_tell_27 : decode cL_tell 27 = .ok (.aload_n 1, 1) := by decide +kernel
theorem dL_tell_28 : decode cL_tell 28 = .ok (.ldc2_w 50, 3) := by decide +kernel
theorem dL_tell_31 : decode cL_tell 31 = .ok (.iconst 4, 1) := by decide +kernel
theorem dL_tell_32 : decode cL_tell 32 = .ok (.invokestatic 46, 3) := by decide +kernel
theorem dL_tell_35 : decode cL_tell 35 = .ok (.aload_n 0, 1) := by decide +kernel
theorem dL_tell_36 : decode cL_tell 36 = .ok (.aload_n 1, 1) := by decide +kernel
theorem dL_tell_37 : decode cL_tell 37 = .ok (.aload_n 2, 1) := by decide +kernel
theorem dL_tell_38 : decode cL_tell 38 = .ok (.iload 5, 2) := by decide +kernel
theorem dL_tell_40 : decode cL_tell 40 = .ok (.iaload, 1) := by decide +kernel
theorem dL_tell_41 : decode cL_tell 41 = .ok (.invokestatic 41, 3) := by decide +kernel
theorem dL_tell_44 : decode cL_tell 44 = .ok (.aload_n 3, 1) := by decide +kernel
theorem dL_tell_45 : decode cL_tell 45 = .ok (.iload 5, 2) := by decide +kernel
theorem dL_tell_47 : decode cL_tell 47 = .ok (.aaload, 1) := by decide +kernel
theorem dL_tell_48 : decode cL_tell 48 = .ok (.iconst 1, 1) := by decide +kernel
theorem dL_tell_49 : decode cL_tell 49 = .ok (.aaload, 1) := by decide +kernel
theorem dL_tell_50 : decode cL_tell 50 = .ok (.iconst 0, 1) := by decide +kernel
theorem dL_tell_51 : decode cL_tell 51 = .ok (.iaload, 1) := by decide +kernel
theorem dL_tell_52 : decode cL_tell 52 = .ok (.bipush 10, 2) := by decide +kernel
theorem dL_tell_54 : decode cL_tell 54 = .ok (.if_icmp .ne 27, 3) := by decide +kernel
theorem dL_tell_57 : decode cL_tell 57 = .ok (.aload_n 3, 1) := by decide +kernel
theorem dL_tell_58 : decode cL_tell 58 = .ok (.iload 5, 2) := by decide +kernel
theorem dL_tell_60 : decode cL_tell 60 = .ok (.aaload, 1) := by decide +kernel
theorem dL_tell_61 : decode cL_tell 61 = .ok (.iconst 1, 1) := by decide +kernel
theorem dL_tell_62 : decode cL_tell 62 = .ok (.aaload, 1) := by decide +kernel
theorem dL_tell_63 : decode cL_tell 63 = .ok (.iconst 1, 1) := by decide +kernel
theorem dL_tell_64 : decode cL_tell 64 = .ok (.iaload, 1) := by decide +kernel
theorem dL_tell_65 : decode cL_tell 65 = .ok (.ifCond .ne 16, 3) := by decide +kernel
theorem dL_tell_68 : decode cL_tell 68 = .ok (.aload_n 3, 1) := by decide +kernel
theorem dL_tell_69 : decode cL_tell 69 = .ok (.iload 5, 2) := by decide +kernel
theorem dL_tell_71 : decode cL_tell 71 = .ok (.aaload, 1) := by decide +kernel
theorem dL_tell_72 : decode cL_tell 72 = .ok (.iconst 1, 1) := by decide +kernel
theorem dL_tell_73 : decode cL_tell 73 = .ok (.aaload, 1) := by decide +kernel
theorem dL_tell_74 : decode cL_tell 74 = .ok (.iconst 2, 1) := by decide +kernel
theorem dL_tell_75 : decode cL_tell 75 = .ok (.iaload, 1) := by decide +kernel
theorem dL_tell_76 : decode cL_tell 76 = .ok (.bipush 10, 2) := by decide +kernel
theorem dL_tell_78 : decode cL_tell 78 = .ok (.if_icmp .eq 42, 3) := by decide +kernel
theorem dL_tell_81 : decode cL_tell 81 = .ok (.aload_n 0, 1) := by decide +kernel
theorem dL_tell_82 : decode cL_tell 82 = .ok (.aload_n 1, 1) := by decide +kernel
theorem dL_tell_83 : decode cL_tell 83 = .ok (.ldc2_w 52, 3) := by decide +kernel
theorem dL_tell_86 : decode cL_tell 86 = .ok (.bipush 6, 2) := by decide +kernel
theorem dL_tell_88 : decode cL_tell 88 = .ok (.invokestatic 46, 3) := by decide +kernel
theorem dL_tell_91 : decode cL_tell 91 = .ok (.aload_n 0, 1) := by decide +kernel
theorem dL_tell_92 : decode cL_tell 92 = .ok (.aload_n 1, 1) := by decide +kernel
theorem dL_tell_93 : decode cL_tell 93 = .ok (.aload_n 3, 1) := by decide +kernel
theorem dL_tell_94 : decode cL_tell 94 = .ok (.iload 5, 2) := by decide +kernel
theorem dL_tell_96 : decode cL_tell 96 = .ok (.aaload, 1) := by decide +kernel
theorem dL_tell_97 : decode cL_tell 97 = .ok (.iconst 1, 1) := by decide +kernel
theorem dL_tell_98 : decode cL_tell 98 = .ok (.aaload, 1) := by decide +kernel
theorem dL_tell_99 : decode cL_tell 99 = .ok (.iconst 0, 1) := by decide +kernel
theorem dL_tell_100 : decode cL_tell 100 = .ok (.iaload, 1) := by decide +kernel
theorem dL_tell_101 : decode cL_tell 101 = .ok (.aload_n 3, 1) := by decide +kernel
theorem dL_tell_102 : decode cL_tell 102 = .ok (.iload 5, 2) := by decide +kernel
theorem dL_tell_104 : decode cL_tell 104 = .ok (.aaload, 1) := by decide +kernel
theorem dL_tell_105 : decode cL_tell 105 = .ok (.iconst 1, 1) := by decide +kernel
theorem dL_tell_106 : decode cL_tell 106 = .ok (.aaload, 1) := by decide +kernel
theorem dL_tell_107 : decode cL_tell 107 = .ok (.iconst 1, 1) := by decide +kernel
theorem dL_tell_108 : decode cL_tell 108 = .ok (.iaload, 1) := by decide +kernel
theorem dL_tell_109 : decode cL_tell 109 = .ok (.aload_n 3, 1) := by decide +kernel
theorem dL_tell_110 : decode cL_tell 110 = .ok (.iload 5, 2) := by decide +kernel
theorem dL_tell_112 : decode cL_tell 112 = .ok (.aaload, 1) := by decide +kernel
theorem dL_tell_113 : decode cL_tell 113 = .ok (.iconst 1, 1) := by decide +kernel
theorem dL_tell_114 : decode cL_tell 114 = .ok (.aaload, 1) := by decide +kernel
theorem dL_tell_115 : decode cL_tell 115 = .ok (.iconst 2, 1) := by decide +kernel
theorem dL_tell_116 : decode cL_tell 116 = .ok (.iaload, 1) := by decide +kernel
theorem dL_tell_117 : decode cL_tell 117 = .ok (.invokestatic 54, 3) := by decide +kernel
theorem dL_tell_120 : decode cL_tell 120 = .ok (.aload_n 3, 1) := by decide +kernel
theorem dL_tell_121 : decode cL_tell 121 = .ok (.iload 5, 2) := by decide +kernel
theorem dL_tell_123 : decode cL_tell 123 = .ok (.aaload, 1) := by decide +kernel
theorem dL_tell_124 : decode cL_tell 124 = .ok (.iconst 0, 1) := by decide +kernel
theorem dL_tell_125 : decode cL_tell 125 = .ok (.aaload, 1) := by decide +kernel
theorem dL_tell_126 : decode cL_tell 126 = .ok (.ifnull 42, 3) := by decide +kernel
theorem dL_tell_129 : decode cL_tell 129 = .ok (.aload_n 0, 1) := by decide +kernel
theorem dL_tell_130 : decode cL_tell 130 = .ok (.aload_n 1, 1) := by decide +kernel
theorem dL_tell_131 : decode cL_tell 131 = .ok (.ldc2_w 58, 3) := by decide +kernel
theorem dL_tell_134 : decode cL_tell 134 = .ok (.bipush 6, 2) := by decide +kernel
theorem dL_tell_136 : decode cL_tell 136 = .ok (.invokestatic 46, 3) := by decide +kernel
theorem dL_tell_139 : decode cL_tell 139 = .ok (.aload_n 0, 1) := by decide +kernel
theorem dL_tell_140 : decode cL_tell 140 = .ok (.aload_n 1, 1) := by decide +kernel
theorem dL_tell_141 : decode cL_tell 141 = .ok (.aload_n 3, 1) := by decide +kernel
theorem dL_tell_142 : decode cL_tell 142 = .ok (.iload 5, 2) := by decide +kernel
theorem dL_tell_144 : decode cL_tell 144 = .ok (.aaload, 1) := by decide +kernel
theorem dL_tell_145 : decode cL_tell 145 = .ok (.iconst 0, 1) := by decide +kernel
theorem dL_tell_146 : decode cL_tell 146 = .ok (.aaload, 1) := by decide +kernel
theorem dL_tell_147 : decode cL_tell 147 = .ok (.iconst 0, 1) := by decide +kernel
theorem dL_tell_148 : decode cL_tell 148 = .ok (.iaload, 1) := by decide +kernel
theorem dL_tell_149 : decode cL_tell 149 = .ok (.aload_n 3, 1) := by decide +kernel
theorem dL_tell_150 : decode cL_tell 150 = .ok (.iload 5, 2) := by decide +kernel
theorem dL_tell_152 : decode cL_tell 152 = .ok (.aaload, 1) := by decide +kernel
theorem dL_tell_153 : decode cL_tell 153 = .ok (.iconst 0, 1) := by decide +kernel
theorem dL_tell_154 : decode cL_tell 154 = .ok (.aaload, 1) := by decide +kernel
theorem dL_tell_155 : decode cL_tell 155 = .ok (.iconst 1, 1) := by decide +kernel
theorem dL_tell_156 : decode cL_tell 156 = .ok (.iaload, 1) := by decide +kernel
theorem dL_tell_157 : decode cL_tell 157 = .ok (.aload_n 3, 1) := by decide +kernel
theorem dL_tell_158 : decode cL_tell 158 = .ok (.iload 5, 2) := by decide +kernel
theorem dL_tell_160 : decode cL_tell 160 = .ok (.aaload, 1) := by decide +kernel
theorem dL_tell_161 : decode cL_tell 161 = .ok (.iconst 0, 1) := by decide +kernel
theorem dL_tell_162 : decode cL_tell 162 = .ok (.aaload, 1) := by decide +kernel
theorem dL_tell_163 : decode cL_tell 163 = .ok (.iconst 2, 1) := by decide +kernel
theorem dL_tell_164 : decode cL_tell 164 = .ok (.iaload, 1) := by decide +kernel
theorem dL_tell_165 : decode cL_tell 165 = .ok (.invokestatic 54, 3) := by decide +kernel
theorem dL_tell_168 : decode cL_tell 168 = .ok (.aload_n 3, 1) := by decide +kernel
theorem dL_tell_169 : decode cL_tell 169 = .ok (.iload 5, 2) := by decide +kernel
theorem dL_tell_171 : decode cL_tell 171 = .ok (.aaload, 1) := by decide +kernel
theorem dL_tell_172 : decode cL_tell 172 = .ok (.iconst 2, 1) := by decide +kernel
theorem dL_tell_173 : decode cL_tell 173 = .ok (.aaload, 1) := by decide +kernel
theorem dL_tell_174 : decode cL_tell 174 = .ok (.ifnull 42, 3) := by decide +kernel
theorem dL_tell_177 : decode cL_tell 177 = .ok (.aload_n 0, 1) := by decide +kernel
theorem dL_tell_178 : decode cL_tell 178 = .ok (.aload_n 1, 1) := by decide +kernel
theorem dL_tell_179 : decode cL_tell 179 = .ok (.ldc2_w 60, 3) := by decide +kernel
theorem dL_tell_182 : decode cL_tell 182 = .ok (.bipush 6, 2) := by decide +kernel
theorem dL_tell_184 : decode cL_tell 184 = .ok (.invokestatic 46, 3) := by decide +kernel
theorem dL_tell_187 : decode cL_tell 187 = .ok (.aload_n 0, 1) := by decide +kernel
theorem dL_tell_188 : decode cL_tell 188 = .ok (.aload_n 1, 1) := by decide +kernel
theorem dL_tell_189 : decode cL_tell 189 = .ok (.aload_n 3, 1) := by decide +kernel
theorem dL_tell_190 : decode cL_tell 190 = .ok (.iload 5, 2) := by decide +kernel
theorem dL_tell_192 : decode cL_tell 192 = .ok (.aaload, 1) := by decide +kernel
theorem dL_tell_193 : decode cL_tell 193 = .ok (.iconst 2, 1) := by decide +kernel
theorem dL_tell_194 : decode cL_tell 194 = .ok (.aaload, 1) := by decide +kernel
theorem dL_tell_195 : decode cL_tell 195 = .ok (.iconst 0, 1) := by decide +kernel
theorem dL_tell_196 : decode cL_tell 196 = .ok (.iaload, 1) := by decide +kernel
theorem dL_tell_197 : decode cL_tell 197 = .ok (.aload_n 3, 1) := by decide +kernel
theorem dL_tell_198 : decode cL_tell 198 = .ok (.iload 5, 2) := by decide +kernel
theorem dL_tell_200 : decode cL_tell 200 = .ok (.aaload, 1) := by decide +kernel
theorem dL_tell_201 : decode cL_tell 201 = .ok (.iconst 2, 1) := by decide +kernel
theorem dL_tell_202 : decode cL_tell 202 = .ok (.aaload, 1) := by decide +kernel
theorem dL_tell_203 : decode cL_tell 203 = .ok (.iconst 1, 1) := by decide +kernel
theorem dL_tell_204 : decode cL_tell 204 = .ok (.iaload, 1) := by decide +kernel
theorem dL_tell_205 : decode cL_tell 205 = .ok (.aload_n 3, 1) := by decide +kernel
theorem dL_tell_206 : decode cL_tell 206 = .ok (.iload 5, 2) := by decide +kernel
theorem dL_tell_208 : decode cL_tell 208 = .ok (.aaload, 1) := by decide +kernel
theorem dL_tell_209 : decode cL_tell 209 = .ok (.iconst 2, 1) := by decide +kernel
theorem dL_tell_210 : decode cL_tell 210 = .ok (.aaload, 1) := by decide +kernel
theorem dL_tell_211 : decode cL_tell 211 = .ok (.iconst 2, 1) := by decide +kernel
theorem dL_tell_212 : decode cL_tell 212 = .ok (.iaload, 1) := by decide +kernel
theorem dL_tell_213 : decode cL_tell 213 = .ok (.invokestatic 54, 3) := by decide +kernel
theorem dL_tell_216 : decode cL_tell 216 = .ok (.aload_n 0, 1) := by decide +kernel
theorem dL_tell_217 : decode cL_tell 217 = .ok (.aload_n 1, 1) := by decide +kernel
theorem dL_tell_218 : decode cL_tell 218 = .ok (.bipush 59, 2) := by decide +kernel
theorem dL_tell_220 : decode cL_tell 220 = .ok (.invokestatic 14, 3) := by decide +kernel
theorem dL_tell_223 : decode cL_tell 223 = .ok (.iinc 5 1, 3) := by decide +kernel
theorem dL_tell_226 : decode cL_tell 226 = .ok (.goto (-223), 3) := by decide +kernel
theorem dL_tell_229 : decode cL_tell 229 = .ok (.aload 4, 2) := by decide +kernel
theorem dL_tell_231 : decode cL_tell 231 = .ok (.astore 5, 2) := by decide +kernel
theorem dL_tell_233 : decode cL_tell 233 = .ok (.aload 5, 2) := by decide +kernel
theorem dL_tell_235 : decode cL_tell 235 = .ok (.arraylength, 1) := by decide +kernel
theorem dL_tell_236 : decode cL_tell 236 = .ok (.istore 6, 2) := by decide +kernel
theorem dL_tell_238 : decode cL_tell 238 = .ok (.iconst 0, 1) := by decide +kernel
theorem dL_tell_239 : decode cL_tell 239 = .ok (.istore 7, 2) := by decide +kernel
theorem dL_tell_241 : decode cL_tell 241 = .ok (.iload 7, 2) := by decide +kernel
theorem dL_tell_243 : decode cL_tell 243 = .ok (.iload 6, 2) := by decide +kernel
theorem dL_tell_245 : decode cL_tell 245 = .ok (.if_icmp .ge 58, 3) := by decide +kernel
theorem dL_tell_248 : decode cL_tell 248 = .ok (.aload 5, 2) := by decide +kernel
theorem dL_tell_250 : decode cL_tell 250 = .ok (.iload 7, 2) := by decide +kernel
theorem dL_tell_252 : decode cL_tell 252 = .ok (.aaload, 1) := by decide +kernel
theorem dL_tell_253 : decode cL_tell 253 = .ok (.astore 8, 2) := by decide +kernel
theorem dL_tell_255 : decode cL_tell 255 = .ok (.aload_n 0, 1) := by decide +kernel
theorem dL_tell_256 : decode cL_tell 256 = .ok (.aload_n 1, 1) := by decide +kernel
theorem dL_tell_257 : decode cL_tell 257 = .ok (.ldc2_w 62, 3) := by decide +kernel
theorem dL_tell_260 : decode cL_tell 260 = .ok (.iconst 5, 1) := by decide +kernel
theorem dL_tell_261 : decode cL_tell 261 = .ok (.invokestatic 46, 3) := by decide +kernel
theorem dL_tell_264 : decode cL_tell 264 = .ok (.aload_n 0, 1) := by decide +kernel
theorem dL_tell_265 : decode cL_tell 265 = .ok (.aload_n 1, 1) := by decide +kernel
theorem dL_tell_266 : decode cL_tell 266 = .ok (.aload 8, 2) := by decide +kernel
theorem dL_tell_268 : decode cL_tell 268 = .ok (.iconst 0, 1) := by decide +kernel
theorem dL_tell_269 : decode cL_tell 269 = .ok (.iaload, 1) := by decide +kernel
theorem dL_tell_270 : decode cL_tell 270 = .ok (.invokestatic 41, 3) := by decide +kernel
theorem dL_tell_273 : decode cL_tell 273 = .ok (.aload_n 0, 1) := by decide +kernel
theorem dL_tell_274 : decode cL_tell 274 = .ok (.aload_n 1, 1) := by decide +kernel
theorem dL_tell_275 : decode cL_tell 275 = .ok (.aload 8, 2) := by decide +kernel
theorem dL_tell_277 : decode cL_tell 277 = .ok (.iconst 1, 1) := by decide +kernel
theorem dL_tell_278 : decode cL_tell 278 = .ok (.iaload, 1) := by decide +kernel
theorem dL_tell_279 : decode cL_tell 279 = .ok (.aload 8, 2) := by decide +kernel
theorem dL_tell_281 : decode cL_tell 281 = .ok (.iconst 2, 1) := by decide +kernel
theorem dL_tell_282 : decode cL_tell 282 = .ok (.iaload, 1) := by decide +kernel
theorem dL_tell_283 : decode cL_tell 283 = .ok (.aload 8, 2) := by decide +kernel
theorem dL_tell_285 : decode cL_tell 285 = .ok (.iconst 3, 1) := by decide +kernel
theorem dL_tell_286 : decode cL_tell 286 = .ok (.iaload, 1) := by decide +kernel
theorem dL_tell_287 : decode cL_tell 287 = .ok (.invokestatic 54, 3) := by decide +kernel
theorem dL_tell_290 : decode cL_tell 290 = .ok (.aload_n 0, 1) := by decide +kernel
theorem dL_tell_291 : decode cL_tell 291 = .ok (.aload_n 1, 1) := by decide +kernel
theorem dL_tell_292 : decode cL_tell 292 = .ok (.bipush 59, 2) := by decide +kernel
theorem dL_tell_294 : decode cL_tell 294 = .ok (.invokestatic 14, 3) := by decide +kernel
theorem dL_tell_297 : decode cL_tell 297 = .ok (.iinc 7 1, 3) := by decide +kernel
theorem dL_tell_300 : decode cL_tell 300 = .ok (.goto (-59), 3) := by decide +kernel
theorem dL_tell_303 : decode cL_tell 303 = .ok (.aload_n 0, 1) := by decide +kernel
theorem dL_tell_304 : decode cL_tell 304 = .ok (.aload_n 0, 1) := by decide +kernel
theorem dL_tell_305 : decode cL_tell 305 = .ok (.aload_n 1, 1) := by decide +kernel
theorem dL_tell_306 : decode cL_tell 306 = .ok (.invokestatic 64, 3) := by decide +kernel
theorem dL_tell_309 : decode cL_tell 309 = .ok (.invokevirtual 68, 3) := by decide +kernel
theorem dL_tell_312 : decode cL_tell 312 = .ok (.ifCond .ne 7, 3) := by decide +kernel
theorem dL_tell_315 : decode cL_tell 315 = .ok (.iconst 1, 1) := by decide +kernel
theorem dL_tell_316 : decode cL_tell 316 = .ok (.goto 4, 3) := by decide +kernel
theorem dL_tell_319 : decode cL_tell 319 = .ok (.iconst 0, 1) := by decide +kernel
theorem dL_tell_320 : decode cL_tell 320 = .ok (.ireturn, 1) := by decide +kernel
theorem dL_isToldAgain_0 : decode cL_isToldAgain 0 = .ok (.iconst 0, 1) := by decide +kernel
theorem dL_isToldAgain_1 : decode cL_isToldAgain 1 = .ok (.istore 4, 2) := by decide +kernel
theorem dL_isToldAgain_3 : decode cL_isToldAgain 3 = .ok (.iload 4, 2) := by decide +kernel
theorem dL_isToldAgain_5 : decode cL_isToldAgain 5 = .ok (.aload_n 1, 1) := by decide +kernel
theorem dL_isToldAgain_6 : decode cL_isToldAgain 6 = .ok (.arraylength, 1) := by decide +kernel
theorem dL_isToldAgain_7 : decode cL_isToldAgain 7 = .ok (.if_icmp .ge 76, 3) := by decide +kernel
theorem dL_isToldAgain_10 : decode cL_isToldAgain 10 = .ok (.aload_n 0, 1) := by decide +kernel
theorem dL_isToldAgain_11 : decode cL_isToldAgain 11 = .ok (.iload 4, 2) := by decide +kernel
theorem dL_isToldAgain_13 : decode cL_isToldAgain 13 = .ok (.iconst (-1), 1) := by decide +kernel
theorem dL_isToldAgain_14 : decode cL_isToldAgain 14 = .ok (.invokevirtual 72, 3) := by decide +kernel
theorem dL_isToldAgain_17 : decode cL_isToldAgain 17 = .ok (.istore 5, 2) := by decide +kernel
theorem dL_isToldAgain_19 : decode cL_isToldAgain 19 = .ok (.iconst 0, 1) := by decide +kernel
theorem dL_isToldAgain_20 : decode cL_isToldAgain 20 = .ok (.istore 6, 2) := by decide +kernel
theorem dL_isToldAgain_22 : decode cL_isToldAgain 22 = .ok (.iload 6, 2) := by decide +kernel
theorem dL_isToldAgain_24 : decode cL_isToldAgain 24 = .ok (.iload 5, 2) := by decide +kernel
theorem dL_isToldAgain_26 : decode cL_isToldAgain 26 = .ok (.if_icmp .ge 22, 3) := by decide +kernel
theorem dL_isToldAgain_29 : decode cL_isToldAgain 29 = .ok (.aload_n 2, 1) := by decide +kernel
theorem dL_isToldAgain_30 : decode cL_isToldAgain 30 = .ok (.aload_n 3, 1) := by decide +kernel
theorem dL_isToldAgain_31 : decode cL_isToldAgain 31 = .ok (.aload_n 0, 1) := by decide +kernel
theorem dL_isToldAgain_32 : decode cL_isToldAgain 32 = .ok (.iload 4, 2) := by decide +kernel
theorem dL_isToldAgain_34 : decode cL_isToldAgain 34 = .ok (.iload 6, 2) := by decide +kernel
theorem dL_isToldAgain_36 : decode cL_isToldAgain 36 = .ok (.invokevirtual 72, 3) := by decide +kernel
theorem dL_isToldAgain_39 : decode cL_isToldAgain 39 = .ok (.invokestatic 14, 3) := by decide +kernel
theorem dL_isToldAgain_42 : decode cL_isToldAgain 42 = .ok (.iinc 6 1, 3) := by decide +kernel
theorem dL_isToldAgain_45 : decode cL_isToldAgain 45 = .ok (.goto (-23), 3) := by decide +kernel
theorem dL_isToldAgain_48 : decode cL_isToldAgain 48 = .ok (.aload_n 0, 1) := by decide +kernel
theorem dL_isToldAgain_49 : decode cL_isToldAgain 49 = .ok (.iload 4, 2) := by decide +kernel
theorem dL_isToldAgain_51 : decode cL_isToldAgain 51 = .ok (.iload 5, 2) := by decide +kernel
theorem dL_isToldAgain_53 : decode cL_isToldAgain 53 = .ok (.iconst 1, 1) := by decide +kernel
theorem dL_isToldAgain_54 : decode cL_isToldAgain 54 = .ok (.isub, 1) := by decide +kernel
theorem dL_isToldAgain_55 : decode cL_isToldAgain 55 = .ok (.invokevirtual 72, 3) := by decide +kernel
theorem dL_isToldAgain_58 : decode cL_isToldAgain 58 = .ok (.bipush 59, 2) := by decide +kernel
theorem dL_isToldAgain_60 : decode cL_isToldAgain 60 = .ok (.if_icmp .ne 15, 3) := by decide +kernel
theorem dL_isToldAgain_63 : decode cL_isToldAgain 63 = .ok (.aload_n 0, 1) := by decide +kernel
theorem dL_isToldAgain_64 : decode cL_isToldAgain 64 = .ok (.iload 4, 2) := by decide +kernel
theorem dL_isToldAgain_66 : decode cL_isToldAgain 66 = .ok (.iconst 0, 1) := by decide +kernel
theorem dL_isToldAgain_67 : decode cL_isToldAgain 67 = .ok (.invokevirtual 72, 3) := by decide +kernel
theorem dL_isToldAgain_70 : decode cL_isToldAgain 70 = .ok (.bipush 99, 2) := by decide +kernel
theorem dL_isToldAgain_72 : decode cL_isToldAgain 72 = .ok (.if_icmp .eq 5, 3) := by decide +kernel
theorem dL_isToldAgain_75 : decode cL_isToldAgain 75 = .ok (.iconst 0, 1) := by decide +kernel
theorem dL_isToldAgain_76 : decode cL_isToldAgain 76 = .ok (.ireturn, 1) := by decide +kernel
theorem dL_isToldAgain_77 : decode cL_isToldAgain 77 = .ok (.iinc 4 1, 3) := by decide +kernel
theorem dL_isToldAgain_80 : decode cL_isToldAgain 80 = .ok (.goto (-77), 3) := by decide +kernel
theorem dL_isToldAgain_83 : decode cL_isToldAgain 83 = .ok (.aload_n 2, 1) := by decide +kernel
theorem dL_isToldAgain_84 : decode cL_isToldAgain 84 = .ok (.aload_n 2, 1) := by decide +kernel
theorem dL_isToldAgain_85 : decode cL_isToldAgain 85 = .ok (.aload_n 3, 1) := by decide +kernel
theorem dL_isToldAgain_86 : decode cL_isToldAgain 86 = .ok (.invokestatic 64, 3) := by decide +kernel
theorem dL_isToldAgain_89 : decode cL_isToldAgain 89 = .ok (.invokevirtual 68, 3) := by decide +kernel
theorem dL_isToldAgain_92 : decode cL_isToldAgain 92 = .ok (.ifCond .ne 13, 3) := by decide +kernel
theorem dL_isToldAgain_95 : decode cL_isToldAgain 95 = .ok (.aload_n 2, 1) := by decide +kernel
theorem dL_isToldAgain_96 : decode cL_isToldAgain 96 = .ok (.iconst 0, 1) := by decide +kernel
theorem dL_isToldAgain_97 : decode cL_isToldAgain 97 = .ok (.invokevirtual 75, 3) := by decide +kernel
theorem dL_isToldAgain_100 : decode cL_isToldAgain 100 = .ok (.aload_n 1, 1) := by decide +kernel
theorem dL_isToldAgain_101 : decode cL_isToldAgain 101 = .ok (.arraylength, 1) := by decide +kernel
theorem dL_isToldAgain_102 : decode cL_isToldAgain 102 = .ok (.if_icmp .eq 5, 3) := by decide +kernel
theorem dL_isToldAgain_105 : decode cL_isToldAgain 105 = .ok (.iconst 0, 1) := by decide +kernel
theorem dL_isToldAgain_106 : decode cL_isToldAgain 106 = .ok (.ireturn, 1) := by decide +kernel
theorem dL_isToldAgain_107 : decode cL_isToldAgain 107 = .ok (.iconst 0, 1) := by decide +kernel
theorem dL_isToldAgain_108 : decode cL_isToldAgain 108 = .ok (.istore 4, 2) := by decide +kernel
theorem dL_isToldAgain_110 : decode cL_isToldAgain 110 = .ok (.iload 4, 2) := by decide +kernel
theorem dL_isToldAgain_112 : decode cL_isToldAgain 112 = .ok (.aload_n 1, 1) := by decide +kernel
theorem dL_isToldAgain_113 : decode cL_isToldAgain 113 = .ok (.arraylength, 1) := by decide +kernel
theorem dL_isToldAgain_114 : decode cL_isToldAgain 114 = .ok (.if_icmp .ge 84, 3) := by decide +kernel
theorem dL_isToldAgain_117 : decode cL_isToldAgain 117 = .ok (.aload_n 2, 1) := by decide +kernel
theorem dL_isToldAgain_118 : decode cL_isToldAgain 118 = .ok (.iload 4, 2) := by decide +kernel
theorem dL_isToldAgain_120 : decode cL_isToldAgain 120 = .ok (.iconst 0, 1) := by decide +kernel
theorem dL_isToldAgain_121 : decode cL_isToldAgain 121 = .ok (.invokevirtual 78, 3) := by decide +kernel
theorem dL_isToldAgain_124 : decode cL_isToldAgain 124 = .ok (.aload_n 1, 1) := by decide +kernel
theorem dL_isToldAgain_125 : decode cL_isToldAgain 125 = .ok (.iload 4, 2) := by decide +kernel
theorem dL_isToldAgain_127 : decode cL_isToldAgain 127 = .ok (.iaload, 1) := by decide +kernel
theorem dL_isToldAgain_128 : decode cL_isToldAgain 128 = .ok (.if_icmp .ne 20, 3) := by decide +kernel
theorem dL_isToldAgain_131 : decode cL_isToldAgain 131 = .ok (.aload_n 2, 1) := by decide +kernel
theorem dL_isToldAgain_132 : decode cL_isToldAgain 132 = .ok (.iload 4, 2) := by decide +kernel
theorem dL_isToldAgain_134 : decode cL_isToldAgain 134 = .ok (.iconst (-1), 1) := by decide +kernel
theorem dL_isToldAgain_135 : decode cL_isToldAgain 135 = .ok (.invokevirtual 72, 3) := by decide +kernel
theorem dL_isToldAgain_138 : decode cL_isToldAgain 138 = .ok (.aload_n 0, 1) := by decide +kernel
theorem dL_isToldAgain_139 : decode cL_isToldAgain 139 = .ok (.iload 4, 2) := by decide +kernel
theorem dL_isToldAgain_141 : decode cL_isToldAgain 141 = .ok (.iconst (-1), 1) := by decide +kernel
theorem dL_isToldAgain_142 : decode cL_isToldAgain 142 = .ok (.invokevirtual 72, 3) := by decide +kernel
theorem dL_isToldAgain_145 : decode cL_isToldAgain 145 = .ok (.if_icmp .eq 5, 3) := by decide +kernel
theorem dL_isToldAgain_148 : decode cL_isToldAgain 148 = .ok (.iconst 0, 1) := by decide +kernel
theorem dL_isToldAgain_149 : decode cL_isToldAgain 149 = .ok (.ireturn, 1) := by decide +kernel
theorem dL_isToldAgain_150 : decode cL_isToldAgain 150 = .ok (.iconst 0, 1) := by decide +kernel
theorem dL_isToldAgain_151 : decode cL_isToldAgain 151 = .ok (.istore 5, 2) := by decide +kernel
theorem dL_isToldAgain_153 : decode cL_isToldAgain 153 = .ok (.iload 5, 2) := by decide +kernel
theorem dL_isToldAgain_155 : decode cL_isToldAgain 155 = .ok (.aload_n 0, 1) := by decide +kernel
theorem dL_isToldAgain_156 : decode cL_isToldAgain 156 = .ok (.iload 4, 2) := by decide +kernel
theorem dL_isToldAgain_158 : decode cL_isToldAgain 158 = .ok (.iconst (-1), 1) := by decide +kernel
theorem dL_isToldAgain_159 : decode cL_isToldAgain 159 = .ok (.invokevirtual 72, 3) := by decide +kernel
theorem dL_isToldAgain_162 : decode cL_isToldAgain 162 = .ok (.if_icmp .ge 30, 3) := by decide +kernel
theorem dL_isToldAgain_165 : decode cL_isToldAgain 165 = .ok (.aload_n 2, 1) := by decide +kernel
theorem dL_isToldAgain_166 : decode cL_isToldAgain 166 = .ok (.iload 4, 2) := by decide +kernel
theorem dL_isToldAgain_168 : decode cL_isToldAgain 168 = .ok (.iload 5, 2) := by decide +kernel
theorem dL_isToldAgain_170 : decode cL_isToldAgain 170 = .ok (.invokevirtual 72, 3) := by decide +kernel
theorem dL_isToldAgain_173 : decode cL_isToldAgain 173 = .ok (.aload_n 0, 1) := by decide +kernel
theorem dL_isToldAgain_174 : decode cL_isToldAgain 174 = .ok (.iload 4, 2) := by decide +kernel
theorem dL_isToldAgain_176 : decode cL_isToldAgain 176 = .ok (.iload 5, 2) := by decide +kernel
theorem dL_isToldAgain_178 : decode cL_isToldAgain 178 = .ok (.invokevirtual 72, 3) := by decide +kernel
theorem dL_isToldAgain_181 : decode cL_isToldAgain 181 = .ok (.if_icmp .eq 5, 3) := by decide +kernel
theorem dL_isToldAgain_184 : decode cL_isToldAgain 184 = .ok (.iconst 0, 1) := by decide +kernel
theorem dL_isToldAgain_185 : decode cL_isToldAgain 185 = .ok (.ireturn, 1) := by decide +kernel
theorem dL_isToldAgain_186 : decode cL_isToldAgain 186 = .ok (.iinc 5 1, 3) := by decide +kernel
theorem dL_isToldAgain_189 : decode cL_isToldAgain 189 = .ok (.goto (-36), 3) := by decide +kernel
theorem dL_isToldAgain_192 : decode cL_isToldAgain 192 = .ok (.iinc 4 1, 3) := by decide +kernel
theorem dL_isToldAgain_195 : decode cL_isToldAgain 195 = .ok (.goto (-85), 3) := by decide +kernel
theorem dL_isToldAgain_198 : decode cL_isToldAgain 198 = .ok (.iconst 1, 1) := by decide +kernel
theorem dL_isToldAgain_199 : decode cL_isToldAgain 199 = .ok (.ireturn, 1) := by decide +kernel
theorem dL_isRight_0 : decode cL_isRight 0 = .ok (.iconst 0, 1) := by decide +kernel
theorem dL_isRight_1 : decode cL_isRight 1 = .ok (.istore_n 2, 1) := by decide +kernel
theorem dL_isRight_2 : decode cL_isRight 2 = .ok (.iconst 0, 1) := by decide +kernel
theorem dL_isRight_3 : decode cL_isRight 3 = .ok (.istore_n 3, 1) := by decide +kernel
theorem dL_isRight_4 : decode cL_isRight 4 = .ok (.iconst 0, 1) := by decide +kernel
theorem dL_isRight_5 : decode cL_isRight 5 = .ok (.istore 4, 2) := by decide +kernel
theorem dL_isRight_7 : decode cL_isRight 7 = .ok (.iconst 0, 1) := by decide +kernel
theorem dL_isRight_8 : decode cL_isRight 8 = .ok (.istore 5, 2) := by decide +kernel
theorem dL_isRight_10 : decode cL_isRight 10 = .ok (.iconst 0, 1) := by decide +kernel
theorem dL_isRight_11 : decode cL_isRight 11 = .ok (.istore 6, 2) := by decide +kernel
theorem dL_isRight_13 : decode cL_isRight 13 = .ok (.iload 6, 2) := by decide +kernel
theorem dL_isRight_15 : decode cL_isRight 15 = .ok (.aload_n 1, 1) := by decide +kernel
theorem dL_isRight_16 : decode cL_isRight 16 = .ok (.arraylength, 1) := by decide +kernel
theorem dL_isRight_17 : decode cL_isRight 17 = .ok (.if_icmp .ge 319, 3) := by decide +kernel
theorem dL_isRight_20 : decode cL_isRight 20 = .ok (.iconst 0, 1) := by decide +kernel
theorem dL_isRight_21 : decode cL_isRight 21 = .ok (.istore 7, 2) := by decide +kernel
theorem dL_isRight_23 : decode cL_isRight 23 = .ok (.iconst 0, 1) := by decide +kernel
theorem dL_isRight_24 : decode cL_isRight 24 = .ok (.istore 8, 2) := by decide +kernel
theorem dL_isRight_26 : decode cL_isRight 26 = .ok (.iconst 0, 1) := by decide +kernel
theorem dL_isRight_27 : decode cL_isRight 27 = .ok (.istore 9, 2) := by decide +kernel
theorem dL_isRight_29 : decode cL_isRight 29 = .ok (.iconst 0, 1) := by decide +kernel
theorem dL_isRight_30 : decode cL_isRight 30 = .ok (.istore 10, 2) := by decide +kernel
theorem dL_isRight_32 : decode cL_isRight 32 = .ok (.iload 10, 2) := by decide +kernel
theorem dL_isRight_34 : decode cL_isRight 34 = .ok (.aload_n 1, 1) := by decide +kernel
theorem dL_isRight_35 : decode cL_isRight 35 = .ok (.arraylength, 1) := by decide +kernel
theorem dL_isRight_36 : decode cL_isRight 36 = .ok (.if_icmp .ge 59, 3) := by decide +kernel
theorem dL_isRight_39 : decode cL_isRight 39 = .ok (.aload_n 1, 1) := by decide +kernel
theorem dL_isRight_40 : decode cL_isRight 40 = .ok (.iload 10, 2) := by decide +kernel
theorem dL_isRight_42 : decode cL_isRight 42 = .ok (.iaload, 1) := by decide +kernel
theorem dL_isRight_43 : decode cL_isRight 43 = .ok (.iload 6, 2) := by decide +kernel
theorem dL_isRight_45 : decode cL_isRight 45 = .ok (.if_icmp .eq 6, 3) := by decide +kernel
theorem dL_isRight_48 : decode cL_isRight 48 = .ok (.goto 41, 3) := by decide +kernel
theorem dL_isRight_51 : decode cL_isRight 51 = .ok (.iload 7, 2) := by decide +kernel
theorem dL_isRight_53 : decode cL_isRight 53 = .ok (.aload_n 0, 1) := by decide +kernel
theorem dL_isRight_54 : decode cL_isRight 54 = .ok (.iload 10, 2) := by decide +kernel
theorem dL_isRight_56 : decode cL_isRight 56 = .ok (.iconst 3, 1) := by decide +kernel
theorem dL_isRight_57 : decode cL_isRight 57 = .ok (.invokevirtual 78, 3) := by decide +kernel
theorem dL_isRight_60 : decode cL_isRight 60 = .ok (.iadd, 1) := by decide +kernel
theorem dL_isRight_61 : decode cL_isRight 61 = .ok (.istore 7, 2) := by decide +kernel
theorem dL_isRight_63 : decode cL_isRight 63 = .ok (.iload 8, 2) := by decide +kernel
theorem dL_isRight_65 : decode cL_isRight 65 = .ok (.aload_n 0, 1) := by decide +kernel
theorem dL_isRight_66 : decode cL_isRight 66 = .ok (.iload 10, 2) := by decide +kernel
theorem dL_isRight_68 : decode cL_isRight 68 = .ok (.iconst 2, 1) := by decide +kernel
theorem dL_isRight_69 : decode cL_isRight 69 = .ok (.invokevirtual 78, 3) := by decide +kernel
theorem dL_isRight_72 : decode cL_isRight 72 = .ok (.iadd, 1) := by decide +kernel
theorem dL_isRight_73 : decode cL_isRight 73 = .ok (.istore 8, 2) := by decide +kernel
theorem dL_isRight_75 : decode cL_isRight 75 = .ok (.iload 9, 2) := by decide +kernel
theorem dL_isRight_77 : decode cL_isRight 77 = .ok (.aload_n 0, 1) := by decide +kernel
theorem dL_isRight_78 : decode cL_isRight 78 = .ok (.iload 10, 2) := by decide +kernel
theorem dL_isRight_80 : decode cL_isRight 80 = .ok (.iconst 5, 1) := by decide +kernel
theorem dL_isRight_81 : decode cL_isRight 81 = .ok (.invokevirtual 78, 3) := by decide +kernel
theorem dL_isRight_84 : decode cL_isRight 84 = .ok (.invokestatic 81, 3) := by decide +kernel
theorem dL_isRight_87 : decode cL_isRight 87 = .ok (.istore 9, 2) := by decide +kernel
theorem dL_isRight_89 : decode cL_isRight 89 = .ok (.iinc 10 1, 3) := by decide +kernel
theorem dL_isRight_92 : decode cL_isRight 92 = .ok (.goto (-60), 3) := by decide +kernel
theorem dL_isRight_95 : decode cL_isRight 95 = .ok (.aload_n 1, 1) := by decide +kernel
theorem dL_isRight_96 : decode cL_isRight 96 = .ok (.iload 6, 2) := by decide +kernel
theorem dL_isRight_98 : decode cL_isRight 98 = .ok (.invokestatic 34, 3) := by decide +kernel
theorem dL_isRight_101 : decode cL_isRight 101 = .ok (.istore 10, 2) := by decide +kernel
theorem dL_isRight_103 : decode cL_isRight 103 = .ok (.iload 10, 2) := by decide +kernel
theorem dL_isRight_105 : decode cL_isRight 105 = .ok (.ifCond .ne 71, 3) := by decide +kernel
theorem dL_isRight_108 : decode cL_isRight 108 = .ok (.aload_n 0, 1) := by decide +kernel
theorem dL_isRight_109 : decode cL_isRight 109 = .ok (.iload 6, 2) := by decide +kernel
theorem dL_isRight_111 : decode cL_isRight 111 = .ok (.iconst 3, 1) := by decide +kernel
theorem dL_isRight_112 : decode cL_isRight 112 = .ok (.invokevirtual 78, 3) := by decide +kernel
theorem dL_isRight_115 : decode cL_isRight 115 = .ok (.iload 7, 2) := by decide +kernel
theorem dL_isRight_117 : decode cL_isRight 117 = .ok (.if_icmp .ne 57, 3) := by decide +kernel
theorem dL_isRight_120 : decode cL_isRight 120 = .ok (.aload_n 0, 1) := by decide +kernel
theorem dL_isRight_121 : decode cL_isRight 121 = .ok (.iload 6, 2) := by decide +kernel
theorem dL_isRight_123 : decode cL_isRight 123 = .ok (.iconst 2, 1) := by decide +kernel
theorem dL_isRight_124 : decode cL_isRight 124 = .ok (.invokevirtual 78, 3) := by decide +kernel
theorem dL_isRight_127 : decode cL_isRight 127 = .ok (.iload 8, 2) := by decide +kernel
theorem dL_isRight_129 : decode cL_isRight 129 = .ok (.ifCond .le 7, 3) := by decide +kernel
theorem dL_isRight_132 : decode cL_isRight 132 = .ok (.iconst 1, 1) := by decide +kernel
theorem dL_isRight_133 : decode cL_isRight 133 = .ok (.goto 4, 3) := by decide +kernel
theorem dL_isRight_136 : decode cL_isRight 136 = .ok (.iconst 0, 1) := by decide +kernel
theorem dL_isRight_137 : decode cL_isRight 137 = .ok (.if_icmp .ne 37, 3) := by decide +kernel
theorem dL_isRight_140 : decode cL_isRight 140 = .ok (.aload_n 0, 1) := by decide +kernel
theorem dL_isRight_141 : decode cL_isRight 141 = .ok (.iload 6, 2) := by decide +kernel
theorem dL_isRight_143 : decode cL_isRight 143 = .ok (.bipush 6, 2) := by decide +kernel
theorem dL_isRight_145 : decode cL_isRight 145 = .ok (.invokevirtual 78, 3) := by decide +kernel
theorem dL_isRight_148 : decode cL_isRight 148 = .ok (.iload 9, 2) := by decide +kernel
theorem dL_isRight_150 : decode cL_isRight 150 = .ok (.if_icmp .lt 24, 3) := by decide +kernel
theorem dL_isRight_153 : decode cL_isRight 153 = .ok (.aload_n 0, 1) := by decide +kernel
theorem dL_isRight_154 : decode cL_isRight 154 = .ok (.iload 6, 2) := by decide +kernel
theorem dL_isRight_156 : decode cL_isRight 156 = .ok (.bipush 8, 2) := by decide +kernel
theorem dL_isRight_158 : decode cL_isRight 158 = .ok (.invokevirtual 78, 3) := by decide +kernel
theorem dL_isRight_161 : decode cL_isRight 161 = .ok (.ifCond .ne 13, 3) := by decide +kernel
theorem dL_isRight_164 : decode cL_isRight 164 = .ok (.aload_n 0, 1) := by decide +kernel
theorem dL_isRight_165 : decode cL_isRight 165 = .ok (.iload 6, 2) := by decide +kernel
theorem dL_isRight_167 : decode cL_isRight 167 = .ok (.iconst 4, 1) := by decide +kernel
theorem dL_isRight_168 : decode cL_isRight 168 = .ok (.invokevirtual 78, 3) := by decide +kernel
theorem dL_isRight_171 : decode cL_isRight 171 = .ok (.ifCond .eq 5, 3) := by decide +kernel
theorem dL_isRight_174 : decode cL_isRight 174 = .ok (.iconst 0, 1) := by decide +kernel
theorem dL_isRight_175 : decode cL_isRight 175 = .ok (.ireturn, 1) := by decide +kernel
theorem dL_isRight_176 : decode cL_isRight 176 = .ok (.iload 10, 2) := by decide +kernel
theorem dL_isRight_178 : decode cL_isRight 178 = .ok (.ifCond .eq 61, 3) := by decide +kernel
theorem dL_isRight_181 : decode cL_isRight 181 = .ok (.aload_n 0, 1) := by decide +kernel
theorem dL_isRight_182 : decode cL_isRight 182 = .ok (.iload 6, 2) := by decide +kernel
theorem dL_isRight_184 : decode cL_isRight 184 = .ok (.iconst 2, 1) := by decide +kernel
theorem dL_isRight_185 : decode cL_isRight 185 = .ok (.invokevirtual 78, 3) := by decide +kernel
theorem dL_isRight_188 : decode cL_isRight 188 = .ok (.aload_n 0, 1) := by decide +kernel
theorem dL_isRight_189 : decode cL_isRight 189 = .ok (.iload 6, 2) := by decide +kernel
theorem dL_isRight_191 : decode cL_isRight 191 = .ok (.bipush 8, 2) := by decide +kernel
theorem dL_isRight_193 : decode cL_isRight 193 = .ok (.invokevirtual 78, 3) := by decide +kernel
theorem dL_isRight_196 : decode cL_isRight 196 = .ok (.ifCond .le 7, 3) := by decide +kernel
theorem dL_isRight_199 : decode cL_isRight 199 = .ok (.iconst 1, 1) := by decide +kernel
theorem dL_isRight_200 : decode cL_isRight 200 = .ok (.goto 4, 3) := by decide +kernel
theorem dL_isRight_203 : decode cL_isRight 203 = .ok (.iconst 0, 1) := by decide +kernel
theorem dL_isRight_204 : decode cL_isRight 204 = .ok (.if_icmp .ne 33, 3) := by decide +kernel
theorem dL_isRight_207 : decode cL_isRight 207 = .ok (.aload_n 0, 1) := by decide +kernel
theorem dL_isRight_208 : decode cL_isRight 208 = .ok (.iload 6, 2) := by decide +kernel
theorem dL_isRight_210 : decode cL_isRight 210 = .ok (.bipush 8, 2) := by decide +kernel
theorem dL_isRight_212 : decode cL_isRight 212 = .ok (.invokevirtual 78, 3) := by decide +kernel
theorem dL_isRight_215 : decode cL_isRight 215 = .ok (.bipush 20, 2) := by decide +kernel
theorem dL_isRight_217 : decode cL_isRight 217 = .ok (.if_icmp .gt 20, 3) := by decide +kernel
theorem dL_isRight_220 : decode cL_isRight 220 = .ok (.aload_n 0, 1) := by decide +kernel
theorem dL_isRight_221 : decode cL_isRight 221 = .ok (.iload 6, 2) := by decide +kernel
theorem dL_isRight_223 : decode cL_isRight 223 = .ok (.iconst 4, 1) := by decide +kernel
theorem dL_isRight_224 : decode cL_isRight 224 = .ok (.invokevirtual 78, 3) := by decide +kernel
theorem dL_isRight_227 : decode cL_isRight 227 = .ok (.aload_n 0, 1) := by decide +kernel
theorem dL_isRight_228 : decode cL_isRight 228 = .ok (.iload 6, 2) := by decide +kernel
theorem dL_isRight_230 : decode cL_isRight 230 = .ok (.iconst 3, 1) := by decide +kernel
theorem dL_isRight_231 : decode cL_isRight 231 = .ok (.invokevirtual 78, 3) := by decide +kernel
theorem dL_isRight_234 : decode cL_isRight 234 = .ok (.if_icmp .le 5, 3) := by decide +kernel
theorem dL_isRight_237 : decode cL_isRight 237 = .ok (.iconst 0, 1) := by decide +kernel
theorem dL_isRight_238 : decode cL_isRight 238 = .ok (.ireturn, 1) := by decide +kernel
theorem dL_isRight_239 : decode cL_isRight 239 = .ok (.iload_n 2, 1) := by decide +kernel
theorem dL_isRight_240 : decode cL_isRight 240 = .ok (.aload_n 0, 1) := by decide +kernel
theorem dL_isRight_241 : decode cL_isRight 241 = .ok (.iload 6, 2) := by decide +kernel
theorem dL_isRight_243 : decode cL_isRight 243 = .ok (.bipush 8, 2) := by decide +kernel
theorem dL_isRight_245 : decode cL_isRight 245 = .ok (.invokevirtual 78, 3) := by decide +kernel
theorem dL_isRight_248 : decode cL_isRight 248 = .ok (.iadd, 1) := by decide +kernel
theorem dL_isRight_249 : decode cL_isRight 249 = .ok (.istore_n 2, 1) := by decide +kernel
theorem dL_isRight_250 : decode cL_isRight 250 = .ok (.iload_n 3, 1) := by decide +kernel
theorem dL_isRight_251 : decode cL_isRight 251 = .ok (.aload_n 0, 1) := by decide +kernel
theorem dL_isRight_252 : decode cL_isRight 252 = .ok (.iload 6, 2) := by decide +kernel
theorem dL_isRight_254 : decode cL_isRight 254 = .ok (.bipush 7, 2) := by decide +kernel
theorem dL_isRight_256 : decode cL_isRight 256 = .ok (.invokevirtual 78, 3) := by decide +kernel
theorem dL_isRight_259 : decode cL_isRight 259 = .ok (.iadd, 1) := by decide +kernel
theorem dL_isRight_260 : decode cL_isRight 260 = .ok (.istore_n 3, 1) := by decide +kernel
theorem dL_isRight_261 : decode cL_isRight 261 = .ok (.iload 4, 2) := by decide +kernel
theorem dL_isRight_263 : decode cL_isRight 263 = .ok (.iload 10, 2) := by decide +kernel
theorem dL_isRight_265 : decode cL_isRight 265 = .ok (.ifCond .eq 13, 3) := by decide +kernel
theorem dL_isRight_268 : decode cL_isRight 268 = .ok (.aload_n 0, 1) := by decide +kernel
theorem dL_isRight_269 : decode cL_isRight 269 = .ok (.iload 6, 2) := by decide +kernel
theorem dL_isRight_271 : decode cL_isRight 271 = .ok (.iconst 2, 1) := by decide +kernel
theorem dL_isRight_272 : decode cL_isRight 272 = .ok (.invokevirtual 78, 3) := by decide +kernel
theorem dL_isRight_275 : decode cL_isRight 275 = .ok (.goto 4, 3) := by decide +kernel
theorem dL_isRight_278 : decode cL_isRight 278 = .ok (.iconst 0, 1) := by decide +kernel
theorem dL_isRight_279 : decode cL_isRight 279 = .ok (.iadd, 1) := by decide +kernel
theorem dL_isRight_280 : decode cL_isRight 280 = .ok (.istore 4, 2) := by decide +kernel
theorem dL_isRight_282 : decode cL_isRight 282 = .ok (.iload 5, 2) := by decide +kernel
theorem dL_isRight_284 : decode cL_isRight 284 = .ok (.aload_n 1, 1) := by decide +kernel
theorem dL_isRight_285 : decode cL_isRight 285 = .ok (.iload 6, 2) := by decide +kernel
theorem dL_isRight_287 : decode cL_isRight 287 = .ok (.iaload, 1) := by decide +kernel
theorem dL_isRight_288 : decode cL_isRight 288 = .ok (.ifCond .ge 13, 3) := by decide +kernel
theorem dL_isRight_291 : decode cL_isRight 291 = .ok (.aload_n 0, 1) := by decide +kernel
theorem dL_isRight_292 : decode cL_isRight 292 = .ok (.iload 6, 2) := by decide +kernel
theorem dL_isRight_294 : decode cL_isRight 294 = .ok (.iconst 3, 1) := by decide +kernel
theorem dL_isRight_295 : decode cL_isRight 295 = .ok (.invokevirtual 78, 3) := by decide +kernel
theorem dL_isRight_298 : decode cL_isRight 298 = .ok (.goto 4, 3) := by decide +kernel
theorem dL_isRight_301 : decode cL_isRight 301 = .ok (.iconst 0, 1) := by decide +kernel
theorem dL_isRight_302 : decode cL_isRight 302 = .ok (.iadd, 1) := by decide +kernel
theorem dL_isRight_303 : decode cL_isRight 303 = .ok (.istore 5, 2) := by decide +kernel
theorem dL_isRight_305 : decode cL_isRight 305 = .ok (.aload_n 1, 1) := by decide +kernel
theorem dL_isRight_306 : decode cL_isRight 306 = .ok (.iload 6, 2) := by decide +kernel
theorem dL_isRight_308 : decode cL_isRight 308 = .ok (.iaload, 1) := by decide +kernel
theorem dL_isRight_309 : decode cL_isRight 309 = .ok (.ifCond .ge 21, 3) := by decide +kernel
theorem dL_isRight_312 : decode cL_isRight 312 = .ok (.aload_n 0, 1) := by decide +kernel
theorem dL_isRight_313 : decode cL_isRight 313 = .ok (.iload 6, 2) := by decide +kernel
theorem dL_isRight_315 : decode cL_isRight 315 = .ok (.iconst 5, 1) := by decide +kernel
theorem dL_isRight_316 : decode cL_isRight 316 = .ok (.invokevirtual 78, 3) := by decide +kernel
theorem dL_isRight_319 : decode cL_isRight 319 = .ok (.aload_n 0, 1) := by decide +kernel
theorem dL_isRight_320 : decode cL_isRight 320 = .ok (.bipush 9, 2) := by decide +kernel
theorem dL_isRight_322 : decode cL_isRight 322 = .ok (.invokevirtual 75, 3) := by decide +kernel
theorem dL_isRight_325 : decode cL_isRight 325 = .ok (.if_icmp .le 5, 3) := by decide +kernel
theorem dL_isRight_328 : decode cL_isRight 328 = .ok (.iconst 0, 1) := by decide +kernel
theorem dL_isRight_329 : decode cL_isRight 329 = .ok (.ireturn, 1) := by decide +kernel
theorem dL_isRight_330 : decode cL_isRight 330 = .ok (.iinc 6 1, 3) := by decide +kernel
theorem dL_isRight_333 : decode cL_isRight 333 = .ok (.goto (-320), 3) := by decide +kernel
theorem dL_isRight_336 : decode cL_isRight 336 = .ok (.aload_n 0, 1) := by decide +kernel
theorem dL_isRight_337 : decode cL_isRight 337 = .ok (.iconst 4, 1) := by decide +kernel
theorem dL_isRight_338 : decode cL_isRight 338 = .ok (.invokevirtual 75, 3) := by decide +kernel
theorem dL_isRight_341 : decode cL_isRight 341 = .ok (.iload 4, 2) := by decide +kernel
theorem dL_isRight_343 : decode cL_isRight 343 = .ok (.if_icmp .ne 75, 3) := by decide +kernel
theorem dL_isRight_346 : decode cL_isRight 346 = .ok (.aload_n 0, 1) := by decide +kernel
theorem dL_isRight_347 : decode cL_isRight 347 = .ok (.iconst 5, 1) := by decide +kernel
theorem dL_isRight_348 : decode cL_isRight 348 = .ok (.invokevirtual 75, 3) := by decide +kernel
theorem dL_isRight_351 : decode cL_isRight 351 = .ok (.iload_n 2, 1) := by decide +kernel
theorem dL_isRight_352 : decode cL_isRight 352 = .ok (.if_icmp .ne 66, 3) := by decide +kernel
theorem dL_isRight_355 : decode cL_isRight 355 = .ok (.aload_n 0, 1) := by decide +kernel
theorem dL_isRight_356 : decode cL_isRight 356 = .ok (.bipush 8, 2) := by decide +kernel
theorem dL_isRight_358 : decode cL_isRight 358 = .ok (.invokevirtual 75, 3) := by decide +kernel
theorem dL_isRight_361 : decode cL_isRight 361 = .ok (.iload_n 3, 1) := by decide +kernel
theorem dL_isRight_362 : decode cL_isRight 362 = .ok (.if_icmp .ne 56, 3) := by decide +kernel
theorem dL_isRight_365 : decode cL_isRight 365 = .ok (.aload_n 0, 1) := by decide +kernel
theorem dL_isRight_366 : decode cL_isRight 366 = .ok (.bipush 10, 2) := by decide +kernel
theorem dL_isRight_368 : decode cL_isRight 368 = .ok (.invokevirtual 75, 3) := by decide +kernel
theorem dL_isRight_371 : decode cL_isRight 371 = .ok (.iload 5, 2) := by decide +kernel
theorem dL_isRight_373 : decode cL_isRight 373 = .ok (.if_icmp .ne 45, 3) := by decide +kernel
theorem dL_isRight_376 : decode cL_isRight 376 = .ok (.iload 5, 2) := by decide +kernel
theorem dL_isRight_378 : decode cL_isRight 378 = .ok (.aload_n 0, 1) := by decide +kernel
theorem dL_isRight_379 : decode cL_isRight 379 = .ok (.iconst 2, 1) := by decide +kernel
theorem dL_isRight_380 : decode cL_isRight 380 = .ok (.invokevirtual 75, 3) := by decide +kernel
theorem dL_isRight_383 : decode cL_isRight 383 = .ok (.bipush 64, 2) := by decide +kernel
theorem dL_isRight_385 : decode cL_isRight 385 = .ok (.iadd, 1) := by decide +kernel
theorem dL_isRight_386 : decode cL_isRight 386 = .ok (.if_icmp .gt 32, 3) := by decide +kernel
theorem dL_isRight_389 : decode cL_isRight 389 = .ok (.aload_n 0, 1) := by decide +kernel
theorem dL_isRight_390 : decode cL_isRight 390 = .ok (.bipush 7, 2) := by decide +kernel
theorem dL_isRight_392 : decode cL_isRight 392 = .ok (.invokevirtual 75, 3) := by decide +kernel
theorem dL_isRight_395 : decode cL_isRight 395 = .ok (.aload_n 0, 1) := by decide +kernel
theorem dL_isRight_396 : decode cL_isRight 396 = .ok (.bipush 6, 2) := by decide +kernel
theorem dL_isRight_398 : decode cL_isRight 398 = .ok (.invokevirtual 75, 3) := by decide +kernel
theorem dL_isRight_401 : decode cL_isRight 401 = .ok (.if_icmp .gt 17, 3) := by decide +kernel
theorem dL_isRight_404 : decode cL_isRight 404 = .ok (.aload_n 0, 1) := by decide +kernel
theorem dL_isRight_405 : decode cL_isRight 405 = .ok (.iconst 3, 1) := by decide +kernel
theorem dL_isRight_406 : decode cL_isRight 406 = .ok (.invokevirtual 75, 3) := by decide +kernel
theorem dL_isRight_409 : decode cL_isRight 409 = .ok (.bipush 64, 2) := by decide +kernel
theorem dL_isRight_411 : decode cL_isRight 411 = .ok (.if_icmp .ge 7, 3) := by decide +kernel
theorem dL_isRight_414 : decode cL_isRight 414 = .ok (.iconst 1, 1) := by decide +kernel
theorem dL_isRight_415 : decode cL_isRight 415 = .ok (.goto 4, 3) := by decide +kernel
theorem dL_isRight_418 : decode cL_isRight 418 = .ok (.iconst 0, 1) := by decide +kernel
theorem dL_isRight_419 : decode cL_isRight 419 = .ok (.ireturn, 1) := by decide +kernel
theorem dL_isChosen_0 : decode cL_isChosen 0 = .ok (.aload_n 0, 1) := by decide +kernel
theorem dL_isChosen_1 : decode cL_isChosen 1 = .ok (.iconst 3, 1) := by decide +kernel
theorem dL_isChosen_2 : decode cL_isChosen 2 = .ok (.invokevirtual 75, 3) := by decide +kernel
theorem dL_isChosen_5 : decode cL_isChosen 5 = .ok (.ifCond .gt 17, 3) := by decide +kernel
theorem dL_isChosen_8 : decode cL_isChosen 8 = .ok (.aload_n 0, 1) := by decide +kernel
theorem dL_isChosen_9 : decode cL_isChosen 9 = .ok (.iconst 1, 1) := by decide +kernel
theorem dL_isChosen_10 : decode cL_isChosen 10 = .ok (.iconst 1, 1) := by decide +kernel
theorem dL_isChosen_11 : decode cL_isChosen 11 = .ok (.invokevirtual 86, 3) := by decide +kernel
theorem dL_isChosen_14 : decode cL_isChosen 14 = .ok (.aload_n 0, 1) := by decide +kernel
theorem dL_isChosen_15 : decode cL_isChosen 15 = .ok (.iconst 2, 1) := by decide +kernel
theorem dL_isChosen_16 : decode cL_isChosen 16 = .ok (.invokevirtual 75, 3) := by decide +kernel
theorem dL_isChosen_19 : decode cL_isChosen 19 = .ok (.if_icmp .eq 5, 3) := by decide +kernel
theorem dL_isChosen_22 : decode cL_isChosen 22 = .ok (.iconst 1, 1) := by decide +kernel
theorem dL_isChosen_23 : decode cL_isChosen 23 = .ok (.ireturn, 1) := by decide +kernel
theorem dL_isChosen_24 : decode cL_isChosen 24 = .ok (.iconst (-1), 1) := by decide +kernel
theorem dL_isChosen_25 : decode cL_isChosen 25 = .ok (.istore_n 3, 1) := by decide +kernel
theorem dL_isChosen_26 : decode cL_isChosen 26 = .ok (.iconst 0, 1) := by decide +kernel
theorem dL_isChosen_27 : decode cL_isChosen 27 = .ok (.istore 4, 2) := by decide +kernel
theorem dL_isChosen_29 : decode cL_isChosen 29 = .ok (.iload 4, 2) := by decide +kernel
theorem dL_isChosen_31 : decode cL_isChosen 31 = .ok (.aload_n 1, 1) := by decide +kernel
theorem dL_isChosen_32 : decode cL_isChosen 32 = .ok (.arraylength, 1) := by decide +kernel
theorem dL_isChosen_33 : decode cL_isChosen 33 = .ok (.if_icmp .ge 70, 3) := by decide +kernel
theorem dL_isChosen_36 : decode cL_isChosen 36 = .ok (.aload_n 0, 1) := by decide +kernel
theorem dL_isChosen_37 : decode cL_isChosen 37 = .ok (.iload 4, 2) := by decide +kernel
theorem dL_isChosen_39 : decode cL_isChosen 39 = .ok (.bipush 8, 2) := by decide +kernel
theorem dL_isChosen_41 : decode cL_isChosen 41 = .ok (.invokevirtual 78, 3) := by decide +kernel
theorem dL_isChosen_44 : decode cL_isChosen 44 = .ok (.ifCond .eq 53, 3) := by decide +kernel
theorem dL_isChosen_47 : decode cL_isChosen 47 = .ok (.aload_n 2, 1) := by decide +kernel
theorem dL_isChosen_48 : decode cL_isChosen 48 = .ok (.iload 4, 2) := by decide +kernel
theorem dL_isChosen_50 : decode cL_isChosen 50 = .ok (.aaload, 1) := by decide +kernel
theorem dL_isChosen_51 : decode cL_isChosen 51 = .ok (.iconst 0, 1) := by decide +kernel
theorem dL_isChosen_52 : decode cL_isChosen 52 = .ok (.aaload, 1) := by decide +kernel
theorem dL_isChosen_53 : decode cL_isChosen 53 = .ok (.ifnull 44, 3) := by decide +kernel
theorem dL_isChosen_56 : decode cL_isChosen 56 = .ok (.aload_n 0, 1) := by decide +kernel
theorem dL_isChosen_57 : decode cL_isChosen 57 = .ok (.iload 4, 2) := by decide +kernel
theorem dL_isChosen_59 : decode cL_isChosen 59 = .ok (.iconst 0, 1) := by decide +kernel
theorem dL_isChosen_60 : decode cL_isChosen 60 = .ok (.invokevirtual 89, 3) := by decide +kernel
theorem dL_isChosen_63 : decode cL_isChosen 63 = .ok (.aload_n 0, 1) := by decide +kernel
theorem dL_isChosen_64 : decode cL_isChosen 64 = .ok (.iconst 2, 1) := by decide +kernel
theorem dL_isChosen_65 : decode cL_isChosen 65 = .ok (.invokevirtual 75, 3) := by decide +kernel
theorem dL_isChosen_68 : decode cL_isChosen 68 = .ok (.if_icmp .le 6, 3) := by decide +kernel
theorem dL_isChosen_71 : decode cL_isChosen 71 = .ok (.goto 26, 3) := by decide +kernel
theorem dL_isChosen_74 : decode cL_isChosen 74 = .ok (.iload_n 3, 1) := by decide +kernel
theorem dL_isChosen_75 : decode cL_isChosen 75 = .ok (.ifCond .lt 19, 3) := by decide +kernel
theorem dL_isChosen_78 : decode cL_isChosen 78 = .ok (.aload_n 0, 1) := by decide +kernel
theorem dL_isChosen_79 : decode cL_isChosen 79 = .ok (.iload 4, 2) := by decide +kernel
theorem dL_isChosen_81 : decode cL_isChosen 81 = .ok (.iconst 1, 1) := by decide +kernel
theorem dL_isChosen_82 : decode cL_isChosen 82 = .ok (.invokevirtual 89, 3) := by decide +kernel
theorem dL_isChosen_85 : decode cL_isChosen 85 = .ok (.aload_n 0, 1) := by decide +kernel
theorem dL_isChosen_86 : decode cL_isChosen 86 = .ok (.iload_n 3, 1) := by decide +kernel
theorem dL_isChosen_87 : decode cL_isChosen 87 = .ok (.iconst 1, 1) := by decide +kernel
theorem dL_isChosen_88 : decode cL_isChosen 88 = .ok (.invokevirtual 89, 3) := by decide +kernel
theorem dL_isChosen_91 : decode cL_isChosen 91 = .ok (.if_icmp .ge 6, 3) := by decide +kernel
theorem dL_isChosen_94 : decode cL_isChosen 94 = .ok (.iload 4, 2) := by decide +kernel
theorem dL_isChosen_96 : decode cL_isChosen 96 = .ok (.istore_n 3, 1) := by decide +kernel
theorem dL_isChosen_97 : decode cL_isChosen 97 = .ok (.iinc 4 1, 3) := by decide +kernel
theorem dL_isChosen_100 : decode cL_isChosen 100 = .ok (.goto (-71), 3) := by decide +kernel
theorem dL_isChosen_103 : decode cL_isChosen 103 = .ok (.iload_n 3, 1) := by decide +kernel
theorem dL_isChosen_104 : decode cL_isChosen 104 = .ok (.ifCond .lt 29, 3) := by decide +kernel
theorem dL_isChosen_107 : decode cL_isChosen 107 = .ok (.aload_n 0, 1) := by decide +kernel
theorem dL_isChosen_108 : decode cL_isChosen 108 = .ok (.iconst 1, 1) := by decide +kernel
theorem dL_isChosen_109 : decode cL_isChosen 109 = .ok (.iconst 0, 1) := by decide +kernel
theorem dL_isChosen_110 : decode cL_isChosen 110 = .ok (.invokevirtual 86, 3) := by decide +kernel
theorem dL_isChosen_113 : decode cL_isChosen 113 = .ok (.iload_n 3, 1) := by decide +kernel
theorem dL_isChosen_114 : decode cL_isChosen 114 = .ok (.if_icmp .ne 17, 3) := by decide +kernel
theorem dL_isChosen_117 : decode cL_isChosen 117 = .ok (.aload_n 0, 1) := by decide +kernel
theorem dL_isChosen_118 : decode cL_isChosen 118 = .ok (.iconst 1, 1) := by decide +kernel
theorem dL_isChosen_119 : decode cL_isChosen 119 = .ok (.iconst 2, 1) := by decide +kernel
theorem dL_isChosen_120 : decode cL_isChosen 120 = .ok (.invokevirtual 86, 3) := by decide +kernel
theorem dL_isChosen_123 : decode cL_isChosen 123 = .ok (.iconst 1, 1) := by decide +kernel
theorem dL_isChosen_124 : decode cL_isChosen 124 = .ok (.if_icmp .ne 7, 3) := by decide +kernel
theorem dL_isChosen_127 : decode cL_isChosen 127 = .ok (.iconst 1, 1) := by decide +kernel
theorem dL_isChosen_128 : decode cL_isChosen 128 = .ok (.goto 4, 3) := by decide +kernel
theorem dL_isChosen_131 : decode cL_isChosen 131 = .ok (.iconst 0, 1) := by decide +kernel
theorem dL_isChosen_132 : decode cL_isChosen 132 = .ok (.ireturn, 1) := by decide +kernel
theorem dL_isChosen_133 : decode cL_isChosen 133 = .ok (.aload_n 0, 1) := by decide +kernel
theorem dL_isChosen_134 : decode cL_isChosen 134 = .ok (.iconst 1, 1) := by decide +kernel
theorem dL_isChosen_135 : decode cL_isChosen 135 = .ok (.iconst 0, 1) := by decide +kernel
theorem dL_isChosen_136 : decode cL_isChosen 136 = .ok (.invokevirtual 86, 3) := by decide +kernel
theorem dL_isChosen_139 : decode cL_isChosen 139 = .ok (.istore 4, 2) := by decide +kernel
theorem dL_isChosen_141 : decode cL_isChosen 141 = .ok (.aload_n 0, 1) := by decide +kernel
theorem dL_isChosen_142 : decode cL_isChosen 142 = .ok (.iconst 1, 1) := by decide +kernel
theorem dL_isChosen_143 : decode cL_isChosen 143 = .ok (.iconst 2, 1) := by decide +kernel
theorem dL_isChosen_144 : decode cL_isChosen 144 = .ok (.invokevirtual 86, 3) := by decide +kernel
theorem dL_isChosen_147 : decode cL_isChosen 147 = .ok (.ifCond .eq 5, 3) := by decide +kernel
theorem dL_isChosen_150 : decode cL_isChosen 150 = .ok (.iconst 0, 1) := by decide +kernel
theorem dL_isChosen_151 : decode cL_isChosen 151 = .ok (.ireturn, 1) := by decide +kernel
theorem dL_isChosen_152 : decode cL_isChosen 152 = .ok (.iload 4, 2) := by decide +kernel
theorem dL_isChosen_154 : decode cL_isChosen 154 = .ok (.istore 5, 2) := by decide +kernel
theorem dL_isChosen_156 : decode cL_isChosen 156 = .ok (.iload 5, 2) := by decide +kernel
theorem dL_isChosen_158 : decode cL_isChosen 158 = .ok (.ifCond .lt 125, 3) := by decide +kernel
theorem dL_isChosen_161 : decode cL_isChosen 161 = .ok (.aload_n 0, 1) := by decide +kernel
theorem dL_isChosen_162 : decode cL_isChosen 162 = .ok (.iload 5, 2) := by decide +kernel
theorem dL_isChosen_164 : decode cL_isChosen 164 = .ok (.iconst 2, 1) := by decide +kernel
theorem dL_isChosen_165 : decode cL_isChosen 165 = .ok (.invokevirtual 89, 3) := by decide +kernel
theorem dL_isChosen_168 : decode cL_isChosen 168 = .ok (.aload_n 0, 1) := by decide +kernel
theorem dL_isChosen_169 : decode cL_isChosen 169 = .ok (.iconst 2, 1) := by decide +kernel
theorem dL_isChosen_170 : decode cL_isChosen 170 = .ok (.invokevirtual 75, 3) := by decide +kernel
theorem dL_isChosen_173 : decode cL_isChosen 173 = .ok (.if_icmp .le 5, 3) := by decide +kernel
theorem dL_isChosen_176 : decode cL_isChosen 176 = .ok (.iconst 0, 1) := by decide +kernel
theorem dL_isChosen_177 : decode cL_isChosen 177 = .ok (.ireturn, 1) := by decide +kernel
theorem dL_isChosen_178 : decode cL_isChosen 178 = .ok (.iconst 0, 1) := by decide +kernel
theorem dL_isChosen_179 : decode cL_isChosen 179 = .ok (.istore 6, 2) := by decide +kernel
theorem dL_isChosen_181 : decode cL_isChosen 181 = .ok (.iload 6, 2) := by decide +kernel
theorem dL_isChosen_183 : decode cL_isChosen 183 = .ok (.aload_n 1, 1) := by decide +kernel
theorem dL_isChosen_184 : decode cL_isChosen 184 = .ok (.arraylength, 1) := by decide +kernel
theorem dL_isChosen_185 : decode cL_isChosen 185 = .ok (.if_icmp .ge 89, 3) := by decide +kernel
theorem dL_isChosen_188 : decode cL_isChosen 188 = .ok (.aload_n 1, 1) := by decide +kernel
theorem dL_isChosen_189 : decode cL_isChosen 189 = .ok (.iload 6, 2) := by decide +kernel
theorem dL_isChosen_191 : decode cL_isChosen 191 = .ok (.iaload, 1) := by decide +kernel
theorem dL_isChosen_192 : decode cL_isChosen 192 = .ok (.aload_n 1, 1) := by decide +kernel
theorem dL_isChosen_193 : decode cL_isChosen 193 = .ok (.iload 5, 2) := by decide +kernel
theorem dL_isChosen_195 : decode cL_isChosen 195 = .ok (.iaload, 1) := by decide +kernel
theorem dL_isChosen_196 : decode cL_isChosen 196 = .ok (.if_icmp .ne 72, 3) := by decide +kernel
theorem dL_isChosen_199 : decode cL_isChosen 199 = .ok (.aload_n 0, 1) := by decide +kernel
theorem dL_isChosen_200 : decode cL_isChosen 200 = .ok (.iload 6, 2) := by decide +kernel
theorem dL_isChosen_202 : decode cL_isChosen 202 = .ok (.iconst 2, 1) := by decide +kernel
theorem dL_isChosen_203 : decode cL_isChosen 203 = .ok (.invokevirtual 78, 3) := by decide +kernel
theorem dL_isChosen_206 : decode cL_isChosen 206 = .ok (.iconst 1, 1) := by decide +kernel
theorem dL_isChosen_207 : decode cL_isChosen 207 = .ok (.if_icmp .ne 61, 3) := by decide +kernel
theorem dL_isChosen_210 : decode cL_isChosen 210 = .ok (.aload_n 0, 1) := by decide +kernel
theorem dL_isChosen_211 : decode cL_isChosen 211 = .ok (.iload 6, 2) := by decide +kernel
theorem dL_isChosen_213 : decode cL_isChosen 213 = .ok (.iconst 2, 1) := by decide +kernel
theorem dL_isChosen_214 : decode cL_isChosen 214 = .ok (.invokevirtual 89, 3) := by decide +kernel
theorem dL_isChosen_217 : decode cL_isChosen 217 = .ok (.aload_n 0, 1) := by decide +kernel
theorem dL_isChosen_218 : decode cL_isChosen 218 = .ok (.iconst 2, 1) := by decide +kernel
theorem dL_isChosen_219 : decode cL_isChosen 219 = .ok (.invokevirtual 75, 3) := by decide +kernel
theorem dL_isChosen_222 : decode cL_isChosen 222 = .ok (.if_icmp .gt 46, 3) := by decide +kernel
theorem dL_isChosen_225 : decode cL_isChosen 225 = .ok (.aload_n 0, 1) := by decide +kernel
theorem dL_isChosen_226 : decode cL_isChosen 226 = .ok (.iload 6, 2) := by decide +kernel
theorem dL_isChosen_228 : decode cL_isChosen 228 = .ok (.iconst 5, 1) := by decide +kernel
theorem dL_isChosen_229 : decode cL_isChosen 229 = .ok (.invokevirtual 78, 3) := by decide +kernel
theorem dL_isChosen_232 : decode cL_isChosen 232 = .ok (.aload_n 0, 1) := by decide +kernel
theorem dL_isChosen_233 : decode cL_isChosen 233 = .ok (.iload 5, 2) := by decide +kernel
theorem dL_isChosen_235 : decode cL_isChosen 235 = .ok (.iconst 5, 1) := by decide +kernel
theorem dL_isChosen_236 : decode cL_isChosen 236 = .ok (.invokevirtual 78, 3) := by decide +kernel
theorem dL_isChosen_239 : decode cL_isChosen 239 = .ok (.if_icmp .lt 27, 3) := by decide +kernel
theorem dL_isChosen_242 : decode cL_isChosen 242 = .ok (.aload_n 0, 1) := by decide +kernel
theorem dL_isChosen_243 : decode cL_isChosen 243 = .ok (.iload 6, 2) := by decide +kernel
theorem dL_isChosen_245 : decode cL_isChosen 245 = .ok (.iconst 5, 1) := by decide +kernel
theorem dL_isChosen_246 : decode cL_isChosen 246 = .ok (.invokevirtual 78, 3) := by decide +kernel
theorem dL_isChosen_249 : decode cL_isChosen 249 = .ok (.aload_n 0, 1) := by decide +kernel
theorem dL_isChosen_250 : decode cL_isChosen 250 = .ok (.iload 5, 2) := by decide +kernel
theorem dL_isChosen_252 : decode cL_isChosen 252 = .ok (.iconst 5, 1) := by decide +kernel
theorem dL_isChosen_253 : decode cL_isChosen 253 = .ok (.invokevirtual 78, 3) := by decide +kernel
theorem dL_isChosen_256 : decode cL_isChosen 256 = .ok (.if_icmp .ne 12, 3) := by decide +kernel
theorem dL_isChosen_259 : decode cL_isChosen 259 = .ok (.iload 6, 2) := by decide +kernel
theorem dL_isChosen_261 : decode cL_isChosen 261 = .ok (.iload 5, 2) := by decide +kernel
theorem dL_isChosen_263 : decode cL_isChosen 263 = .ok (.if_icmp .ge 5, 3) := by decide +kernel
theorem dL_isChosen_266 : decode cL_isChosen 266 = .ok (.iconst 0, 1) := by decide +kernel
theorem dL_isChosen_267 : decode cL_isChosen 267 = .ok (.ireturn, 1) := by decide +kernel
theorem dL_isChosen_268 : decode cL_isChosen 268 = .ok (.iinc 6 1, 3) := by decide +kernel
theorem dL_isChosen_271 : decode cL_isChosen 271 = .ok (.goto (-90), 3) := by decide +kernel
theorem dL_isChosen_274 : decode cL_isChosen 274 = .ok (.aload_n 1, 1) := by decide +kernel
theorem dL_isChosen_275 : decode cL_isChosen 275 = .ok (.iload 5, 2) := by decide +kernel
theorem dL_isChosen_277 : decode cL_isChosen 277 = .ok (.iaload, 1) := by decide +kernel
theorem dL_isChosen_278 : decode cL_isChosen 278 = .ok (.istore 5, 2) := by decide +kernel
theorem dL_isChosen_280 : decode cL_isChosen 280 = .ok (.goto (-124), 3) := by decide +kernel
theorem dL_isChosen_283 : decode cL_isChosen 283 = .ok (.iconst 1, 1) := by decide +kernel
theorem dL_isChosen_284 : decode cL_isChosen 284 = .ok (.ireturn, 1) := by decide +kernel
theorem dL_law_0 : decode cL_law 0 = .ok (.new 9, 3) := by decide +kernel
theorem dL_law_3 : decode cL_law 3 = .ok (.dup, 1) := by decide +kernel
theorem dL_law_4 : decode cL_law 4 = .ok (.invokespecial 92, 3) := by decide +kernel
theorem dL_law_7 : decode cL_law 7 = .ok (.astore_n 1, 1) := by decide +kernel
theorem dL_law_8 : decode cL_law 8 = .ok (.bipush 6, 2) := by decide +kernel
theorem dL_law_10 : decode cL_law 10 = .ok (.newarray .int, 2) := by decide +kernel
theorem dL_law_12 : decode cL_law 12 = .ok (.astore_n 2, 1) := by decide +kernel
theorem dL_law_13 : decode cL_law 13 = .ok (.aload_n 0, 1) := by decide +kernel
theorem dL_law_14 : decode cL_law 14 = .ok (.iconst 0, 1) := by decide +kernel
theorem dL_law_15 : decode cL_law 15 = .ok (.invokestatic 93, 3) := by decide +kernel
theorem dL_law_18 : decode cL_law 18 = .ok (.astore_n 3, 1) := by decide +kernel
theorem dL_law_19 : decode cL_law 19 = .ok (.aload_n 0, 1) := by decide +kernel
theorem dL_law_20 : decode cL_law 20 = .ok (.iconst 1, 1) := by decide +kernel
theorem dL_law_21 : decode cL_law 21 = .ok (.aload_n 3, 1) := by decide +kernel
theorem dL_law_22 : decode cL_law 22 = .ok (.invokestatic 97, 3) := by decide +kernel
theorem dL_law_25 : decode cL_law 25 = .ok (.astore 4, 2) := by decide +kernel
theorem dL_law_27 : decode cL_law 27 = .ok (.aload_n 1, 1) := by decide +kernel
theorem dL_law_28 : decode cL_law 28 = .ok (.aload_n 2, 1) := by decide +kernel
theorem dL_law_29 : decode cL_law 29 = .ok (.aload_n 3, 1) := by decide +kernel
theorem dL_law_30 : decode cL_law 30 = .ok (.aload 4, 2) := by decide +kernel
theorem dL_law_32 : decode cL_law 32 = .ok (.iconst 0, 1) := by decide +kernel
theorem dL_law_33 : decode cL_law 33 = .ok (.anewarray 39, 3) := by decide +kernel
theorem dL_law_36 : decode cL_law 36 = .ok (.invokestatic 101, 3) := by decide +kernel
theorem dL_law_39 : decode cL_law 39 = .ok (.ifCond .eq 19, 3) := by decide +kernel
theorem dL_law_42 : decode cL_law 42 = .ok (.aload_n 1, 1) := by decide +kernel
theorem dL_law_43 : decode cL_law 43 = .ok (.aload_n 3, 1) := by decide +kernel
theorem dL_law_44 : decode cL_law 44 = .ok (.new 9, 3) := by decide +kernel
theorem dL_law_47 : decode cL_law 47 = .ok (.dup, 1) := by decide +kernel
theorem dL_law_48 : decode cL_law 48 = .ok (.invokespecial 92, 3) := by decide +kernel
theorem dL_law_51 : decode cL_law 51 = .ok (.aload_n 2, 1) := by decide +kernel
theorem dL_law_52 : decode cL_law 52 = .ok (.invokestatic 105, 3) := by decide +kernel
theorem dL_law_55 : decode cL_law 55 = .ok (.ifCond .ne 5, 3) := by decide +kernel
theorem dL_law_58 : decode cL_law 58 = .ok (.iconst 0, 1) := by decide +kernel
theorem dL_law_59 : decode cL_law 59 = .ok (.ireturn, 1) := by decide +kernel
theorem dL_law_60 : decode cL_law 60 = .ok (.iconst 0, 1) := by decide +kernel
theorem dL_law_61 : decode cL_law 61 = .ok (.istore 5, 2) := by decide +kernel
theorem dL_law_63 : decode cL_law 63 = .ok (.aload_n 3, 1) := by decide +kernel
theorem dL_law_64 : decode cL_law 64 = .ok (.arraylength, 1) := by decide +kernel
theorem dL_law_65 : decode cL_law 65 = .ok (.newarray .int, 2) := by decide +kernel
theorem dL_law_67 : decode cL_law 67 = .ok (.astore 6, 2) := by decide +kernel
theorem dL_law_69 : decode cL_law 69 = .ok (.iconst 0, 1) := by decide +kernel
theorem dL_law_70 : decode cL_law 70 = .ok (.istore 7, 2) := by decide +kernel
theorem dL_law_72 : decode cL_law 72 = .ok (.bipush 17, 2) := by decide +kernel
theorem dL_law_74 : decode cL_law 74 = .ok (.newarray .int, 2) := by decide +kernel
theorem dL_law_76 : decode cL_law 76 = .ok (.astore 8, 2) := by decide +kernel
theorem dL_law_78 : decode cL_law 78 = .ok (.iconst 0, 1) := by decide +kernel
theorem dL_law_79 : decode cL_law 79 = .ok (.istore 9, 2) := by decide +kernel
theorem dL_law_81 : decode cL_law 81 = .ok (.iload 9, 2) := by decide +kernel
theorem dL_law_83 : decode cL_law 83 = .ok (.bipush 16, 2) := by decide +kernel
theorem dL_law_85 : decode cL_law 85 = .ok (.if_icmp .ge 345, 3) := by decide +kernel
theorem dL_law_88 : decode cL_law 88 = .ok (.aload_n 0, 1) := by decide +kernel
theorem dL_law_89 : decode cL_law 89 = .ok (.bipush 13, 2) := by decide +kernel
theorem dL_law_91 : decode cL_law 91 = .ok (.iload 9, 2) := by decide +kernel
theorem dL_law_93 : decode cL_law 93 = .ok (.iadd, 1) := by decide +kernel
theorem dL_law_94 : decode cL_law 94 = .ok (.invokestatic 20, 3) := by decide +kernel
theorem dL_law_97 : decode cL_law 97 = .ok (.istore 10, 2) := by decide +kernel
theorem dL_law_99 : decode cL_law 99 = .ok (.iload 10, 2) := by decide +kernel
theorem dL_law_101 : decode cL_law 101 = .ok (.iconst 4, 1) := by decide +kernel
theorem dL_law_102 : decode cL_law 102 = .ok (.ishr, 1) := by decide +kernel
theorem dL_law_103 : decode cL_law 103 = .ok (.aload_n 3, 1) := by decide +kernel
theorem dL_law_104 : decode cL_law 104 = .ok (.arraylength, 1) := by decide +kernel
theorem dL_law_105 : decode cL_law 105 = .ok (.invokestatic 24, 3) := by decide +kernel
theorem dL_law_108 : decode cL_law 108 = .ok (.istore 11, 2) := by decide +kernel
theorem dL_law_110 : decode cL_law 110 = .ok (.aload 8, 2) := by decide +kernel
theorem dL_law_112 : decode cL_law 112 = .ok (.iload 9, 2) := by decide +kernel
theorem dL_law_114 : decode cL_law 114 = .ok (.aload_n 1, 1) := by decide +kernel
theorem dL_law_115 : decode cL_law 115 = .ok (.iconst 2, 1) := by decide +kernel
theorem dL_law_116 : decode cL_law 116 = .ok (.invokevirtual 75, 3) := by decide +kernel
theorem dL_law_119 : decode cL_law 119 = .ok (.bipush 7, 2) := by decide +kernel
theorem dL_law_121 : decode cL_law 121 = .ok (.imul, 1) := by decide +kernel
theorem dL_law_122 : decode cL_law 122 = .ok (.aload_n 1, 1) := by decide +kernel
theorem dL_law_123 : decode cL_law 123 = .ok (.iconst 5, 1) := by decide +kernel
theorem dL_law_124 : decode cL_law 124 = .ok (.invokevirtual 75, 3) := by decide +kernel
theorem dL_law_127 : decode cL_law 127 = .ok (.ldc 109, 2) := by decide +kernel
theorem dL_law_129 : decode cL_law 129 = .ok (.imul, 1) := by decide +kernel
theorem dL_law_130 : decode cL_law 130 = .ok (.iadd, 1) := by decide +kernel
theorem dL_law_131 : decode cL_law 131 = .ok (.aload_n 1, 1) := by decide +kernel
theorem dL_law_132 : decode cL_law 132 = .ok (.bipush 10, 2) := by decide +kernel
theorem dL_law_134 : decode cL_law 134 = .ok (.invokevirtual 75, 3) := by decide +kernel
theorem dL_law_137 : decode cL_law 137 = .ok (.bipush 31, 2) := by decide +kernel
theorem dL_law_139 : decode cL_law 139 = .ok (.imul, 1) := by decide +kernel
theorem dL_law_140 : decode cL_law 140 = .ok (.iadd, 1) := by decide +kernel
theorem dL_law_141 : decode cL_law 141 = .ok (.aload_n 1, 1) := by decide +kernel
theorem dL_law_142 : decode cL_law 142 = .ok (.bipush 9, 2) := by decide +kernel
theorem dL_law_144 : decode cL_law 144 = .ok (.invokevirtual 75, 3) := by decide +kernel
theorem dL_law_147 : decode cL_law 147 = .ok (.iadd, 1) := by decide +kernel
theorem dL_law_148 : decode cL_law 148 = .ok (.iastore, 1) := by decide +kernel
theorem dL_law_149 : decode cL_law 149 = .ok (.iload 10, 2) := by decide +kernel
theorem dL_law_151 : decode cL_law 151 = .ok (.iconst 4, 1) := by decide +kernel
theorem dL_law_152 : decode cL_law 152 = .ok (.invokestatic 24, 3) := by decide +kernel
theorem dL_law_155 : decode cL_law 155 = .ok (.iconst 3, 1) := by decide +kernel
theorem dL_law_156 : decode cL_law 156 = .ok (.if_icmp .ge 129, 3) := by decide +kernel
theorem dL_law_159 : decode cL_law 159 = .ok (.aload_n 1, 1) := by decide +kernel
theorem dL_law_160 : decode cL_law 160 = .ok (.iload 11, 2) := by decide +kernel
theorem dL_law_162 : decode cL_law 162 = .ok (.bipush 8, 2) := by decide +kernel
theorem dL_law_164 : decode cL_law 164 = .ok (.invokevirtual 78, 3) := by decide +kernel
theorem dL_law_167 : decode cL_law 167 = .ok (.istore 12, 2) := by decide +kernel
theorem dL_law_169 : decode cL_law 169 = .ok (.aload_n 1, 1) := by decide +kernel
theorem dL_law_170 : decode cL_law 170 = .ok (.iload 11, 2) := by decide +kernel
theorem dL_law_172 : decode cL_law 172 = .ok (.bipush 7, 2) := by decide +kernel
theorem dL_law_174 : decode cL_law 174 = .ok (.invokevirtual 78, 3) := by decide +kernel
theorem dL_law_177 : decode cL_law 177 = .ok (.istore 13, 2) := by decide +kernel
theorem dL_law_179 : decode cL_law 179 = .ok (.aload_n 1, 1) := by decide +kernel
theorem dL_law_180 : decode cL_law 180 = .ok (.iload 11, 2) := by decide +kernel
theorem dL_law_182 : decode cL_law 182 = .ok (.iconst 1, 1) := by decide +kernel
theorem dL_law_183 : decode cL_law 183 = .ok (.iload 10, 2) := by decide +kernel
theorem dL_law_185 : decode cL_law 185 = .ok (.bipush 8, 2) := by decide +kernel
theorem dL_law_187 : decode cL_law 187 = .ok (.ishr, 1) := by decide +kernel
theorem dL_law_188 : decode cL_law 188 = .ok (.bipush 64, 2) := by decide +kernel
theorem dL_law_190 : decode cL_law 190 = .ok (.invokestatic 24, 3) := by decide +kernel
theorem dL_law_193 : decode cL_law 193 = .ok (.iadd, 1) := by decide +kernel
theorem dL_law_194 : decode cL_law 194 = .ok (.invokevirtual 110, 3) := by decide +kernel
theorem dL_law_197 : decode cL_law 197 = .ok (.istore 14, 2) := by decide +kernel
theorem dL_law_199 : decode cL_law 199 = .ok (.aload_n 3, 1) := by decide +kernel
theorem dL_law_200 : decode cL_law 200 = .ok (.iload 11, 2) := by decide +kernel
theorem dL_law_202 : decode cL_law 202 = .ok (.invokestatic 34, 3) := by decide +kernel
theorem dL_law_205 : decode cL_law 205 = .ok (.ifCond .ne 24, 3) := by decide +kernel
theorem dL_law_208 : decode cL_law 208 = .ok (.iload 14, 2) := by decide +kernel
theorem dL_law_210 : decode cL_law 210 = .ok (.iconst (-1), 1) := by decide +kernel
theorem dL_law_211 : decode cL_law 211 = .ok (.if_icmp .eq 5, 3) := by decide +kernel
theorem dL_law_214 : decode cL_law 214 = .ok (.iconst 0, 1) := by decide +kernel
theorem dL_law_215 : decode cL_law 215 = .ok (.ireturn, 1) := by decide +kernel
theorem dL_law_216 : decode cL_law 216 = .ok (.aload 8, 2) := by decide +kernel
theorem dL_law_218 : decode cL_law 218 = .ok (.iload 7, 2) := by decide +kernel
theorem dL_law_220 : decode cL_law 220 = .ok (.aload 8, 2) := by decide +kernel
theorem dL_law_222 : decode cL_law 222 = .ok (.iload 9, 2) := by decide +kernel
theorem dL_law_224 : decode cL_law 224 = .ok (.iaload, 1) := by decide +kernel
theorem dL_law_225 : decode cL_law 225 = .ok (.iastore, 1) := by decide +kernel
theorem dL_law_226 : decode cL_law 226 = .ok (.goto 198, 3) := by decide +kernel
theorem dL_law_229 : decode cL_law 229 = .ok (.iload 14, 2) := by decide +kernel
theorem dL_law_231 : decode cL_law 231 = .ok (.iload 12, 2) := by decide +kernel
theorem dL_law_233 : decode cL_law 233 = .ok (.bipush 20, 2) := by decide +kernel
theorem dL_law_235 : decode cL_law 235 = .ok (.if_icmp .ge 10, 3) := by decide +kernel
theorem dL_law_238 : decode cL_law 238 = .ok (.iload 12, 2) := by decide +kernel
theorem dL_law_240 : decode cL_law 240 = .ok (.iconst 1, 1) := by decide +kernel
theorem dL_law_241 : decode cL_law 241 = .ok (.iadd, 1) := by decide +kernel
theorem dL_law_242 : decode cL_law 242 = .ok (.goto 5, 3) := by decide +kernel
theorem dL_law_245 : decode cL_law 245 = .ok (.bipush 20, 2) := by decide +kernel
theorem dL_law_247 : decode cL_law 247 = .ok (.if_icmp .ne 30, 3) := by decide +kernel
theorem dL_law_250 : decode cL_law 250 = .ok (.aload_n 1, 1) := by decide +kernel
theorem dL_law_251 : decode cL_law 251 = .ok (.iload 11, 2) := by decide +kernel
theorem dL_law_253 : decode cL_law 253 = .ok (.bipush 7, 2) := by decide +kernel
theorem dL_law_255 : decode cL_law 255 = .ok (.invokevirtual 78, 3) := by decide +kernel
theorem dL_law_258 : decode cL_law 258 = .ok (.iload 12, 2) := by decide +kernel
theorem dL_law_260 : decode cL_law 260 = .ok (.bipush 20, 2) := by decide +kernel
theorem dL_law_262 : decode cL_law 262 = .ok (.if_icmp .ge 8, 3) := by decide +kernel
theorem dL_law_265 : decode cL_law 265 = .ok (.iload 13, 2) := by decide +kernel
theorem dL_law_267 : decode cL_law 267 = .ok (.goto 7, 3) := by decide +kernel
theorem dL_law_270 : decode cL_law 270 = .ok (.iload 13, 2) := by decide +kernel
theorem dL_law_272 : decode cL_law 272 = .ok (.iconst 1, 1) := by decide +kernel
theorem dL_law_273 : decode cL_law 273 = .ok (.iadd, 1) := by decide +kernel
theorem dL_law_274 : decode cL_law 274 = .ok (.if_icmp .eq 5, 3) := by decide +kernel
theorem dL_law_277 : decode cL_law 277 = .ok (.iconst 0, 1) := by decide +kernel
theorem dL_law_278 : decode cL_law 278 = .ok (.ireturn, 1) := by decide +kernel
theorem dL_law_279 : decode cL_law 279 = .ok (.iinc 5 1, 3) := by decide +kernel
theorem dL_law_282 : decode cL_law 282 = .ok (.goto 40, 3) := by decide +kernel
theorem dL_law_285 : decode cL_law 285 = .ok (.aload_n 1, 1) := by decide +kernel
theorem dL_law_286 : decode cL_law 286 = .ok (.iconst 2, 1) := by decide +kernel
theorem dL_law_287 : decode cL_law 287 = .ok (.invokevirtual 75, 3) := by decide +kernel
theorem dL_law_290 : decode cL_law 290 = .ok (.istore 12, 2) := by decide +kernel
theorem dL_law_292 : decode cL_law 292 = .ok (.iconst 1, 1) := by decide +kernel
theorem dL_law_293 : decode cL_law 293 = .ok (.iload 10, 2) := by decide +kernel
theorem dL_law_295 : decode cL_law 295 = .ok (.bipush 8, 2) := by decide +kernel
theorem dL_law_297 : decode cL_law 297 = .ok (.ishr, 1) := by decide +kernel
theorem dL_law_298 : decode cL_law 298 = .ok (.bipush 60, 2) := by decide +kernel
theorem dL_law_300 : decode cL_law 300 = .ok (.invokestatic 24, 3) := by decide +kernel
theorem dL_law_303 : decode cL_law 303 = .ok (.iadd, 1) := by decide +kernel
theorem dL_law_304 : decode cL_law 304 = .ok (.istore 13, 2) := by decide +kernel
theorem dL_law_306 : decode cL_law 306 = .ok (.aload_n 1, 1) := by decide +kernel
theorem dL_law_307 : decode cL_law 307 = .ok (.iload 13, 2) := by decide +kernel
theorem dL_law_309 : decode cL_law 309 = .ok (.invokevirtual 113, 3) := by decide +kernel
theorem dL_law_312 : decode cL_law 312 = .ok (.iload 12, 2) := by decide +kernel
theorem dL_law_314 : decode cL_law 314 = .ok (.iload 13, 2) := by decide +kernel
theorem dL_law_316 : decode cL_law 316 = .ok (.iadd, 1) := by decide +kernel
theorem dL_law_317 : decode cL_law 317 = .ok (.if_icmp .eq 5, 3) := by decide +kernel
theorem dL_law_320 : decode cL_law 320 = .ok (.iconst 0, 1) := by decide +kernel
theorem dL_law_321 : decode cL_law 321 = .ok (.ireturn, 1) := by decide +kernel
theorem dL_law_322 : decode cL_law 322 = .ok (.aload 8, 2) := by decide +kernel
theorem dL_law_324 : decode cL_law 324 = .ok (.iload 7, 2) := by decide +kernel
theorem dL_law_326 : decode cL_law 326 = .ok (.aload 8, 2) := by decide +kernel
theorem dL_law_328 : decode cL_law 328 = .ok (.iload 9, 2) := by decide +kernel
theorem dL_law_330 : decode cL_law 330 = .ok (.iaload, 1) := by decide +kernel
theorem dL_law_331 : decode cL_law 331 = .ok (.iastore, 1) := by decide +kernel
theorem dL_law_332 : decode cL_law 332 = .ok (.iinc 7 1, 3) := by decide +kernel
theorem dL_law_335 : decode cL_law 335 = .ok (.iconst 0, 1) := by decide +kernel
theorem dL_law_336 : decode cL_law 336 = .ok (.istore 12, 2) := by decide +kernel
theorem dL_law_338 : decode cL_law 338 = .ok (.iload 12, 2) := by decide +kernel
theorem dL_law_340 : decode cL_law 340 = .ok (.aload_n 3, 1) := by decide +kernel
theorem dL_law_341 : decode cL_law 341 = .ok (.arraylength, 1) := by decide +kernel
theorem dL_law_342 : decode cL_law 342 = .ok (.if_icmp .ge 38, 3) := by decide +kernel
theorem dL_law_345 : decode cL_law 345 = .ok (.aload_n 1, 1) := by decide +kernel
theorem dL_law_346 : decode cL_law 346 = .ok (.iload 12, 2) := by decide +kernel
theorem dL_law_348 : decode cL_law 348 = .ok (.iconst 5, 1) := by decide +kernel
theorem dL_law_349 : decode cL_law 349 = .ok (.invokevirtual 78, 3) := by decide +kernel
theorem dL_law_352 : decode cL_law 352 = .ok (.aload 6, 2) := by decide +kernel
theorem dL_law_354 : decode cL_law 354 = .ok (.iload 12, 2) := by decide +kernel
theorem dL_law_356 : decode cL_law 356 = .ok (.iaload, 1) := by decide +kernel
theorem dL_law_357 : decode cL_law 357 = .ok (.if_icmp .ge 5, 3) := by decide +kernel
theorem dL_law_360 : decode cL_law 360 = .ok (.iconst 0, 1) := by decide +kernel
theorem dL_law_361 : decode cL_law 361 = .ok (.ireturn, 1) := by decide +kernel
theorem dL_law_362 : decode cL_law 362 = .ok (.aload 6, 2) := by decide +kernel
theorem dL_law_364 : decode cL_law 364 = .ok (.iload 12, 2) := by decide +kernel
theorem dL_law_366 : decode cL_law 366 = .ok (.aload_n 1, 1) := by decide +kernel
theorem dL_law_367 : decode cL_law 367 = .ok (.iload 12, 2) := by decide +kernel
theorem dL_law_369 : decode cL_law 369 = .ok (.iconst 5, 1) := by decide +kernel
theorem dL_law_370 : decode cL_law 370 = .ok (.invokevirtual 78, 3) := by decide +kernel
theorem dL_law_373 : decode cL_law 373 = .ok (.iastore, 1) := by decide +kernel
theorem dL_law_374 : decode cL_law 374 = .ok (.iinc 12 1, 3) := by decide +kernel
theorem dL_law_377 : decode cL_law 377 = .ok (.goto (-39), 3) := by decide +kernel
theorem dL_law_380 : decode cL_law 380 = .ok (.aload_n 1, 1) := by decide +kernel
theorem dL_law_381 : decode cL_law 381 = .ok (.aload_n 3, 1) := by decide +kernel
theorem dL_law_382 : decode cL_law 382 = .ok (.invokestatic 116, 3) := by decide +kernel
theorem dL_law_385 : decode cL_law 385 = .ok (.ifCond .eq 37, 3) := by decide +kernel
theorem dL_law_388 : decode cL_law 388 = .ok (.aload_n 1, 1) := by decide +kernel
theorem dL_law_389 : decode cL_law 389 = .ok (.aload_n 3, 1) := by decide +kernel
theorem dL_law_390 : decode cL_law 390 = .ok (.aload 4, 2) := by decide +kernel
theorem dL_law_392 : decode cL_law 392 = .ok (.invokestatic 120, 3) := by decide +kernel
theorem dL_law_395 : decode cL_law 395 = .ok (.ifCond .eq 27, 3) := by decide +kernel
theorem dL_law_398 : decode cL_law 398 = .ok (.iload 5, 2) := by decide +kernel
theorem dL_law_400 : decode cL_law 400 = .ok (.aload_n 1, 1) := by decide +kernel
theorem dL_law_401 : decode cL_law 401 = .ok (.iconst 5, 1) := by decide +kernel
theorem dL_law_402 : decode cL_law 402 = .ok (.invokevirtual 75, 3) := by decide +kernel
theorem dL_law_405 : decode cL_law 405 = .ok (.aload_n 1, 1) := by decide +kernel
theorem dL_law_406 : decode cL_law 406 = .ok (.bipush 6, 2) := by decide +kernel
theorem dL_law_408 : decode cL_law 408 = .ok (.invokevirtual 75, 3) := by decide +kernel
theorem dL_law_411 : decode cL_law 411 = .ok (.iadd, 1) := by decide +kernel
theorem dL_law_412 : decode cL_law 412 = .ok (.aload_n 1, 1) := by decide +kernel
theorem dL_law_413 : decode cL_law 413 = .ok (.bipush 8, 2) := by decide +kernel
theorem dL_law_415 : decode cL_law 415 = .ok (.invokevirtual 75, 3) := by decide +kernel
theorem dL_law_418 : decode cL_law 418 = .ok (.iadd, 1) := by decide +kernel
theorem dL_law_419 : decode cL_law 419 = .ok (.if_icmp .eq 5, 3) := by decide +kernel
theorem dL_law_422 : decode cL_law 422 = .ok (.iconst 0, 1) := by decide +kernel
theorem dL_law_423 : decode cL_law 423 = .ok (.ireturn, 1) := by decide +kernel
theorem dL_law_424 : decode cL_law 424 = .ok (.iinc 9 1, 3) := by decide +kernel
theorem dL_law_427 : decode cL_law 427 = .ok (.goto (-346), 3) := by decide +kernel
theorem dL_law_430 : decode cL_law 430 = .ok (.aload_n 1, 1) := by decide +kernel
theorem dL_law_431 : decode cL_law 431 = .ok (.iconst 2, 1) := by decide +kernel
theorem dL_law_432 : decode cL_law 432 = .ok (.invokevirtual 75, 3) := by decide +kernel
theorem dL_law_435 : decode cL_law 435 = .ok (.istore 9, 2) := by decide +kernel
theorem dL_law_437 : decode cL_law 437 = .ok (.aload_n 1, 1) := by decide +kernel
theorem dL_law_438 : decode cL_law 438 = .ok (.bipush 10, 2) := by decide +kernel
theorem dL_law_440 : decode cL_law 440 = .ok (.invokevirtual 75, 3) := by decide +kernel
theorem dL_law_443 : decode cL_law 443 = .ok (.istore 10, 2) := by decide +kernel
theorem dL_law_445 : decode cL_law 445 = .ok (.aload_n 1, 1) := by decide +kernel
theorem dL_law_446 : decode cL_law 446 = .ok (.invokevirtual 124, 3) := by decide +kernel
theorem dL_law_449 : decode cL_law 449 = .ok (.aload_n 1, 1) := by decide +kernel
theorem dL_law_450 : decode cL_law 450 = .ok (.aload_n 0, 1) := by decide +kernel
theorem dL_law_451 : decode cL_law 451 = .ok (.bipush 30, 2) := by decide +kernel
theorem dL_law_453 : decode cL_law 453 = .ok (.invokestatic 20, 3) := by decide +kernel
theorem dL_law_456 : decode cL_law 456 = .ok (.aload_n 0, 1) := by decide +kernel
theorem dL_law_457 : decode cL_law 457 = .ok (.bipush 31, 2) := by decide +kernel
theorem dL_law_459 : decode cL_law 459 = .ok (.invokestatic 20, 3) := by decide +kernel
theorem dL_law_462 : decode cL_law 462 = .ok (.bipush 9, 2) := by decide +kernel
theorem dL_law_464 : decode cL_law 464 = .ok (.invokestatic 24, 3) := by decide +kernel
theorem dL_law_467 : decode cL_law 467 = .ok (.iconst 1, 1) := by decide +kernel
theorem dL_law_468 : decode cL_law 468 = .ok (.invokevirtual 127, 3) := by decide +kernel
theorem dL_law_471 : decode cL_law 471 = .ok (.ifCond .lt 66, 3) := by decide +kernel
theorem dL_law_474 : decode cL_law 474 = .ok (.aload_n 1, 1) := by decide +kernel
theorem dL_law_475 : decode cL_law 475 = .ok (.iconst 2, 1) := by decide +kernel
theorem dL_law_476 : decode cL_law 476 = .ok (.invokevirtual 75, 3) := by decide +kernel
theorem dL_law_479 : decode cL_law 479 = .ok (.iload 9, 2) := by decide +kernel
theorem dL_law_481 : decode cL_law 481 = .ok (.if_icmp .ne 56, 3) := by decide +kernel
theorem dL_law_484 : decode cL_law 484 = .ok (.aload_n 1, 1) := by decide +kernel
theorem dL_law_485 : decode cL_law 485 = .ok (.bipush 50, 2) := by decide +kernel
theorem dL_law_487 : decode cL_law 487 = .ok (.invokevirtual 113, 3) := by decide +kernel
theorem dL_law_490 : decode cL_law 490 = .ok (.iload 9, 2) := by decide +kernel
theorem dL_law_492 : decode cL_law 492 = .ok (.bipush 50, 2) := by decide +kernel
theorem dL_law_494 : decode cL_law 494 = .ok (.iadd, 1) := by decide +kernel
theorem dL_law_495 : decode cL_law 495 = .ok (.if_icmp .ne 42, 3) := by decide +kernel
theorem dL_law_498 : decode cL_law 498 = .ok (.aload_n 1, 1) := by decide +kernel
theorem dL_law_499 : decode cL_law 499 = .ok (.invokevirtual 131, 3) := by decide +kernel
theorem dL_law_502 : decode cL_law 502 = .ok (.ifCond .eq 35, 3) := by decide +kernel
theorem dL_law_505 : decode cL_law 505 = .ok (.aload_n 1, 1) := by decide +kernel
theorem dL_law_506 : decode cL_law 506 = .ok (.iconst 2, 1) := by decide +kernel
theorem dL_law_507 : decode cL_law 507 = .ok (.invokevirtual 75, 3) := by decide +kernel
theorem dL_law_510 : decode cL_law 510 = .ok (.iload 9, 2) := by decide +kernel
theorem dL_law_512 : decode cL_law 512 = .ok (.if_icmp .ne 25, 3) := by decide +kernel
theorem dL_law_515 : decode cL_law 515 = .ok (.aload_n 1, 1) := by decide +kernel
theorem dL_law_516 : decode cL_law 516 = .ok (.bipush 10, 2) := by decide +kernel
theorem dL_law_518 : decode cL_law 518 = .ok (.invokevirtual 75, 3) := by decide +kernel
theorem dL_law_521 : decode cL_law 521 = .ok (.iload 10, 2) := by decide +kernel
theorem dL_law_523 : decode cL_law 523 = .ok (.if_icmp .ne 14, 3) := by decide +kernel
theorem dL_law_526 : decode cL_law 526 = .ok (.aload_n 1, 1) := by decide +kernel
theorem dL_law_527 : decode cL_law 527 = .ok (.bipush 12, 2) := by decide +kernel
theorem dL_law_529 : decode cL_law 529 = .ok (.invokevirtual 75, 3) := by decide +kernel
theorem dL_law_532 : decode cL_law 532 = .ok (.iload 7, 2) := by decide +kernel
theorem dL_law_534 : decode cL_law 534 = .ok (.if_icmp .eq 5, 3) := by decide +kernel
theorem dL_law_537 : decode cL_law 537 = .ok (.iconst 0, 1) := by decide +kernel
theorem dL_law_538 : decode cL_law 538 = .ok (.ireturn, 1) := by decide +kernel
theorem dL_law_539 : decode cL_law 539 = .ok (.iload 7, 2) := by decide +kernel
theorem dL_law_541 : decode cL_law 541 = .ok (.iconst 1, 1) := by decide +kernel
theorem dL_law_542 : decode cL_law 542 = .ok (.isub, 1) := by decide +kernel
theorem dL_law_543 : decode cL_law 543 = .ok (.istore 11, 2) := by decide +kernel
theorem dL_law_545 : decode cL_law 545 = .ok (.iload 11, 2) := by decide +kernel
theorem dL_law_547 : decode cL_law 547 = .ok (.ifCond .lt 62, 3) := by decide +kernel
theorem dL_law_550 : decode cL_law 550 = .ok (.aload_n 1, 1) := by decide +kernel
theorem dL_law_551 : decode cL_law 551 = .ok (.invokevirtual 135, 3) := by decide +kernel
theorem dL_law_554 : decode cL_law 554 = .ok (.iload 11, 2) := by decide +kernel
theorem dL_law_556 : decode cL_law 556 = .ok (.if_icmp .ne 45, 3) := by decide +kernel
theorem dL_law_559 : decode cL_law 559 = .ok (.aload_n 1, 1) := by decide +kernel
theorem dL_law_560 : decode cL_law 560 = .ok (.iconst 2, 1) := by decide +kernel
theorem dL_law_561 : decode cL_law 561 = .ok (.invokevirtual 75, 3) := by decide +kernel
theorem dL_law_564 : decode cL_law 564 = .ok (.bipush 7, 2) := by decide +kernel
theorem dL_law_566 : decode cL_law 566 = .ok (.imul, 1) := by decide +kernel
theorem dL_law_567 : decode cL_law 567 = .ok (.aload_n 1, 1) := by decide +kernel
theorem dL_law_568 : decode cL_law 568 = .ok (.iconst 5, 1) := by decide +kernel
theorem dL_law_569 : decode cL_law 569 = .ok (.invokevirtual 75, 3) := by decide +kernel
theorem dL_law_572 : decode cL_law 572 = .ok (.ldc 109, 2) := by decide +kernel
theorem dL_law_574 : decode cL_law 574 = .ok (.imul, 1) := by decide +kernel
theorem dL_law_575 : decode cL_law 575 = .ok (.iadd, 1) := by decide +kernel
theorem dL_law_576 : decode cL_law 576 = .ok (.aload_n 1, 1) := by decide +kernel
theorem dL_law_577 : decode cL_law 577 = .ok (.bipush 10, 2) := by decide +kernel
theorem dL_law_579 : decode cL_law 579 = .ok (.invokevirtual 75, 3) := by decide +kernel
theorem dL_law_582 : decode cL_law 582 = .ok (.bipush 31, 2) := by decide +kernel
theorem dL_law_584 : decode cL_law 584 = .ok (.imul, 1) := by decide +kernel
theorem dL_law_585 : decode cL_law 585 = .ok (.iadd, 1) := by decide +kernel
theorem dL_law_586 : decode cL_law 586 = .ok (.aload_n 1, 1) := by decide +kernel
theorem dL_law_587 : decode cL_law 587 = .ok (.bipush 9, 2) := by decide +kernel
theorem dL_law_589 : decode cL_law 589 = .ok (.invokevirtual 75, 3) := by decide +kernel
theorem dL_law_592 : decode cL_law 592 = .ok (.iadd, 1) := by decide +kernel
theorem dL_law_593 : decode cL_law 593 = .ok (.aload 8, 2) := by decide +kernel
theorem dL_law_595 : decode cL_law 595 = .ok (.iload 11, 2) := by decide +kernel
theorem dL_law_597 : decode cL_law 597 = .ok (.iaload, 1) := by decide +kernel
theorem dL_law_598 : decode cL_law 598 = .ok (.if_icmp .eq 5, 3) := by decide +kernel
theorem dL_law_601 : decode cL_law 601 = .ok (.iconst 0, 1) := by decide +kernel
theorem dL_law_602 : decode cL_law 602 = .ok (.ireturn, 1) := by decide +kernel
theorem dL_law_603 : decode cL_law 603 = .ok (.iinc 11 (-1), 3) := by decide +kernel
theorem dL_law_606 : decode cL_law 606 = .ok (.goto (-61), 3) := by decide +kernel
theorem dL_law_609 : decode cL_law 609 = .ok (.aload_n 1, 1) := by decide +kernel
theorem dL_law_610 : decode cL_law 610 = .ok (.invokevirtual 135, 3) := by decide +kernel
theorem dL_law_613 : decode cL_law 613 = .ok (.iconst (-1), 1) := by decide +kernel
theorem dL_law_614 : decode cL_law 614 = .ok (.if_icmp .ne 33, 3) := by decide +kernel
theorem dL_law_617 : decode cL_law 617 = .ok (.aload_n 1, 1) := by decide +kernel
theorem dL_law_618 : decode cL_law 618 = .ok (.iconst 2, 1) := by decide +kernel
theorem dL_law_619 : decode cL_law 619 = .ok (.invokevirtual 75, 3) := by decide +kernel
theorem dL_law_622 : decode cL_law 622 = .ok (.ifCond .ne 25, 3) := by decide +kernel
theorem dL_law_625 : decode cL_law 625 = .ok (.aload_n 1, 1) := by decide +kernel
theorem dL_law_626 : decode cL_law 626 = .ok (.bipush 6, 2) := by decide +kernel
theorem dL_law_628 : decode cL_law 628 = .ok (.invokevirtual 75, 3) := by decide +kernel
theorem dL_law_631 : decode cL_law 631 = .ok (.ifCond .ne 16, 3) := by decide +kernel
theorem dL_law_634 : decode cL_law 634 = .ok (.aload_n 1, 1) := by decide +kernel
theorem dL_law_635 : decode cL_law 635 = .ok (.bipush 9, 2) := by decide +kernel
theorem dL_law_637 : decode cL_law 637 = .ok (.invokevirtual 75, 3) := by decide +kernel
theorem dL_law_640 : decode cL_law 640 = .ok (.ifCond .ne 7, 3) := by decide +kernel
theorem dL_law_643 : decode cL_law 643 = .ok (.iconst 1, 1) := by decide +kernel
theorem dL_law_644 : decode cL_law 644 = .ok (.goto 4, 3) := by decide +kernel
theorem dL_law_647 : decode cL_law 647 = .ok (.iconst 0, 1) := by decide +kernel
theorem dL_law_648 : decode cL_law 648 = .ok (.ireturn, 1) := by decide +kernel
