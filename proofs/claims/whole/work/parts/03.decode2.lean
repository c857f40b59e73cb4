theorem dX7_kinds_21 : decode cX7_kinds 21 = .ok (.iaload, 1) := by decide +kernel
theorem dX7_kinds_22 : decode cX7_kinds 22 = .ok (.istore_n 2, 1) := by decide +kernel
theorem dX7_kinds_23 : decode cX7_kinds 23 = .ok (.iconst 0, 1) := by decide +kernel
theorem dX7_kinds_24 : decode cX7_kinds 24 = .ok (.istore_n 3, 1) := by decide +kernel
theorem dX7_kinds_25 : decode cX7_kinds 25 = .ok (.iconst 0, 1) := by decide +kernel
theorem dX7_kinds_26 : decode cX7_kinds 26 = .ok (.istore 4, 2) := by decide +kernel
theorem dX7_kinds_28 : decode cX7_kinds 28 = .ok (.iload 4, 2) := by decide +kernel
theorem dX7_kinds_30 : decode cX7_kinds 30 = .ok (.iconst 3, 1) := by decide +kernel
theorem dX7_kinds_31 : decode cX7_kinds 31 = .ok (.if_icmp .ge 45, 3) := by decide +kernel
theorem dX7_kinds_34 : decode cX7_kinds 34 = .ok (.aload_n 0, 1) := by decide +kernel
theorem dX7_kinds_35 : decode cX7_kinds 35 = .ok (.getfield 20, 3) := by decide +kernel
theorem dX7_kinds_38 : decode cX7_kinds 38 = .ok (.getfield 99, 3) := by decide +kernel
theorem dX7_kinds_41 : decode cX7_kinds 41 = .ok (.iload_n 1, 1) := by decide +kernel
theorem dX7_kinds_42 : decode cX7_kinds 42 = .ok (.iload 4, 2) := by decide +kernel
theorem dX7_kinds_44 : decode cX7_kinds 44 = .ok (.iastore, 1) := by decide +kernel
theorem dX7_kinds_45 : decode cX7_kinds 45 = .ok (.aload_n 0, 1) := by decide +kernel
theorem dX7_kinds_46 : decode cX7_kinds 46 = .ok (.getfield 55, 3) := by decide +kernel
theorem dX7_kinds_49 : decode cX7_kinds 49 = .ok (.aload_n 0, 1) := by decide +kernel
theorem dX7_kinds_50 : decode cX7_kinds 50 = .ok (.getfield 20, 3) := by decide +kernel
theorem dX7_kinds_53 : decode cX7_kinds 53 = .ok (.aload_n 0, 1) := by decide +kernel
theorem dX7_kinds_54 : decode cX7_kinds 54 = .ok (.getfield 27, 3) := by decide +kernel
theorem dX7_kinds_57 : decode cX7_kinds 57 = .ok (.invokevirtual 193, 3) := by decide +kernel
theorem dX7_kinds_60 : decode cX7_kinds 60 = .ok (.ifCond .eq 10, 3) := by decide +kernel
theorem dX7_kinds_63 : decode cX7_kinds 63 = .ok (.iload_n 3, 1) := by decide +kernel
theorem dX7_kinds_64 : decode cX7_kinds 64 = .ok (.iconst 1, 1) := by decide +kernel
theorem dX7_kinds_65 : decode cX7_kinds 65 = .ok (.iload 4, 2) := by decide +kernel
theorem dX7_kinds_67 : decode cX7_kinds 67 = .ok (.ishl, 1) := by decide +kernel
theorem dX7_kinds_68 : decode cX7_kinds 68 = .ok (.ior, 1) := by decide +kernel
theorem dX7_kinds_69 : decode cX7_kinds 69 = .ok (.istore_n 3, 1) := by decide +kernel
theorem dX7_kinds_70 : decode cX7_kinds 70 = .ok (.iinc 4 1, 3) := by decide +kernel
theorem dX7_kinds_73 : decode cX7_kinds 73 = .ok (.goto (-45), 3) := by decide +kernel
theorem dX7_kinds_76 : decode cX7_kinds 76 = .ok (.aload_n 0, 1) := by decide +kernel
theorem dX7_kinds_77 : decode cX7_kinds 77 = .ok (.getfield 20, 3) := by decide +kernel
theorem dX7_kinds_80 : decode cX7_kinds 80 = .ok (.getfield 99, 3) := by decide +kernel
theorem dX7_kinds_83 : decode cX7_kinds 83 = .ok (.iload_n 1, 1) := by decide +kernel
theorem dX7_kinds_84 : decode cX7_kinds 84 = .ok (.iload_n 2, 1) := by decide +kernel
theorem dX7_kinds_85 : decode cX7_kinds 85 = .ok (.iastore, 1) := by decide +kernel
theorem dX7_kinds_86 : decode cX7_kinds 86 = .ok (.iload_n 3, 1) := by decide +kernel
theorem dX7_kinds_87 : decode cX7_kinds 87 = .ok (.ireturn, 1) := by decide +kernel
theorem dX7_walls_0 : decode cX7_walls 0 = .ok (.aload_n 0, 1) := by decide +kernel
theorem dX7_walls_1 : decode cX7_walls 1 = .ok (.getfield 20, 3) := by decide +kernel
theorem dX7_walls_4 : decode cX7_walls 4 = .ok (.invokevirtual 136, 3) := by decide +kernel
theorem dX7_walls_7 : decode cX7_walls 7 = .ok (.ifCond .ne 6, 3) := by decide +kernel
theorem dX7_walls_10 : decode cX7_walls 10 = .ok (.bipush (-3), 2) := by decide +kernel
theorem dX7_walls_12 : decode cX7_walls 12 = .ok (.ireturn, 1) := by decide +kernel
theorem dX7_walls_13 : decode cX7_walls 13 = .ok (.iconst 0, 1) := by decide +kernel
theorem dX7_walls_14 : decode cX7_walls 14 = .ok (.istore_n 1, 1) := by decide +kernel
theorem dX7_walls_15 : decode cX7_walls 15 = .ok (.iconst 0, 1) := by decide +kernel
theorem dX7_walls_16 : decode cX7_walls 16 = .ok (.istore_n 2, 1) := by decide +kernel
theorem dX7_walls_17 : decode cX7_walls 17 = .ok (.iload_n 2, 1) := by decide +kernel
theorem dX7_walls_18 : decode cX7_walls 18 = .ok (.aload_n 0, 1) := by decide +kernel
theorem dX7_walls_19 : decode cX7_walls 19 = .ok (.getfield 20, 3) := by decide +kernel
theorem dX7_walls_22 : decode cX7_walls 22 = .ok (.getfield 197, 3) := by decide +kernel
theorem dX7_walls_25 : decode cX7_walls 25 = .ok (.if_icmp .ge 63, 3) := by decide +kernel
theorem dX7_walls_28 : decode cX7_walls 28 = .ok (.aload_n 0, 1) := by decide +kernel
theorem dX7_walls_29 : decode cX7_walls 29 = .ok (.getfield 20, 3) := by decide +kernel
theorem dX7_walls_32 : decode cX7_walls 32 = .ok (.getfield 115, 3) := by decide +kernel
theorem dX7_walls_35 : decode cX7_walls 35 = .ok (.iload_n 2, 1) := by decide +kernel
theorem dX7_walls_36 : decode cX7_walls 36 = .ok (.baload, 1) := by decide +kernel
theorem dX7_walls_37 : decode cX7_walls 37 = .ok (.istore_n 3, 1) := by decide +kernel
theorem dX7_walls_38 : decode cX7_walls 38 = .ok (.aload_n 0, 1) := by decide +kernel
theorem dX7_walls_39 : decode cX7_walls 39 = .ok (.getfield 20, 3) := by decide +kernel
theorem dX7_walls_42 : decode cX7_walls 42 = .ok (.getfield 115, 3) := by decide +kernel
theorem dX7_walls_45 : decode cX7_walls 45 = .ok (.iload_n 2, 1) := by decide +kernel
theorem dX7_walls_46 : decode cX7_walls 46 = .ok (.iconst 1, 1) := by decide +kernel
theorem dX7_walls_47 : decode cX7_walls 47 = .ok (.bastore, 1) := by decide +kernel
theorem dX7_walls_48 : decode cX7_walls 48 = .ok (.aload_n 0, 1) := by decide +kernel
theorem dX7_walls_49 : decode cX7_walls 49 = .ok (.getfield 55, 3) := by decide +kernel
theorem dX7_walls_52 : decode cX7_walls 52 = .ok (.aload_n 0, 1) := by decide +kernel
theorem dX7_walls_53 : decode cX7_walls 53 = .ok (.getfield 20, 3) := by decide +kernel
theorem dX7_walls_56 : decode cX7_walls 56 = .ok (.aload_n 0, 1) := by decide +kernel
theorem dX7_walls_57 : decode cX7_walls 57 = .ok (.getfield 27, 3) := by decide +kernel
theorem dX7_walls_60 : decode cX7_walls 60 = .ok (.invokevirtual 193, 3) := by decide +kernel
theorem dX7_walls_63 : decode cX7_walls 63 = .ok (.ifCond .eq 9, 3) := by decide +kernel
theorem dX7_walls_66 : decode cX7_walls 66 = .ok (.iload_n 1, 1) := by decide +kernel
theorem dX7_walls_67 : decode cX7_walls 67 = .ok (.iconst 1, 1) := by decide +kernel
theorem dX7_walls_68 : decode cX7_walls 68 = .ok (.iload_n 2, 1) := by decide +kernel
theorem dX7_walls_69 : decode cX7_walls 69 = .ok (.ishl, 1) := by decide +kernel
theorem dX7_walls_70 : decode cX7_walls 70 = .ok (.ior, 1) := by decide +kernel
theorem dX7_walls_71 : decode cX7_walls 71 = .ok (.istore_n 1, 1) := by decide +kernel
theorem dX7_walls_72 : decode cX7_walls 72 = .ok (.aload_n 0, 1) := by decide +kernel
theorem dX7_walls_73 : decode cX7_walls 73 = .ok (.getfield 20, 3) := by decide +kernel
theorem dX7_walls_76 : decode cX7_walls 76 = .ok (.getfield 115, 3) := by decide +kernel
theorem dX7_walls_79 : decode cX7_walls 79 = .ok (.iload_n 2, 1) := by decide +kernel
theorem dX7_walls_80 : decode cX7_walls 80 = .ok (.iload_n 3, 1) := by decide +kernel
theorem dX7_walls_81 : decode cX7_walls 81 = .ok (.bastore, 1) := by decide +kernel
theorem dX7_walls_82 : decode cX7_walls 82 = .ok (.iinc 2 1, 3) := by decide +kernel
theorem dX7_walls_85 : decode cX7_walls 85 = .ok (.goto (-68), 3) := by decide +kernel
theorem dX7_walls_88 : decode cX7_walls 88 = .ok (.iload_n 1, 1) := by decide +kernel
theorem dX7_walls_89 : decode cX7_walls 89 = .ok (.ireturn, 1) := by decide +kernel
theorem dX7_sheet_0 : decode cX7_sheet 0 = .ok (.aload_n 0, 1) := by decide +kernel
theorem dX7_sheet_1 : decode cX7_sheet 1 = .ok (.iconst 0, 1) := by decide +kernel
theorem dX7_sheet_2 : decode cX7_sheet 2 = .ok (.putfield 63, 3) := by decide +kernel
theorem dX7_sheet_5 : decode cX7_sheet 5 = .ok (.iload_n 1, 1) := by decide +kernel
theorem dX7_sheet_6 : decode cX7_sheet 6 = .ok (.invokestatic 67, 3) := by decide +kernel
theorem dX7_sheet_9 : decode cX7_sheet 9 = .ok (.ifCond .ne 5, 3) := by decide +kernel
theorem dX7_sheet_12 : decode cX7_sheet 12 = .ok (.iconst (-1), 1) := by decide +kernel
theorem dX7_sheet_13 : decode cX7_sheet 13 = .ok (.ireturn, 1) := by decide +kernel
theorem dX7_sheet_14 : decode cX7_sheet 14 = .ok (.iload_n 2, 1) := by decide +kernel
theorem dX7_sheet_15 : decode cX7_sheet 15 = .ok (.invokestatic 71, 3) := by decide +kernel
theorem dX7_sheet_18 : decode cX7_sheet 18 = .ok (.ifCond .eq 9, 3) := by decide +kernel
theorem dX7_sheet_21 : decode cX7_sheet 21 = .ok (.iload_n 3, 1) := by decide +kernel
theorem dX7_sheet_22 : decode cX7_sheet 22 = .ok (.bipush 50, 2) := by decide +kernel
theorem dX7_sheet_24 : decode cX7_sheet 24 = .ok (.if_icmp .le 6, 3) := by decide +kernel
theorem dX7_sheet_27 : decode cX7_sheet 27 = .ok (.bipush (-2), 2) := by decide +kernel
theorem dX7_sheet_29 : decode cX7_sheet 29 = .ok (.ireturn, 1) := by decide +kernel
theorem dX7_sheet_30 : decode cX7_sheet 30 = .ok (.iload_n 3, 1) := by decide +kernel
theorem dX7_sheet_31 : decode cX7_sheet 31 = .ok (.ifCond .ge 9, 3) := by decide +kernel
theorem dX7_sheet_34 : decode cX7_sheet 34 = .ok (.aload_n 0, 1) := by decide +kernel
theorem dX7_sheet_35 : decode cX7_sheet 35 = .ok (.iconst 4, 1) := by decide +kernel
theorem dX7_sheet_36 : decode cX7_sheet 36 = .ok (.invokevirtual 78, 3) := by decide +kernel
theorem dX7_sheet_39 : decode cX7_sheet 39 = .ok (.ireturn, 1) := by decide +kernel
theorem dX7_sheet_40 : decode cX7_sheet 40 = .ok (.aload_n 0, 1) := by decide +kernel
theorem dX7_sheet_41 : decode cX7_sheet 41 = .ok (.getfield 13, 3) := by decide +kernel
theorem dX7_sheet_44 : decode cX7_sheet 44 = .ok (.iload_n 1, 1) := by decide +kernel
theorem dX7_sheet_45 : decode cX7_sheet 45 = .ok (.aaload, 1) := by decide +kernel
theorem dX7_sheet_46 : decode cX7_sheet 46 = .ok (.iload_n 2, 1) := by decide +kernel
theorem dX7_sheet_47 : decode cX7_sheet 47 = .ok (.iload_n 3, 1) := by decide +kernel
theorem dX7_sheet_48 : decode cX7_sheet 48 = .ok (.invokevirtual 200, 3) := by decide +kernel
theorem dX7_sheet_51 : decode cX7_sheet 51 = .ok (.iconst 1, 1) := by decide +kernel
theorem dX7_sheet_52 : decode cX7_sheet 52 = .ok (.ireturn, 1) := by decide +kernel
theorem dX7_lose_0 : decode cX7_lose 0 = .ok (.iload_n 1, 1) := by decide +kernel
theorem dX7_lose_1 : decode cX7_lose 1 = .ok (.invokestatic 67, 3) := by decide +kernel
theorem dX7_lose_4 : decode cX7_lose 4 = .ok (.ifCond .ne 5, 3) := by decide +kernel
theorem dX7_lose_7 : decode cX7_lose 7 = .ok (.iconst (-1), 1) := by decide +kernel
theorem dX7_lose_8 : decode cX7_lose 8 = .ok (.ireturn, 1) := by decide +kernel
theorem dX7_lose_9 : decode cX7_lose 9 = .ok (.aload_n 0, 1) := by decide +kernel
theorem dX7_lose_10 : decode cX7_lose 10 = .ok (.getfield 13, 3) := by decide +kernel
theorem dX7_lose_13 : decode cX7_lose 13 = .ok (.iload_n 1, 1) := by decide +kernel
theorem dX7_lose_14 : decode cX7_lose 14 = .ok (.aaload, 1) := by decide +kernel
theorem dX7_lose_15 : decode cX7_lose 15 = .ok (.getfield 204, 3) := by decide +kernel
theorem dX7_lose_18 : decode cX7_lose 18 = .ok (.ifCond .ne 5, 3) := by decide +kernel
theorem dX7_lose_21 : decode cX7_lose 21 = .ok (.iconst 0, 1) := by decide +kernel
theorem dX7_lose_22 : decode cX7_lose 22 = .ok (.ireturn, 1) := by decide +kernel
theorem dX7_lose_23 : decode cX7_lose 23 = .ok (.aload_n 0, 1) := by decide +kernel
theorem dX7_lose_24 : decode cX7_lose 24 = .ok (.getfield 13, 3) := by decide +kernel
theorem dX7_lose_27 : decode cX7_lose 27 = .ok (.iload_n 1, 1) := by decide +kernel
theorem dX7_lose_28 : decode cX7_lose 28 = .ok (.aaload, 1) := by decide +kernel
theorem dX7_lose_29 : decode cX7_lose 29 = .ok (.iconst 0, 1) := by decide +kernel
theorem dX7_lose_30 : decode cX7_lose 30 = .ok (.putfield 204, 3) := by decide +kernel
theorem dX7_lose_33 : decode cX7_lose 33 = .ok (.iconst 1, 1) := by decide +kernel
theorem dX7_lose_34 : decode cX7_lose 34 = .ok (.ireturn, 1) := by decide +kernel
theorem dX7_put_0 : decode cX7_put 0 = .ok (.aload_n 0, 1) := by decide +kernel
theorem dX7_put_1 : decode cX7_put 1 = .ok (.iconst 0, 1) := by decide +kernel
theorem dX7_put_2 : decode cX7_put 2 = .ok (.putfield 63, 3) := by decide +kernel
theorem dX7_put_5 : decode cX7_put 5 = .ok (.iload_n 1, 1) := by decide +kernel
theorem dX7_put_6 : decode cX7_put 6 = .ok (.invokestatic 67, 3) := by decide +kernel
theorem dX7_put_9 : decode cX7_put 9 = .ok (.ifCond .ne 5, 3) := by decide +kernel
theorem dX7_put_12 : decode cX7_put 12 = .ok (.iconst (-1), 1) := by decide +kernel
theorem dX7_put_13 : decode cX7_put 13 = .ok (.ireturn, 1) := by decide +kernel
theorem dX7_put_14 : decode cX7_put 14 = .ok (.aload_n 0, 1) := by decide +kernel
theorem dX7_put_15 : decode cX7_put 15 = .ok (.getfield 13, 3) := by decide +kernel
theorem dX7_put_18 : decode cX7_put 18 = .ok (.iload_n 1, 1) := by decide +kernel
theorem dX7_put_19 : decode cX7_put 19 = .ok (.aaload, 1) := by decide +kernel
theorem dX7_put_20 : decode cX7_put 20 = .ok (.getfield 204, 3) := by decide +kernel
theorem dX7_put_23 : decode cX7_put 23 = .ok (.ifCond .ne 9, 3) := by decide +kernel
theorem dX7_put_26 : decode cX7_put 26 = .ok (.aload_n 0, 1) := by decide +kernel
theorem dX7_put_27 : decode cX7_put 27 = .ok (.iconst 1, 1) := by decide +kernel
theorem dX7_put_28 : decode cX7_put 28 = .ok (.invokevirtual 78, 3) := by decide +kernel
theorem dX7_put_31 : decode cX7_put 31 = .ok (.ireturn, 1) := by decide +kernel
theorem dX7_put_32 : decode cX7_put 32 = .ok (.aload_n 0, 1) := by decide +kernel
theorem dX7_put_33 : decode cX7_put 33 = .ok (.getfield 13, 3) := by decide +kernel
theorem dX7_put_36 : decode cX7_put 36 = .ok (.iload_n 1, 1) := by decide +kernel
theorem dX7_put_37 : decode cX7_put 37 = .ok (.aaload, 1) := by decide +kernel
theorem dX7_put_38 : decode cX7_put 38 = .ok (.iload_n 2, 1) := by decide +kernel
theorem dX7_put_39 : decode cX7_put 39 = .ok (.iconst 1, 1) := by decide +kernel
theorem dX7_put_40 : decode cX7_put 40 = .ok (.invokevirtual 207, 3) := by decide +kernel
theorem dX7_put_43 : decode cX7_put 43 = .ok (.ifCond .ne 9, 3) := by decide +kernel
theorem dX7_put_46 : decode cX7_put 46 = .ok (.aload_n 0, 1) := by decide +kernel
theorem dX7_put_47 : decode cX7_put 47 = .ok (.iconst 3, 1) := by decide +kernel
theorem dX7_put_48 : decode cX7_put 48 = .ok (.invokevirtual 78, 3) := by decide +kernel
theorem dX7_put_51 : decode cX7_put 51 = .ok (.ireturn, 1) := by decide +kernel
theorem dX7_put_52 : decode cX7_put 52 = .ok (.aload_n 0, 1) := by decide +kernel
theorem dX7_put_53 : decode cX7_put 53 = .ok (.getfield 13, 3) := by decide +kernel
theorem dX7_put_56 : decode cX7_put 56 = .ok (.iload_n 1, 1) := by decide +kernel
theorem dX7_put_57 : decode cX7_put 57 = .ok (.aaload, 1) := by decide +kernel
theorem dX7_put_58 : decode cX7_put 58 = .ok (.iload_n 2, 1) := by decide +kernel
theorem dX7_put_59 : decode cX7_put 59 = .ok (.iload_n 3, 1) := by decide +kernel
theorem dX7_put_60 : decode cX7_put 60 = .ok (.invokevirtual 211, 3) := by decide +kernel
theorem dX7_put_63 : decode cX7_put 63 = .ok (.iconst 1, 1) := by decide +kernel
theorem dX7_put_64 : decode cX7_put 64 = .ok (.ireturn, 1) := by decide +kernel
theorem dX7_cell_0 : decode cX7_cell 0 = .ok (.aload_n 0, 1) := by decide +kernel
theorem dX7_cell_1 : decode cX7_cell 1 = .ok (.iconst 0, 1) := by decide +kernel
theorem dX7_cell_2 : decode cX7_cell 2 = .ok (.putfield 63, 3) := by decide +kernel
theorem dX7_cell_5 : decode cX7_cell 5 = .ok (.iload_n 1, 1) := by decide +kernel
theorem dX7_cell_6 : decode cX7_cell 6 = .ok (.invokestatic 67, 3) := by decide +kernel
theorem dX7_cell_9 : decode cX7_cell 9 = .ok (.ifCond .eq 10, 3) := by decide +kernel
theorem dX7_cell_12 : decode cX7_cell 12 = .ok (.iload_n 3, 1) := by decide +kernel
theorem dX7_cell_13 : decode cX7_cell 13 = .ok (.invokestatic 71, 3) := by decide +kernel
theorem dX7_cell_16 : decode cX7_cell 16 = .ok (.ifCond .ne 7, 3) := by decide +kernel
theorem dX7_cell_19 : decode cX7_cell 19 = .ok (.ldc2_w 175, 3) := by decide +kernel
theorem dX7_cell_22 : decode cX7_cell 22 = .ok (.lreturn, 1) := by decide +kernel
theorem dX7_cell_23 : decode cX7_cell 23 = .ok (.aload_n 0, 1) := by decide +kernel
theorem dX7_cell_24 : decode cX7_cell 24 = .ok (.getfield 13, 3) := by decide +kernel
theorem dX7_cell_27 : decode cX7_cell 27 = .ok (.iload_n 1, 1) := by decide +kernel
theorem dX7_cell_28 : decode cX7_cell 28 = .ok (.aaload, 1) := by decide +kernel
theorem dX7_cell_29 : decode cX7_cell 29 = .ok (.iload_n 3, 1) := by decide +kernel
theorem dX7_cell_30 : decode cX7_cell 30 = .ok (.iload_n 2, 1) := by decide +kernel
theorem dX7_cell_31 : decode cX7_cell 31 = .ok (.iconst 1, 1) := by decide +kernel
theorem dX7_cell_32 : decode cX7_cell 32 = .ok (.invokevirtual 74, 3) := by decide +kernel
theorem dX7_cell_35 : decode cX7_cell 35 = .ok (.istore 4, 2) := by decide +kernel
theorem dX7_cell_37 : decode cX7_cell 37 = .ok (.iload 4, 2) := by decide +kernel
theorem dX7_cell_39 : decode cX7_cell 39 = .ok (.ifCond .eq 13, 3) := by decide +kernel
theorem dX7_cell_42 : decode cX7_cell 42 = .ok (.aload_n 0, 1) := by decide +kernel
theorem dX7_cell_43 : decode cX7_cell 43 = .ok (.iload 4, 2) := by decide +kernel
theorem dX7_cell_45 : decode cX7_cell 45 = .ok (.putfield 63, 3) := by decide +kernel
theorem dX7_cell_48 : decode cX7_cell 48 = .ok (.ldc2_w 175, 3) := by decide +kernel
theorem dX7_cell_51 : decode cX7_cell 51 = .ok (.lreturn, 1) := by decide +kernel
theorem dX7_cell_52 : decode cX7_cell 52 = .ok (.aload_n 0, 1) := by decide +kernel
theorem dX7_cell_53 : decode cX7_cell 53 = .ok (.getfield 13, 3) := by decide +kernel
theorem dX7_cell_56 : decode cX7_cell 56 = .ok (.iload_n 1, 1) := by decide +kernel
theorem dX7_cell_57 : decode cX7_cell 57 = .ok (.aaload, 1) := by decide +kernel
theorem dX7_cell_58 : decode cX7_cell 58 = .ok (.getfield 214, 3) := by decide +kernel
theorem dX7_cell_61 : decode cX7_cell 61 = .ok (.iload_n 2, 1) := by decide +kernel
theorem dX7_cell_62 : decode cX7_cell 62 = .ok (.iaload, 1) := by decide +kernel
theorem dX7_cell_63 : decode cX7_cell 63 = .ok (.i2l, 1) := by decide +kernel
theorem dX7_cell_64 : decode cX7_cell 64 = .ok (.lreturn, 1) := by decide +kernel
theorem dX7_copy_0 : decode cX7_copy 0 = .ok (.aload_n 0, 1) := by decide +kernel
theorem dX7_copy_1 : decode cX7_copy 1 = .ok (.iconst 0, 1) := by decide +kernel
theorem dX7_copy_2 : decode cX7_copy 2 = .ok (.putfield 63, 3) := by decide +kernel
theorem dX7_copy_5 : decode cX7_copy 5 = .ok (.iload_n 1, 1) := by decide +kernel
theorem dX7_copy_6 : decode cX7_copy 6 = .ok (.invokestatic 67, 3) := by decide +kernel
theorem dX7_copy_9 : decode cX7_copy 9 = .ok (.ifCond .eq 10, 3) := by decide +kernel
theorem dX7_copy_12 : decode cX7_copy 12 = .ok (.iload_n 3, 1) := by decide +kernel
theorem dX7_copy_13 : decode cX7_copy 13 = .ok (.invokestatic 67, 3) := by decide +kernel
theorem dX7_copy_16 : decode cX7_copy 16 = .ok (.ifCond .ne 5, 3) := by decide +kernel
theorem dX7_copy_19 : decode cX7_copy 19 = .ok (.iconst (-1), 1) := by decide +kernel
theorem dX7_copy_20 : decode cX7_copy 20 = .ok (.ireturn, 1) := by decide +kernel
theorem dX7_copy_21 : decode cX7_copy 21 = .ok (.aload_n 0, 1) := by decide +kernel
theorem dX7_copy_22 : decode cX7_copy 22 = .ok (.getfield 13, 3) := by decide +kernel
theorem dX7_copy_25 : decode cX7_copy 25 = .ok (.iload_n 1, 1) := by decide +kernel
theorem dX7_copy_26 : decode cX7_copy 26 = .ok (.aaload, 1) := by decide +kernel
theorem dX7_copy_27 : decode cX7_copy 27 = .ok (.astore 6, 2) := by decide +kernel
theorem dX7_copy_29 : decode cX7_copy 29 = .ok (.aload_n 0, 1) := by decide +kernel
theorem dX7_copy_30 : decode cX7_copy 30 = .ok (.getfield 13, 3) := by decide +kernel
theorem dX7_copy_33 : decode cX7_copy 33 = .ok (.iload_n 3, 1) := by decide +kernel
theorem dX7_copy_34 : decode cX7_copy 34 = .ok (.aaload, 1) := by decide +kernel
theorem dX7_copy_35 : decode cX7_copy 35 = .ok (.astore 7, 2) := by decide +kernel
theorem dX7_copy_37 : decode cX7_copy 37 = .ok (.aload 6, 2) := by decide +kernel
theorem dX7_copy_39 : decode cX7_copy 39 = .ok (.getfield 204, 3) := by decide +kernel
theorem dX7_copy_42 : decode cX7_copy 42 = .ok (.ifCond .eq 11, 3) := by decide +kernel
theorem dX7_copy_45 : decode cX7_copy 45 = .ok (.aload 7, 2) := by decide +kernel
theorem dX7_copy_47 : decode cX7_copy 47 = .ok (.getfield 204, 3) := by decide +kernel
theorem dX7_copy_50 : decode cX7_copy 50 = .ok (.ifCond .ne 9, 3) := by decide +kernel
theorem dX7_copy_53 : decode cX7_copy 53 = .ok (.aload_n 0, 1) := by decide +kernel
theorem dX7_copy_54 : decode cX7_copy 54 = .ok (.iconst 1, 1) := by decide +kernel
theorem dX7_copy_55 : decode cX7_copy 55 = .ok (.invokevirtual 78, 3) := by decide +kernel
theorem dX7_copy_58 : decode cX7_copy 58 = .ok (.ireturn, 1) := by decide +kernel
theorem dX7_copy_59 : decode cX7_copy 59 = .ok (.aload 6, 2) := by decide +kernel
theorem dX7_copy_61 : decode cX7_copy 61 = .ok (.getfield 217, 3) := by decide +kernel
theorem dX7_copy_64 : decode cX7_copy 64 = .ok (.aload 7, 2) := by decide +kernel
theorem dX7_copy_66 : decode cX7_copy 66 = .ok (.getfield 217, 3) := by decide +kernel
theorem dX7_copy_69 : decode cX7_copy 69 = .ok (.if_icmp .eq 9, 3) := by decide +kernel
theorem dX7_copy_72 : decode cX7_copy 72 = .ok (.aload_n 0, 1) := by decide +kernel
theorem dX7_copy_73 : decode cX7_copy 73 = .ok (.iconst 2, 1) := by decide +kernel
theorem dX7_copy_74 : decode cX7_copy 74 = .ok (.invokevirtual 78, 3) := by decide +kernel
theorem dX7_copy_77 : decode cX7_copy 77 = .ok (.ireturn, 1) := by decide +kernel
theorem dX7_copy_78 : decode cX7_copy 78 = .ok (.aload 6, 2) := by decide +kernel
theorem dX7_copy_80 : decode cX7_copy 80 = .ok (.iload_n 2, 1) := by decide +kernel
theorem dX7_copy_81 : decode cX7_copy 81 = .ok (.iload 5, 2) := by decide +kernel
theorem dX7_copy_83 : decode cX7_copy 83 = .ok (.invokevirtual 207, 3) := by decide +kernel
theorem dX7_copy_86 : decode cX7_copy 86 = .ok (.ifCond .eq 15, 3) := by decide +kernel
theorem dX7_copy_89 : decode cX7_copy 89 = .ok (.aload 7, 2) := by decide +kernel
theorem dX7_copy_91 : decode cX7_copy 91 = .ok (.iload 4, 2) := by decide +kernel
theorem dX7_copy_93 : decode cX7_copy 93 = .ok (.iload 5, 2) := by decide +kernel
theorem dX7_copy_95 : decode cX7_copy 95 = .ok (.invokevirtual 207, 3) := by decide +kernel
theorem dX7_copy_98 : decode cX7_copy 98 = .ok (.ifCond .ne 9, 3) := by decide +kernel
theorem dX7_copy_101 : decode cX7_copy 101 = .ok (.aload_n 0, 1) := by decide +kernel
theorem dX7_copy_102 : decode cX7_copy 102 = .ok (.iconst 3, 1) := by decide +kernel
theorem dX7_copy_103 : decode cX7_copy 103 = .ok (.invokevirtual 78, 3) := by decide +kernel
theorem dX7_copy_106 : decode cX7_copy 106 = .ok (.ireturn, 1) := by decide +kernel
theorem dX7_copy_107 : decode cX7_copy 107 = .ok (.aload 6, 2) := by decide +kernel
theorem dX7_copy_109 : decode cX7_copy 109 = .ok (.getfield 214, 3) := by decide +kernel
theorem dX7_copy_112 : decode cX7_copy 112 = .ok (.iload_n 2, 1) := by decide +kernel
theorem dX7_copy_113 : decode cX7_copy 113 = .ok (.aload 7, 2) := by decide +kernel
theorem dX7_copy_115 : decode cX7_copy 115 = .ok (.getfield 214, 3) := by decide +kernel
theorem dX7_copy_118 : decode cX7_copy 118 = .ok (.iload 4, 2) := by decide +kernel
theorem dX7_copy_120 : decode cX7_copy 120 = .ok (.iload 5, 2) := by decide +kernel
theorem dX7_copy_122 : decode cX7_copy 122 = .ok (.invokestatic 220, 3) := by decide +kernel
theorem dX7_copy_125 : decode cX7_copy 125 = .ok (.iload 5, 2) := by decide +kernel
theorem dX7_copy_127 : decode cX7_copy 127 = .ok (.ireturn, 1) := by decide +kernel
theorem dX7_tell_0 : decode cX7_tell 0 = .ok (.aload_n 0, 1) := by decide +kernel
theorem dX7_tell_1 : decode cX7_tell 1 = .ok (.getfield 20, 3) := by decide +kernel
theorem dX7_tell_4 : decode cX7_tell 4 = .ok (.iload_n 1, 1) := by decide +kernel
theorem dX7_tell_5 : decode cX7_tell 5 = .ok (.invokevirtual 96, 3) := by decide +kernel
theorem dX7_tell_8 : decode cX7_tell 8 = .ok (.ifCond .ne 5, 3) := by decide +kernel
theorem dX7_tell_11 : decode cX7_tell 11 = .ok (.iconst (-1), 1) := by decide +kernel
theorem dX7_tell_12 : decode cX7_tell 12 = .ok (.ireturn, 1) := by decide +kernel
theorem dX7_tell_13 : decode cX7_tell 13 = .ok (.aload_n 0, 1) := by decide +kernel
theorem dX7_tell_14 : decode cX7_tell 14 = .ok (.getfield 20, 3) := by decide +kernel
theorem dX7_tell_17 : decode cX7_tell 17 = .ok (.getfield 99, 3) := by decide +kernel
theorem dX7_tell_20 : decode cX7_tell 20 = .ok (.iload_n 1, 1) := by decide +kernel
theorem dX7_tell_21 : decode cX7_tell 21 = .ok (.iaload, 1) := by decide +kernel
theorem dX7_tell_22 : decode cX7_tell 22 = .ok (.lookupswitch 38 #[(1, 32), (2, 26)], 26) := by decide +kernel
theorem dX7_tell_48 : decode cX7_tell 48 = .ok (.aload_n 0, 1) := by decide +kernel
theorem dX7_tell_49 : decode cX7_tell 49 = .ok (.iload_n 1, 1) := by decide +kernel
theorem dX7_tell_50 : decode cX7_tell 50 = .ok (.invokevirtual 226, 3) := by decide +kernel
theorem dX7_tell_53 : decode cX7_tell 53 = .ok (.ireturn, 1) := by decide +kernel
theorem dX7_tell_54 : decode cX7_tell 54 = .ok (.aload_n 0, 1) := by decide +kernel
theorem dX7_tell_55 : decode cX7_tell 55 = .ok (.iload_n 1, 1) := by decide +kernel
theorem dX7_tell_56 : decode cX7_tell 56 = .ok (.invokevirtual 229, 3) := by decide +kernel
theorem dX7_tell_59 : decode cX7_tell 59 = .ok (.ireturn, 1) := by decide +kernel
theorem dX7_tell_60 : decode cX7_tell 60 = .ok (.aload_n 0, 1) := by decide +kernel
theorem dX7_tell_61 : decode cX7_tell 61 = .ok (.iload_n 1, 1) := by decide +kernel
theorem dX7_tell_62 : decode cX7_tell 62 = .ok (.invokevirtual 232, 3) := by decide +kernel
theorem dX7_tell_65 : decode cX7_tell 65 = .ok (.ireturn, 1) := by decide +kernel
theorem dX7_lean_0 : decode cX7_lean 0 = .ok (.aload_n 0, 1) := by decide +kernel
theorem dX7_lean_1 : decode cX7_lean 1 = .ok (.getfield 20, 3) := by decide +kernel
theorem dX7_lean_4 : decode cX7_lean 4 = .ok (.iload_n 1, 1) := by decide +kernel
theorem dX7_lean_5 : decode cX7_lean 5 = .ok (.invokevirtual 96, 3) := by decide +kernel
theorem dX7_lean_8 : decode cX7_lean 8 = .ok (.ifCond .ne 5, 3) := by decide +kernel
theorem dX7_lean_11 : decode cX7_lean 11 = .ok (.iconst (-1), 1) := by decide +kernel
theorem dX7_lean_12 : decode cX7_lean 12 = .ok (.ireturn, 1) := by decide +kernel
theorem dX7_lean_13 : decode cX7_lean 13 = .ok (.aload_n 0, 1) := by decide +kernel
theorem dX7_lean_14 : decode cX7_lean 14 = .ok (.getfield 20, 3) := by decide +kernel
theorem dX7_lean_17 : decode cX7_lean 17 = .ok (.getfield 99, 3) := by decide +kernel
theorem dX7_lean_20 : decode cX7_lean 20 = .ok (.iload_n 1, 1) := by decide +kernel
theorem dX7_lean_21 : decode cX7_lean 21 = .ok (.iaload, 1) := by decide +kernel
theorem dX7_lean_22 : decode cX7_lean 22 = .ok (.iconst 2, 1) := by decide +kernel
theorem dX7_lean_23 : decode cX7_lean 23 = .ok (.if_icmp .ne 11, 3) := by decide +kernel
theorem dX7_lean_26 : decode cX7_lean 26 = .ok (.aload_n 0, 1) := by decide +kernel
theorem dX7_lean_27 : decode cX7_lean 27 = .ok (.iconst 5, 1) := by decide +kernel
theorem dX7_lean_28 : decode cX7_lean 28 = .ok (.invokevirtual 235, 3) := by decide +kernel
theorem dX7_lean_31 : decode cX7_lean 31 = .ok (.bipush 70, 2) := by decide +kernel
theorem dX7_lean_33 : decode cX7_lean 33 = .ok (.ireturn, 1) := by decide +kernel
theorem dX7_lean_34 : decode cX7_lean 34 = .ok (.aload_n 0, 1) := by decide +kernel
theorem dX7_lean_35 : decode cX7_lean 35 = .ok (.iconst 4, 1) := by decide +kernel
theorem dX7_lean_36 : decode cX7_lean 36 = .ok (.invokevirtual 235, 3) := by decide +kernel
theorem dX7_lean_39 : decode cX7_lean 39 = .ok (.iload_n 1, 1) := by decide +kernel
theorem dX7_lean_40 : decode cX7_lean 40 = .ok (.ireturn, 1) := by decide +kernel
theorem dX7_as_0 : decode cX7_as 0 = .ok (.aload_n 0, 1) := by decide +kernel
theorem dX7_as_1 : decode cX7_as 1 = .ok (.iconst 0, 1) := by decide +kernel
theorem dX7_as_2 : decode cX7_as 2 = .ok (.putfield 63, 3) := by decide +kernel
theorem dX7_as_5 : decode cX7_as 5 = .ok (.aload_n 0, 1) := by decide +kernel
theorem dX7_as_6 : decode cX7_as 6 = .ok (.getfield 20, 3) := by decide +kernel
theorem dX7_as_9 : decode cX7_as 9 = .ok (.iload_n 1, 1) := by decide +kernel
theorem dX7_as_10 : decode cX7_as 10 = .ok (.invokevirtual 96, 3) := by decide +kernel
theorem dX7_as_13 : decode cX7_as 13 = .ok (.ifCond .ne 5, 3) := by decide +kernel
theorem dX7_as_16 : decode cX7_as 16 = .ok (.iconst (-1), 1) := by decide +kernel
theorem dX7_as_17 : decode cX7_as 17 = .ok (.ireturn, 1) := by decide +kernel
theorem dX7_as_18 : decode cX7_as 18 = .ok (.iload_n 2, 1) := by decide +kernel
theorem dX7_as_19 : decode cX7_as 19 = .ok (.ifCond .lt 8, 3) := by decide +kernel
theorem dX7_as_22 : decode cX7_as 22 = .ok (.iload_n 2, 1) := by decide +kernel
theorem dX7_as_23 : decode cX7_as 23 = .ok (.iconst 3, 1) := by decide +kernel
theorem dX7_as_24 : decode cX7_as 24 = .ok (.if_icmp .lt 6, 3) := by decide +kernel
theorem dX7_as_27 : decode cX7_as 27 = .ok (.bipush (-2), 2) := by decide +kernel
theorem dX7_as_29 : decode cX7_as 29 = .ok (.ireturn, 1) := by decide +kernel
theorem dX7_as_30 : decode cX7_as 30 = .ok (.aload_n 0, 1) := by decide +kernel
theorem dX7_as_31 : decode cX7_as 31 = .ok (.getfield 20, 3) := by decide +kernel
theorem dX7_as_34 : decode cX7_as 34 = .ok (.getfield 99, 3) := by decide +kernel
theorem dX7_as_37 : decode cX7_as 37 = .ok (.iload_n 1, 1) := by decide +kernel
theorem dX7_as_38 : decode cX7_as 38 = .ok (.iaload, 1) := by decide +kernel
theorem dX7_as_39 : decode cX7_as 39 = .ok (.iload_n 2, 1) := by decide +kernel
theorem dX7_as_40 : decode cX7_as 40 = .ok (.if_icmp .lt 7, 3) := by decide +kernel
theorem dX7_as_43 : decode cX7_as 43 = .ok (.iconst 1, 1) := by decide +kernel
theorem dX7_as_44 : decode cX7_as 44 = .ok (.goto 8, 3) := by decide +kernel
theorem dX7_as_47 : decode cX7_as 47 = .ok (.aload_n 0, 1) := by decide +kernel
theorem dX7_as_48 : decode cX7_as 48 = .ok (.iconst 2, 1) := by decide +kernel
theorem dX7_as_49 : decode cX7_as 49 = .ok (.invokevirtual 78, 3) := by decide +kernel
theorem dX7_as_52 : decode cX7_as 52 = .ok (.ireturn, 1) := by decide +kernel
theorem dX7_trace_0 : decode cX7_trace 0 = .ok (.aload_n 0, 1) := by decide +kernel
theorem dX7_trace_1 : decode cX7_trace 1 = .ok (.getfield 59, 3) := by decide +kernel
theorem dX7_trace_4 : decode cX7_trace 4 = .ok (.ireturn, 1) := by decide +kernel
theorem dX7_fault_0 : decode cX7_fault 0 = .ok (.aload_n 0, 1) := by decide +kernel
theorem dX7_fault_1 : decode cX7_fault 1 = .ok (.getfield 63, 3) := by decide +kernel
theorem dX7_fault_4 : decode cX7_fault 4 = .ok (.ireturn, 1) := by decide +kernel
theorem dX7_many_0 : decode cX7_many 0 = .ok (.iload_n 1, 1) := by decide +kernel
theorem dX7_many_1 : decode cX7_many 1 = .ok (.tableswitch 83 0 4 #[35, 43, 51, 59, 67], 35) := by decide +kernel
theorem dX7_many_36 : decode cX7_many 36 = .ok (.aload_n 0, 1) := by decide +kernel
theorem dX7_many_37 : decode cX7_many 37 = .ok (.getfield 20, 3) := by decide +kernel
theorem dX7_many_40 : decode cX7_many 40 = .ok (.getfield 93, 3) := by decide +kernel
theorem dX7_many_43 : decode cX7_many 43 = .ok (.ireturn, 1) := by decide +kernel
theorem dX7_many_44 : decode cX7_many 44 = .ok (.aload_n 0, 1) := by decide +kernel
theorem dX7_many_45 : decode cX7_many 45 = .ok (.getfield 20, 3) := by decide +kernel
theorem dX7_many_48 : decode cX7_many 48 = .ok (.getfield 197, 3) := by decide +kernel
theorem dX7_many_51 : decode cX7_many 51 = .ok (.ireturn, 1) := by decide +kernel
theorem dX7_many_52 : decode cX7_many 52 = .ok (.aload_n 0, 1) := by decide +kernel
theorem dX7_many_53 : decode cX7_many 53 = .ok (.getfield 20, 3) := by decide +kernel
theorem dX7_many_56 : decode cX7_many 56 = .ok (.invokevirtual 238, 3) := by decide +kernel
theorem dX7_many_59 : decode cX7_many 59 = .ok (.ireturn, 1) := by decide +kernel
theorem dX7_many_60 : decode cX7_many 60 = .ok (.aload_n 0, 1) := by decide +kernel
theorem dX7_many_61 : decode cX7_many 61 = .ok (.getfield 55, 3) := by decide +kernel
theorem dX7_many_64 : decode cX7_many 64 = .ok (.getfield 90, 3) := by decide +kernel
theorem dX7_many_67 : decode cX7_many 67 = .ok (.ireturn, 1) := by decide +kernel
theorem dX7_many_68 : decode cX7_many 68 = .ok (.aload_n 0, 1) := by decide +kernel
theorem dX7_many_69 : decode cX7_many 69 = .ok (.getfield 20, 3) := by decide +kernel
theorem dX7_many_72 : decode cX7_many 72 = .ok (.getfield 144, 3) := by decide +kernel
theorem dX7_many_75 : decode cX7_many 75 = .ok (.ifCond .eq 7, 3) := by decide +kernel
theorem dX7_many_78 : decode cX7_many 78 = .ok (.iconst 1, 1) := by decide +kernel
theorem dX7_many_79 : decode cX7_many 79 = .ok (.goto 4, 3) := by decide +kernel
theorem dX7_many_82 : decode cX7_many 82 = .ok (.iconst 0, 1) := by decide +kernel
theorem dX7_many_83 : decode cX7_many 83 = .ok (.ireturn, 1) := by decide +kernel
theorem dX7_many_84 : decode cX7_many 84 = .ok (.bipush (-2), 2) := by decide +kernel
theorem dX7_many_86 : decode cX7_many 86 = .ok (.ireturn, 1) := by decide +kernel
theorem dX7_failed_0 : decode cX7_failed 0 = .ok (.aload_n 0, 1) := by decide +kernel
theorem dX7_failed_1 : decode cX7_failed 1 = .ok (.iload_n 1, 1) := by decide +kernel
theorem dX7_failed_2 : decode cX7_failed 2 = .ok (.putfield 63, 3) := by decide +kernel
theorem dX7_failed_5 : decode cX7_failed 5 = .ok (.bipush (-10), 2) := by decide +kernel
theorem dX7_failed_7 : decode cX7_failed 7 = .ok (.iload_n 1, 1) := by decide +kernel
theorem dX7_failed_8 : decode cX7_failed 8 = .ok (.isub, 1) := by decide +kernel
theorem dX7_failed_9 : decode cX7_failed 9 = .ok (.ireturn, 1) := by decide +kernel
theorem dX7_isSheet_0 : decode cX7_isSheet 0 = .ok (.iload_n 0, 1) := by decide +kernel
theorem dX7_isSheet_1 : decode cX7_isSheet 1 = .ok (.ifCond .lt 12, 3) := by decide +kernel
theorem dX7_isSheet_4 : decode cX7_isSheet 4 = .ok (.iload_n 0, 1) := by decide +kernel
theorem dX7_isSheet_5 : decode cX7_isSheet 5 = .ok (.iconst 4, 1) := by decide +kernel
theorem dX7_isSheet_6 : decode cX7_isSheet 6 = .ok (.if_icmp .ge 7, 3) := by decide +kernel
theorem dX7_isSheet_9 : decode cX7_isSheet 9 = .ok (.iconst 1, 1) := by decide +kernel
theorem dX7_isSheet_10 : decode cX7_isSheet 10 = .ok (.goto 4, 3) := by decide +kernel
theorem dX7_isSheet_13 : decode cX7_isSheet 13 = .ok (.iconst 0, 1) := by decide +kernel
theorem dX7_isSheet_14 : decode cX7_isSheet 14 = .ok (.ireturn, 1) := by decide +kernel
theorem dX7_isLane_0 : decode cX7_isLane 0 = .ok (.iload_n 0, 1) := by decide +kernel
theorem dX7_isLane_1 : decode cX7_isLane 1 = .ok (.ifCond .lt 12, 3) := by decide +kernel
theorem dX7_isLane_4 : decode cX7_isLane 4 = .ok (.iload_n 0, 1) := by decide +kernel
theorem dX7_isLane_5 : decode cX7_isLane 5 = .ok (.iconst 3, 1) := by decide +kernel
theorem dX7_isLane_6 : decode cX7_isLane 6 = .ok (.if_icmp .ge 7, 3) := by decide +kernel
theorem dX7_isLane_9 : decode cX7_isLane 9 = .ok (.iconst 1, 1) := by decide +kernel
theorem dX7_isLane_10 : decode cX7_isLane 10 = .ok (.goto 4, 3) := by decide +kernel
theorem dX7_isLane_13 : decode cX7_isLane 13 = .ok (.iconst 0, 1) := by decide +kernel
theorem dX7_isLane_14 : decode cX7_isLane 14 = .ok (.ireturn, 1) := by decide +kernel
theorem dX7_isNumber_0 : decode cX7_isNumber 0 = .ok (.iload_n 0, 1) := by decide +kernel
theorem dX7_isNumber_1 : decode cX7_isNumber 1 = .ok (.ifCond .lt 13, 3) := by decide +kernel
theorem dX7_isNumber_4 : decode cX7_isNumber 4 = .ok (.iload_n 0, 1) := by decide +kernel
theorem dX7_isNumber_5 : decode cX7_isNumber 5 = .ok (.bipush 100, 2) := by decide +kernel
theorem dX7_isNumber_7 : decode cX7_isNumber 7 = .ok (.if_icmp .ge 7, 3) := by decide +kernel
theorem dX7_isNumber_10 : decode cX7_isNumber 10 = .ok (.iconst 1, 1) := by decide +kernel
theorem dX7_isNumber_11 : decode cX7_isNumber 11 = .ok (.goto 4, 3) := by decide +kernel
theorem dX7_isNumber_14 : decode cX7_isNumber 14 = .ok (.iconst 0, 1) := by decide +kernel
theorem dX7_isNumber_15 : decode cX7_isNumber 15 = .ok (.ireturn, 1) := by decide +kernel
theorem dX7_isTenths_0 : decode cX7_isTenths 0 = .ok (.iload_n 0, 1) := by decide +kernel
theorem dX7_isTenths_1 : decode cX7_isTenths 1 = .ok (.ifCond .lt 13, 3) := by decide +kernel
theorem dX7_isTenths_4 : decode cX7_isTenths 4 = .ok (.iload_n 0, 1) := by decide +kernel
theorem dX7_isTenths_5 : decode cX7_isTenths 5 = .ok (.bipush 10, 2) := by decide +kernel
theorem dX7_isTenths_7 : decode cX7_isTenths 7 = .ok (.if_icmp .gt 7, 3) := by decide +kernel
theorem dX7_isTenths_10 : decode cX7_isTenths 10 = .ok (.iconst 1, 1) := by decide +kernel
theorem dX7_isTenths_11 : decode cX7_isTenths 11 = .ok (.goto 4, 3) := by decide +kernel
theorem dX7_isTenths_14 : decode cX7_isTenths 14 = .ok (.iconst 0, 1) := by decide +kernel
theorem dX7_isTenths_15 : decode cX7_isTenths 15 = .ok (.ireturn, 1) := by decide +kernel
theorem dX7_firstFault_0 : decode cX7_firstFault 0 = .ok (.iconst 0, 1) := by decide +kernel
theorem dX7_firstFault_1 : decode cX7_firstFault 1 = .ok (.istore_n 3, 1) := by decide +kernel
theorem dX7_firstFault_2 : decode cX7_firstFault 2 = .ok (.iload_n 3, 1) := by decide +kernel
theorem dX7_firstFault_3 : decode cX7_firstFault 3 = .ok (.iload_n 2, 1) := by decide +kernel
theorem dX7_firstFault_4 : decode cX7_firstFault 4 = .ok (.if_icmp .ge 25, 3) := by decide +kernel
theorem dX7_firstFault_7 : decode cX7_firstFault 7 = .ok (.iload_n 3, 1) := by decide +kernel
theorem dX7_firstFault_8 : decode cX7_firstFault 8 = .ok (.aload_n 0, 1) := by decide +kernel
theorem dX7_firstFault_9 : decode cX7_firstFault 9 = .ok (.iload_n 1, 1) := by decide +kernel
theorem dX7_firstFault_10 : decode cX7_firstFault 10 = .ok (.iload_n 3, 1) := by decide +kernel
theorem dX7_firstFault_11 : decode cX7_firstFault 11 = .ok (.iadd, 1) := by decide +kernel
theorem dX7_firstFault_12 : decode cX7_firstFault 12 = .ok (.invokevirtual 242, 3) := by decide +kernel
theorem dX7_firstFault_15 : decode cX7_firstFault 15 = .ok (.invokestatic 245, 3) := by decide +kernel
theorem dX7_firstFault_18 : decode cX7_firstFault 18 = .ok (.ifCond .ne 5, 3) := by decide +kernel
theorem dX7_firstFault_21 : decode cX7_firstFault 21 = .ok (.iload_n 3, 1) := by decide +kernel
theorem dX7_firstFault_22 : decode cX7_firstFault 22 = .ok (.ireturn, 1) := by decide +kernel
theorem dX7_firstFault_23 : decode cX7_firstFault 23 = .ok (.iinc 3 1, 3) := by decide +kernel
theorem dX7_firstFault_26 : decode cX7_firstFault 26 = .ok (.goto (-24), 3) := by decide +kernel
theorem dX7_firstFault_29 : decode cX7_firstFault 29 = .ok (.iload_n 2, 1) := by decide +kernel
theorem dX7_firstFault_30 : decode cX7_firstFault 30 = .ok (.bipush 12, 2) := by decide +kernel
theorem dX7_firstFault_32 : decode cX7_firstFault 32 = .ok (.if_icmp .lt 15, 3) := by decide +kernel
theorem dX7_firstFault_35 : decode cX7_firstFault 35 = .ok (.iload_n 2, 1) := by decide +kernel
theorem dX7_firstFault_36 : decode cX7_firstFault 36 = .ok (.iconst 2, 1) := by decide +kernel
theorem dX7_firstFault_37 : decode cX7_firstFault 37 = .ok (.isub, 1) := by decide +kernel
theorem dX7_firstFault_38 : decode cX7_firstFault 38 = .ok (.iconst 5, 1) := by decide +kernel
theorem dX7_firstFault_39 : decode cX7_firstFault 39 = .ok (.irem, 1) := by decide +kernel
theorem dX7_firstFault_40 : decode cX7_firstFault 40 = .ok (.ifCond .ne 7, 3) := by decide +kernel
theorem dX7_firstFault_43 : decode cX7_firstFault 43 = .ok (.iconst 1, 1) := by decide +kernel
theorem dX7_firstFault_44 : decode cX7_firstFault 44 = .ok (.goto 4, 3) := by decide +kernel
theorem dX7_firstFault_47 : decode cX7_firstFault 47 = .ok (.iconst 0, 1) := by decide +kernel
theorem dX7_firstFault_48 : decode cX7_firstFault 48 = .ok (.istore_n 3, 1) := by decide +kernel
theorem dX7_firstFault_49 : decode cX7_firstFault 49 = .ok (.iload_n 3, 1) := by decide +kernel
theorem dX7_firstFault_50 : decode cX7_firstFault 50 = .ok (.ifCond .eq 8, 3) := by decide +kernel
theorem dX7_firstFault_53 : decode cX7_firstFault 53 = .ok (.bipush (-9), 2) := by decide +kernel
theorem dX7_firstFault_55 : decode cX7_firstFault 55 = .ok (.goto 4, 3) := by decide +kernel
theorem dX7_firstFault_58 : decode cX7_firstFault 58 = .ok (.iload_n 2, 1) := by decide +kernel
theorem dX7_firstFault_59 : decode cX7_firstFault 59 = .ok (.ireturn, 1) := by decide +kernel
theorem dX7_goesOn_0 : decode cX7_goesOn 0 = .ok (.iload_n 0, 1) := by decide +kernel
theorem dX7_goesOn_1 : decode cX7_goesOn 1 = .ok (.ifCond .ne 15, 3) := by decide +kernel
theorem dX7_goesOn_4 : decode cX7_goesOn 4 = .ok (.iload_n 1, 1) := by decide +kernel
theorem dX7_goesOn_5 : decode cX7_goesOn 5 = .ok (.bipush 119, 2) := by decide +kernel
theorem dX7_goesOn_7 : decode cX7_goesOn 7 = .ok (.if_icmp .ne 7, 3) := by decide +kernel
theorem dX7_goesOn_10 : decode cX7_goesOn 10 = .ok (.iconst 1, 1) := by decide +kernel
theorem dX7_goesOn_11 : decode cX7_goesOn 11 = .ok (.goto 4, 3) := by decide +kernel
theorem dX7_goesOn_14 : decode cX7_goesOn 14 = .ok (.iconst 0, 1) := by decide +kernel
theorem dX7_goesOn_15 : decode cX7_goesOn 15 = .ok (.ireturn, 1) := by decide +kernel
theorem dX7_goesOn_16 : decode cX7_goesOn 16 = .ok (.iload_n 0, 1) := by decide +kernel
theorem dX7_goesOn_17 : decode cX7_goesOn 17 = .ok (.iconst 1, 1) := by decide +kernel
theorem dX7_goesOn_18 : decode cX7_goesOn 18 = .ok (.if_icmp .ne 9, 3) := by decide +kernel
theorem dX7_goesOn_21 : decode cX7_goesOn 21 = .ok (.iload_n 1, 1) := by decide +kernel
theorem dX7_goesOn_22 : decode cX7_goesOn 22 = .ok (.iconst 1, 1) := by decide +kernel
theorem dX7_goesOn_23 : decode cX7_goesOn 23 = .ok (.invokestatic 248, 3) := by decide +kernel
theorem dX7_goesOn_26 : decode cX7_goesOn 26 = .ok (.ireturn, 1) := by decide +kernel
theorem dX7_goesOn_27 : decode cX7_goesOn 27 = .ok (.iload_n 0, 1) := by decide +kernel
theorem dX7_goesOn_28 : decode cX7_goesOn 28 = .ok (.bipush 37, 2) := by decide +kernel
theorem dX7_goesOn_30 : decode cX7_goesOn 30 = .ok (.if_icmp .lt 5, 3) := by decide +kernel
theorem dX7_goesOn_33 : decode cX7_goesOn 33 = .ok (.iconst 0, 1) := by decide +kernel
theorem dX7_goesOn_34 : decode cX7_goesOn 34 = .ok (.ireturn, 1) := by decide +kernel
theorem dX7_goesOn_35 : decode cX7_goesOn 35 = .ok (.iload_n 0, 1) := by decide +kernel
theorem dX7_goesOn_36 : decode cX7_goesOn 36 = .ok (.iconst 2, 1) := by decide +kernel
theorem dX7_goesOn_37 : decode cX7_goesOn 37 = .ok (.isub, 1) := by decide +kernel
theorem dX7_goesOn_38 : decode cX7_goesOn 38 = .ok (.iconst 5, 1) := by decide +kernel
theorem dX7_goesOn_39 : decode cX7_goesOn 39 = .ok (.irem, 1) := by decide +kernel
theorem dX7_goesOn_40 : decode cX7_goesOn 40 = .ok (.tableswitch 71 0 2 #[28, 40, 64], 28) := by decide +kernel
theorem dX7_goesOn_68 : decode cX7_goesOn 68 = .ok (.iload_n 1, 1) := by decide +kernel
theorem dX7_goesOn_69 : decode cX7_goesOn 69 = .ok (.bipush 59, 2) := by decide +kernel
theorem dX7_goesOn_71 : decode cX7_goesOn 71 = .ok (.if_icmp .ne 7, 3) := by decide +kernel
theorem dX7_goesOn_74 : decode cX7_goesOn 74 = .ok (.iconst 1, 1) := by decide +kernel
theorem dX7_goesOn_75 : decode cX7_goesOn 75 = .ok (.goto 4, 3) := by decide +kernel
theorem dX7_goesOn_78 : decode cX7_goesOn 78 = .ok (.iconst 0, 1) := by decide +kernel
theorem dX7_goesOn_79 : decode cX7_goesOn 79 = .ok (.ireturn, 1) := by decide +kernel
theorem dX7_goesOn_80 : decode cX7_goesOn 80 = .ok (.iload_n 1, 1) := by decide +kernel
theorem dX7_goesOn_81 : decode cX7_goesOn 81 = .ok (.bipush 112, 2) := by decide +kernel
theorem dX7_goesOn_83 : decode cX7_goesOn 83 = .ok (.if_icmp .eq 15, 3) := by decide +kernel
theorem dX7_goesOn_86 : decode cX7_goesOn 86 = .ok (.iload_n 1, 1) := by decide +kernel
theorem dX7_goesOn_87 : decode cX7_goesOn 87 = .ok (.bipush 103, 2) := by decide +kernel
theorem dX7_goesOn_89 : decode cX7_goesOn 89 = .ok (.if_icmp .eq 9, 3) := by decide +kernel
theorem dX7_goesOn_92 : decode cX7_goesOn 92 = .ok (.iload_n 1, 1) := by decide +kernel
theorem dX7_goesOn_93 : decode cX7_goesOn 93 = .ok (.bipush 116, 2) := by decide +kernel
theorem dX7_goesOn_95 : decode cX7_goesOn 95 = .ok (.if_icmp .ne 7, 3) := by decide +kernel
theorem dX7_goesOn_98 : decode cX7_goesOn 98 = .ok (.iconst 1, 1) := by decide +kernel
theorem dX7_goesOn_99 : decode cX7_goesOn 99 = .ok (.goto 4, 3) := by decide +kernel
theorem dX7_goesOn_102 : decode cX7_goesOn 102 = .ok (.iconst 0, 1) := by decide +kernel
theorem dX7_goesOn_103 : decode cX7_goesOn 103 = .ok (.ireturn, 1) := by decide +kernel
theorem dX7_goesOn_104 : decode cX7_goesOn 104 = .ok (.iload_n 1, 1) := by decide +kernel
theorem dX7_goesOn_105 : decode cX7_goesOn 105 = .ok (.bipush 9, 2) := by decide +kernel
theorem dX7_goesOn_107 : decode cX7_goesOn 107 = .ok (.invokestatic 248, 3) := by decide +kernel
theorem dX7_goesOn_110 : decode cX7_goesOn 110 = .ok (.ireturn, 1) := by decide +kernel
theorem dX7_goesOn_111 : decode cX7_goesOn 111 = .ok (.iload_n 1, 1) := by decide +kernel
theorem dX7_goesOn_112 : decode cX7_goesOn 112 = .ok (.iconst 3, 1) := by decide +kernel
theorem dX7_goesOn_113 : decode cX7_goesOn 113 = .ok (.invokestatic 248, 3) := by decide +kernel
theorem dX7_goesOn_116 : decode cX7_goesOn 116 = .ok (.ireturn, 1) := by decide +kernel
theorem dX7_isDigit_0 : decode cX7_isDigit 0 = .ok (.iload_n 0, 1) := by decide +kernel
theorem dX7_isDigit_1 : decode cX7_isDigit 1 = .ok (.bipush 48, 2) := by decide +kernel
theorem dX7_isDigit_3 : decode cX7_isDigit 3 = .ok (.if_icmp .lt 15, 3) := by decide +kernel
theorem dX7_isDigit_6 : decode cX7_isDigit 6 = .ok (.iload_n 0, 1) := by decide +kernel
theorem dX7_isDigit_7 : decode cX7_isDigit 7 = .ok (.bipush 48, 2) := by decide +kernel
theorem dX7_isDigit_9 : decode cX7_isDigit 9 = .ok (.iload_n 1, 1) := by decide +kernel
theorem dX7_isDigit_10 : decode cX7_isDigit 10 = .ok (.iadd, 1) := by decide +kernel
theorem dX7_isDigit_11 : decode cX7_isDigit 11 = .ok (.if_icmp .gt 7, 3) := by decide +kernel
theorem dX7_isDigit_14 : decode cX7_isDigit 14 = .ok (.iconst 1, 1) := by decide +kernel
theorem dX7_isDigit_15 : decode cX7_isDigit 15 = .ok (.goto 4, 3) := by decide +kernel
theorem dX7_isDigit_18 : decode cX7_isDigit 18 = .ok (.iconst 0, 1) := by decide +kernel
theorem dX7_isDigit_19 : decode cX7_isDigit 19 = .ok (.ireturn, 1) := by decide +kernel
theorem dX7_hearers_0 : decode cX7_hearers 0 = .ok (.lconst 0, 1) := by decide +kernel
theorem dX7_hearers_1 : decode cX7_hearers 1 = .ok (.lstore_n 3, 1) := by decide +kernel
theorem dX7_hearers_2 : decode cX7_hearers 2 = .ok (.iconst 0, 1) := by decide +kernel
theorem dX7_hearers_3 : decode cX7_hearers 3 = .ok (.istore 5, 2) := by decide +kernel
theorem dX7_hearers_5 : decode cX7_hearers 5 = .ok (.iload 5, 2) := by decide +kernel
theorem dX7_hearers_7 : decode cX7_hearers 7 = .ok (.aload_n 0, 1) := by decide +kernel
theorem dX7_hearers_8 : decode cX7_hearers 8 = .ok (.getfield 20, 3) := by decide +kernel
theorem dX7_hearers_11 : decode cX7_hearers 11 = .ok (.getfield 93, 3) := by decide +kernel
theorem dX7_hearers_14 : decode cX7_hearers 14 = .ok (.if_icmp .ge 43, 3) := by decide +kernel
theorem dX7_hearers_17 : decode cX7_hearers 17 = .ok (.iload 5, 2) := by decide +kernel
theorem dX7_hearers_19 : decode cX7_hearers 19 = .ok (.iload_n 1, 1) := by decide +kernel
theorem dX7_hearers_20 : decode cX7_hearers 20 = .ok (.if_icmp .eq 31, 3) := by decide +kernel
theorem dX7_hearers_23 : decode cX7_hearers 23 = .ok (.lload_n 3, 1) := by decide +kernel
theorem dX7_hearers_24 : decode cX7_hearers 24 = .ok (.aload_n 0, 1) := by decide +kernel
theorem dX7_hearers_25 : decode cX7_hearers 25 = .ok (.aload_n 0, 1) := by decide +kernel
theorem dX7_hearers_26 : decode cX7_hearers 26 = .ok (.getfield 20, 3) := by decide +kernel
theorem dX7_hearers_29 : decode cX7_hearers 29 = .ok (.iload_n 1, 1) := by decide +kernel
theorem dX7_hearers_30 : decode cX7_hearers 30 = .ok (.iload 5, 2) := by decide +kernel
theorem dX7_hearers_32 : decode cX7_hearers 32 = .ok (.invokevirtual 251, 3) := by decide +kernel
theorem dX7_hearers_35 : decode cX7_hearers 35 = .ok (.aload_n 0, 1) := by decide +kernel
theorem dX7_hearers_36 : decode cX7_hearers 36 = .ok (.getfield 20, 3) := by decide +kernel
theorem dX7_hearers_39 : decode cX7_hearers 39 = .ok (.iload 5, 2) := by decide +kernel
theorem dX7_hearers_41 : decode cX7_hearers 41 = .ok (.iload_n 1, 1) := by decide +kernel
theorem dX7_hearers_42 : decode cX7_hearers 42 = .ok (.invokevirtual 251, 3) := by decide +kernel
theorem dX7_hearers_45 : decode cX7_hearers 45 = .ok (.iload_n 2, 1) := by decide +kernel
theorem dX7_hearers_46 : decode cX7_hearers 46 = .ok (.invokevirtual 255, 3) := by decide +kernel
theorem dX7_hearers_49 : decode cX7_hearers 49 = .ok (.ladd, 1) := by decide +kernel
theorem dX7_hearers_50 : decode cX7_hearers 50 = .ok (.lstore_n 3, 1) := by decide +kernel
theorem dX7_hearers_51 : decode cX7_hearers 51 = .ok (.iinc 5 1, 3) := by decide +kernel
theorem dX7_hearers_54 : decode cX7_hearers 54 = .ok (.goto (-49), 3) := by decide +kernel
theorem dX7_hearers_57 : decode cX7_hearers 57 = .ok (.lload_n 3, 1) := by decide +kernel
theorem dX7_hearers_58 : decode cX7_hearers 58 = .ok (.lreturn, 1) := by decide +kernel
theorem dX7_reaching_0 : decode cX7_reaching 0 = .ok (.iload_n 1, 1) := by decide +kernel
theorem dX7_reaching_1 : decode cX7_reaching 1 = .ok (.bipush (-9), 2) := by decide +kernel
theorem dX7_reaching_3 : decode cX7_reaching 3 = .ok (.if_icmp .ne 11, 3) := by decide +kernel
theorem dX7_reaching_6 : decode cX7_reaching 6 = .ok (.iload_n 2, 1) := by decide +kernel
theorem dX7_reaching_7 : decode cX7_reaching 7 = .ok (.bipush (-9), 2) := by decide +kernel
theorem dX7_reaching_9 : decode cX7_reaching 9 = .ok (.if_icmp .ne 5, 3) := by decide +kernel
theorem dX7_reaching_12 : decode cX7_reaching 12 = .ok (.lconst 0, 1) := by decide +kernel
theorem dX7_reaching_13 : decode cX7_reaching 13 = .ok (.lreturn, 1) := by decide +kernel
theorem dX7_reaching_14 : decode cX7_reaching 14 = .ok (.iload_n 2, 1) := by decide +kernel
theorem dX7_reaching_15 : decode cX7_reaching 15 = .ok (.bipush (-9), 2) := by decide +kernel
theorem dX7_reaching_17 : decode cX7_reaching 17 = .ok (.if_icmp .ne 10, 3) := by decide +kernel
theorem dX7_reaching_20 : decode cX7_reaching 20 = .ok (.aload_n 0, 1) := by decide +kernel
theorem dX7_reaching_21 : decode cX7_reaching 21 = .ok (.iload_n 1, 1) := by decide +kernel
theorem dX7_reaching_22 : decode cX7_reaching 22 = .ok (.iload_n 3, 1) := by decide +kernel
theorem dX7_reaching_23 : decode cX7_reaching 23 = .ok (.invokevirtual 259, 3) := by decide +kernel
theorem dX7_reaching_26 : decode cX7_reaching 26 = .ok (.lreturn, 1) := by decide +kernel
theorem dX7_reaching_27 : decode cX7_reaching 27 = .ok (.iload_n 1, 1) := by decide +kernel
theorem dX7_reaching_28 : decode cX7_reaching 28 = .ok (.bipush (-9), 2) := by decide +kernel
theorem dX7_reaching_30 : decode cX7_reaching 30 = .ok (.if_icmp .ne 10, 3) := by decide +kernel
theorem dX7_reaching_33 : decode cX7_reaching 33 = .ok (.aload_n 0, 1) := by decide +kernel
theorem dX7_reaching_34 : decode cX7_reaching 34 = .ok (.iload_n 2, 1) := by decide +kernel
theorem dX7_reaching_35 : decode cX7_reaching 35 = .ok (.iload_n 3, 1) := by decide +kernel
theorem dX7_reaching_36 : decode cX7_reaching 36 = .ok (.invokevirtual 259, 3) := by decide +kernel
theorem dX7_reaching_39 : decode cX7_reaching 39 = .ok (.lreturn, 1) := by decide +kernel
theorem dX7_reaching_40 : decode cX7_reaching 40 = .ok (.aload_n 0, 1) := by decide +kernel
theorem dX7_reaching_41 : decode cX7_reaching 41 = .ok (.iload_n 1, 1) := by decide +kernel
theorem dX7_reaching_42 : decode cX7_reaching 42 = .ok (.iload_n 3, 1) := by decide +kernel
theorem dX7_reaching_43 : decode cX7_reaching 43 = .ok (.invokevirtual 259, 3) := by decide +kernel
theorem dX7_reaching_46 : decode cX7_reaching 46 = .ok (.aload_n 0, 1) := by decide +kernel
theorem dX7_reaching_47 : decode cX7_reaching 47 = .ok (.iload_n 2, 1) := by decide +kernel
theorem dX7_reaching_48 : decode cX7_reaching 48 = .ok (.iload_n 3, 1) := by decide +kernel
theorem dX7_reaching_49 : decode cX7_reaching 49 = .ok (.invokevirtual 259, 3) := by decide +kernel
theorem dX7_reaching_52 : decode cX7_reaching 52 = .ok (.ladd, 1) := by decide +kernel
theorem dX7_reaching_53 : decode cX7_reaching 53 = .ok (.aload_n 0, 1) := by decide +kernel
theorem dX7_reaching_54 : decode cX7_reaching 54 = .ok (.iload_n 1, 1) := by decide +kernel
theorem dX7_reaching_55 : decode cX7_reaching 55 = .ok (.iload_n 2, 1) := by decide +kernel
theorem dX7_reaching_56 : decode cX7_reaching 56 = .ok (.iadd, 1) := by decide +kernel
theorem dX7_reaching_57 : decode cX7_reaching 57 = .ok (.iload_n 3, 1) := by decide +kernel
theorem dX7_reaching_58 : decode cX7_reaching 58 = .ok (.invokevirtual 259, 3) := by decide +kernel
theorem dX7_reaching_61 : decode cX7_reaching 61 = .ok (.lsub, 1) := by decide +kernel
theorem dX7_reaching_62 : decode cX7_reaching 62 = .ok (.lreturn, 1) := by decide +kernel
theorem dX7_allWhole_0 : decode cX7_allWhole 0 = .ok (.lconst 1, 1) := by decide +kernel
theorem dX7_allWhole_1 : decode cX7_allWhole 1 = .ok (.lstore_n 3, 1) := by decide +kernel
theorem dX7_allWhole_2 : decode cX7_allWhole 2 = .ok (.iconst 0, 1) := by decide +kernel
theorem dX7_allWhole_3 : decode cX7_allWhole 3 = .ok (.istore 5, 2) := by decide +kernel
theorem dX7_allWhole_5 : decode cX7_allWhole 5 = .ok (.iload 5, 2) := by decide +kernel
theorem dX7_allWhole_7 : decode cX7_allWhole 7 = .ok (.aload_n 0, 1) := by decide +kernel
theorem dX7_allWhole_8 : decode cX7_allWhole 8 = .ok (.getfield 20, 3) := by decide +kernel
theorem dX7_allWhole_11 : decode cX7_allWhole 11 = .ok (.getfield 197, 3) := by decide +kernel
theorem dX7_allWhole_14 : decode cX7_allWhole 14 = .ok (.if_icmp .ge 29, 3) := by decide +kernel
theorem dX7_allWhole_17 : decode cX7_allWhole 17 = .ok (.lload_n 3, 1) := by decide +kernel
theorem dX7_allWhole_18 : decode cX7_allWhole 18 = .ok (.iload 5, 2) := by decide +kernel
theorem dX7_allWhole_20 : decode cX7_allWhole 20 = .ok (.iload_n 1, 1) := by decide +kernel
theorem dX7_allWhole_21 : decode cX7_allWhole 21 = .ok (.if_icmp .ge 11, 3) := by decide +kernel
theorem dX7_allWhole_24 : decode cX7_allWhole 24 = .ok (.bipush 10, 2) := by decide +kernel
theorem dX7_allWhole_26 : decode cX7_allWhole 26 = .ok (.iload_n 2, 1) := by decide +kernel
theorem dX7_allWhole_27 : decode cX7_allWhole 27 = .ok (.isub, 1) := by decide +kernel
theorem dX7_allWhole_28 : decode cX7_allWhole 28 = .ok (.i2l, 1) := by decide +kernel
theorem dX7_allWhole_29 : decode cX7_allWhole 29 = .ok (.goto 6, 3) := by decide +kernel
theorem dX7_allWhole_32 : decode cX7_allWhole 32 = .ok (.ldc2_w 262, 3) := by decide +kernel
theorem dX7_allWhole_35 : decode cX7_allWhole 35 = .ok (.lmul, 1) := by decide +kernel
theorem dX7_allWhole_36 : decode cX7_allWhole 36 = .ok (.lstore_n 3, 1) := by decide +kernel
theorem dX7_allWhole_37 : decode cX7_allWhole 37 = .ok (.iinc 5 1, 3) := by decide +kernel
theorem dX7_allWhole_40 : decode cX7_allWhole 40 = .ok (.goto (-35), 3) := by decide +kernel
theorem dX7_allWhole_43 : decode cX7_allWhole 43 = .ok (.lload_n 3, 1) := by decide +kernel
theorem dX7_allWhole_44 : decode cX7_allWhole 44 = .ok (.lreturn, 1) := by decide +kernel
theorem dX7_whole_0 : decode cX7_whole 0 = .ok (.aload_n 0, 1) := by decide +kernel
theorem dX7_whole_1 : decode cX7_whole 1 = .ok (.iconst 0, 1) := by decide +kernel
theorem dX7_whole_2 : decode cX7_whole 2 = .ok (.iconst 0, 1) := by decide +kernel
theorem dX7_whole_3 : decode cX7_whole 3 = .ok (.invokevirtual 259, 3) := by decide +kernel
theorem dX7_whole_6 : decode cX7_whole 6 = .ok (.lreturn, 1) := by decide +kernel
theorem dX7_commonDivisor_0 : decode cX7_commonDivisor 0 = .ok (.lload_n 0, 1) := by decide +kernel
theorem dX7_commonDivisor_1 : decode cX7_commonDivisor 1 = .ok (.lstore 4, 2) := by decide +kernel
theorem dX7_commonDivisor_3 : decode cX7_commonDivisor 3 = .ok (.lload_n 2, 1) := by decide +kernel
theorem dX7_commonDivisor_4 : decode cX7_commonDivisor 4 = .ok (.lstore 6, 2) := by decide +kernel
theorem dX7_commonDivisor_6 : decode cX7_commonDivisor 6 = .ok (.iconst 0, 1) := by decide +kernel
theorem dX7_commonDivisor_7 : decode cX7_commonDivisor 7 = .ok (.istore 8, 2) := by decide +kernel
theorem dX7_commonDivisor_9 : decode cX7_commonDivisor 9 = .ok (.iload 8, 2) := by decide +kernel
theorem dX7_commonDivisor_11 : decode cX7_commonDivisor 11 = .ok (.sipush 200, 3) := by decide +kernel
theorem dX7_commonDivisor_14 : decode cX7_commonDivisor 14 = .ok (.if_icmp .ge 31, 3) := by decide +kernel
theorem dX7_commonDivisor_17 : decode cX7_commonDivisor 17 = .ok (.lload 6, 2) := by decide +kernel
theorem dX7_commonDivisor_19 : decode cX7_commonDivisor 19 = .ok (.lconst 0, 1) := by decide +kernel
theorem dX7_commonDivisor_20 : decode cX7_commonDivisor 20 = .ok (.lcmp, 1) := by decide +kernel
theorem dX7_commonDivisor_21 : decode cX7_commonDivisor 21 = .ok (.ifCond .eq 24, 3) := by decide +kernel
theorem dX7_commonDivisor_24 : decode cX7_commonDivisor 24 = .ok (.lload 4, 2) := by decide +kernel
theorem dX7_commonDivisor_26 : decode cX7_commonDivisor 26 = .ok (.lload 6, 2) := by decide +kernel
theorem dX7_commonDivisor_28 : decode cX7_commonDivisor 28 = .ok (.lrem, 1) := by decide +kernel
theorem dX7_commonDivisor_29 : decode cX7_commonDivisor 29 = .ok (.lstore 9, 2) := by decide +kernel
theorem dX7_commonDivisor_31 : decode cX7_commonDivisor 31 = .ok (.lload 6, 2) := by decide +kernel
theorem dX7_commonDivisor_33 : decode cX7_commonDivisor 33 = .ok (.lstore 4, 2) := by decide +kernel
theorem dX7_commonDivisor_35 : decode cX7_commonDivisor 35 = .ok (.lload 9, 2) := by decide +kernel
theorem dX7_commonDivisor_37 : decode cX7_commonDivisor 37 = .ok (.lstore 6, 2) := by decide +kernel
theorem dX7_commonDivisor_39 : decode cX7_commonDivisor 39 = .ok (.iinc 8 1, 3) := by decide +kernel
theorem dX7_commonDivisor_42 : decode cX7_commonDivisor 42 = .ok (.goto (-33), 3) := by decide +kernel
theorem dX7_commonDivisor_45 : decode cX7_commonDivisor 45 = .ok (.lload 4, 2) := by decide +kernel
theorem dX7_commonDivisor_47 : decode cX7_commonDivisor 47 = .ok (.lreturn, 1) := by decide +kernel
theorem dX7_leaveTrace_0 : decode cX7_leaveTrace 0 = .ok (.aload_n 0, 1) := by decide +kernel
theorem dX7_leaveTrace_1 : decode cX7_leaveTrace 1 = .ok (.bipush 31, 2) := by decide +kernel
theorem dX7_leaveTrace_3 : decode cX7_leaveTrace 3 = .ok (.aload_n 0, 1) := by decide +kernel
theorem dX7_leaveTrace_4 : decode cX7_leaveTrace 4 = .ok (.getfield 59, 3) := by decide +kernel
theorem dX7_leaveTrace_7 : decode cX7_leaveTrace 7 = .ok (.imul, 1) := by decide +kernel
theorem dX7_leaveTrace_8 : decode cX7_leaveTrace 8 = .ok (.iload_n 1, 1) := by decide +kernel
theorem dX7_leaveTrace_9 : decode cX7_leaveTrace 9 = .ok (.iadd, 1) := by decide +kernel
theorem dX7_leaveTrace_10 : decode cX7_leaveTrace 10 = .ok (.putfield 59, 3) := by decide +kernel
theorem dX7_leaveTrace_13 : decode cX7_leaveTrace 13 = .ok (.return_, 1) := by decide +kernel
theorem dX7_tellPerson_0 : decode cX7_tellPerson 0 = .ok (.aload_n 0, 1) := by decide +kernel
theorem dX7_tellPerson_1 : decode cX7_tellPerson 1 = .ok (.iconst 1, 1) := by decide +kernel
theorem dX7_tellPerson_2 : decode cX7_tellPerson 2 = .ok (.invokevirtual 235, 3) := by decide +kernel
theorem dX7_tellPerson_5 : decode cX7_tellPerson 5 = .ok (.aload_n 0, 1) := by decide +kernel
theorem dX7_tellPerson_6 : decode cX7_tellPerson 6 = .ok (.getfield 20, 3) := by decide +kernel
theorem dX7_tellPerson_9 : decode cX7_tellPerson 9 = .ok (.iload_n 1, 1) := by decide +kernel
theorem dX7_tellPerson_10 : decode cX7_tellPerson 10 = .ok (.invokevirtual 96, 3) := by decide +kernel
theorem dX7_tellPerson_13 : decode cX7_tellPerson 13 = .ok (.ifCond .eq 15, 3) := by decide +kernel
theorem dX7_tellPerson_16 : decode cX7_tellPerson 16 = .ok (.aload_n 0, 1) := by decide +kernel
theorem dX7_tellPerson_17 : decode cX7_tellPerson 17 = .ok (.getfield 20, 3) := by decide +kernel
theorem dX7_tellPerson_20 : decode cX7_tellPerson 20 = .ok (.getfield 103, 3) := by decide +kernel
theorem dX7_tellPerson_23 : decode cX7_tellPerson 23 = .ok (.iload_n 1, 1) := by decide +kernel
theorem dX7_tellPerson_24 : decode cX7_tellPerson 24 = .ok (.iaload, 1) := by decide +kernel
theorem dX7_tellPerson_25 : decode cX7_tellPerson 25 = .ok (.goto 4, 3) := by decide +kernel
theorem dX7_tellPerson_28 : decode cX7_tellPerson 28 = .ok (.iconst 0, 1) := by decide +kernel
theorem dX7_tellPerson_29 : decode cX7_tellPerson 29 = .ok (.ireturn, 1) := by decide +kernel
theorem dX7_tellGrudger_0 : decode cX7_tellGrudger 0 = .ok (.aload_n 0, 1) := by decide +kernel
theorem dX7_tellGrudger_1 : decode cX7_tellGrudger 1 = .ok (.iconst 2, 1) := by decide +kernel
theorem dX7_tellGrudger_2 : decode cX7_tellGrudger 2 = .ok (.invokevirtual 235, 3) := by decide +kernel
theorem dX7_tellGrudger_5 : decode cX7_tellGrudger 5 = .ok (.aload_n 0, 1) := by decide +kernel
theorem dX7_tellGrudger_6 : decode cX7_tellGrudger 6 = .ok (.iload_n 1, 1) := by decide +kernel
theorem dX7_tellGrudger_7 : decode cX7_tellGrudger 7 = .ok (.invokevirtual 232, 3) := by decide +kernel
theorem dX7_tellGrudger_10 : decode cX7_tellGrudger 10 = .ok (.bipush 100, 2) := by decide +kernel
theorem dX7_tellGrudger_12 : decode cX7_tellGrudger 12 = .ok (.iadd, 1) := by decide +kernel
theorem dX7_tellGrudger_13 : decode cX7_tellGrudger 13 = .ok (.ireturn, 1) := by decide +kernel
theorem dX7_tellTalker_0 : decode cX7_tellTalker 0 = .ok (.aload_n 0, 1) := by decide +kernel
theorem dX7_tellTalker_1 : decode cX7_tellTalker 1 = .ok (.iconst 3, 1) := by decide +kernel
theorem dX7_tellTalker_2 : decode cX7_tellTalker 2 = .ok (.invokevirtual 235, 3) := by decide +kernel
theorem dX7_tellTalker_5 : decode cX7_tellTalker 5 = .ok (.aload_n 0, 1) := by decide +kernel
theorem dX7_tellTalker_6 : decode cX7_tellTalker 6 = .ok (.iload_n 1, 1) := by decide +kernel
theorem dX7_tellTalker_7 : decode cX7_tellTalker 7 = .ok (.invokevirtual 229, 3) := by decide +kernel
theorem dX7_tellTalker_10 : decode cX7_tellTalker 10 = .ok (.aload_n 0, 1) := by decide +kernel
theorem dX7_tellTalker_11 : decode cX7_tellTalker 11 = .ok (.iload_n 1, 1) := by decide +kernel
theorem dX7_tellTalker_12 : decode cX7_tellTalker 12 = .ok (.invokevirtual 232, 3) := by decide +kernel
theorem dX7_tellTalker_15 : decode cX7_tellTalker 15 = .ok (.iadd, 1) := by decide +kernel
theorem dX7_tellTalker_16 : decode cX7_tellTalker 16 = .ok (.ireturn, 1) := by decide +kernel
theorem dX8_init_0 : decode cX8_init 0 = .ok (.aload_n 0, 1) := by decide +kernel
theorem dX8_init_1 : decode cX8_init 1 = .ok (.invokespecial 1, 3) := by decide +kernel
theorem dX8_init_4 : decode cX8_init 4 = .ok (.aload_n 0, 1) := by decide +kernel
theorem dX8_init_5 : decode cX8_init 5 = .ok (.iconst 4, 1) := by decide +kernel
theorem dX8_init_6 : decode cX8_init 6 = .ok (.newarray .int, 2) := by decide +kernel
theorem dX8_init_8 : decode cX8_init 8 = .ok (.dup, 1) := by decide +kernel
theorem dX8_init_9 : decode cX8_init 9 = .ok (.iconst 0, 1) := by decide +kernel
theorem dX8_init_10 : decode cX8_init 10 = .ok (.bipush (-9), 2) := by decide +kernel
theorem dX8_init_12 : decode cX8_init 12 = .ok (.iastore, 1) := by decide +kernel
theorem dX8_init_13 : decode cX8_init 13 = .ok (.dup, 1) := by decide +kernel
theorem dX8_init_14 : decode cX8_init 14 = .ok (.iconst 1, 1) := by decide +kernel
theorem dX8_init_15 : decode cX8_init 15 = .ok (.bipush (-9), 2) := by decide +kernel
theorem dX8_init_17 : decode cX8_init 17 = .ok (.iastore, 1) := by decide +kernel
theorem dX8_init_18 : decode cX8_init 18 = .ok (.dup, 1) := by decide +kernel
theorem dX8_init_19 : decode cX8_init 19 = .ok (.iconst 2, 1) := by decide +kernel
theorem dX8_init_20 : decode cX8_init 20 = .ok (.bipush (-9), 2) := by decide +kernel
theorem dX8_init_22 : decode cX8_init 22 = .ok (.iastore, 1) := by decide +kernel
theorem dX8_init_23 : decode cX8_init 23 = .ok (.dup, 1) := by decide +kernel
theorem dX8_init_24 : decode cX8_init 24 = .ok (.iconst 3, 1) := by decide +kernel
theorem dX8_init_25 : decode cX8_init 25 = .ok (.bipush (-9), 2) := by decide +kernel
theorem dX8_init_27 : decode cX8_init 27 = .ok (.iastore, 1) := by decide +kernel
theorem dX8_init_28 : decode cX8_init 28 = .ok (.putfield 9, 3) := by decide +kernel
theorem dX8_init_31 : decode cX8_init 31 = .ok (.aload_n 0, 1) := by decide +kernel
theorem dX8_init_32 : decode cX8_init 32 = .ok (.iconst 4, 1) := by decide +kernel
theorem dX8_init_33 : decode cX8_init 33 = .ok (.newarray .int, 2) := by decide +kernel
theorem dX8_init_35 : decode cX8_init 35 = .ok (.putfield 13, 3) := by decide +kernel
theorem dX8_init_38 : decode cX8_init 38 = .ok (.aload_n 0, 1) := by decide +kernel
theorem dX8_init_39 : decode cX8_init 39 = .ok (.sipush 200, 3) := by decide +kernel
theorem dX8_init_42 : decode cX8_init 42 = .ok (.newarray .int, 2) := by decide +kernel
theorem dX8_init_44 : decode cX8_init 44 = .ok (.putfield 16, 3) := by decide +kernel
theorem dX8_init_47 : decode cX8_init 47 = .ok (.aload_n 0, 1) := by decide +kernel
theorem dX8_init_48 : decode cX8_init 48 = .ok (.bipush 7, 2) := by decide +kernel
theorem dX8_init_50 : decode cX8_init 50 = .ok (.newarray .int, 2) := by decide +kernel
theorem dX8_init_52 : decode cX8_init 52 = .ok (.putfield 19, 3) := by decide +kernel
theorem dX8_init_55 : decode cX8_init 55 = .ok (.aload_n 0, 1) := by decide +kernel
theorem dX8_init_56 : decode cX8_init 56 = .ok (.bipush 7, 2) := by decide +kernel
theorem dX8_init_58 : decode cX8_init 58 = .ok (.newarray .int, 2) := by decide +kernel
theorem dX8_init_60 : decode cX8_init 60 = .ok (.putfield 22, 3) := by decide +kernel
theorem dX8_init_63 : decode cX8_init 63 = .ok (.aload_n 0, 1) := by decide +kernel
theorem dX8_init_64 : decode cX8_init 64 = .ok (.bipush 7, 2) := by decide +kernel
theorem dX8_init_66 : decode cX8_init 66 = .ok (.newarray .int, 2) := by decide +kernel
theorem dX8_init_68 : decode cX8_init 68 = .ok (.putfield 25, 3) := by decide +kernel
theorem dX8_init_71 : decode cX8_init 71 = .ok (.aload_n 0, 1) := by decide +kernel
theorem dX8_init_72 : decode cX8_init 72 = .ok (.bipush 7, 2) := by decide +kernel
theorem dX8_init_74 : decode cX8_init 74 = .ok (.newarray .int, 2) := by decide +kernel
theorem dX8_init_76 : decode cX8_init 76 = .ok (.putfield 28, 3) := by decide +kernel
theorem dX8_init_79 : decode cX8_init 79 = .ok (.aload_n 0, 1) := by decide +kernel
theorem dX8_init_80 : decode cX8_init 80 = .ok (.bipush 7, 2) := by decide +kernel
theorem dX8_init_82 : decode cX8_init 82 = .ok (.newarray .int, 2) := by decide +kernel
theorem dX8_init_84 : decode cX8_init 84 = .ok (.putfield 31, 3) := by decide +kernel
theorem dX8_init_87 : decode cX8_init 87 = .ok (.aload_n 0, 1) := by decide +kernel
theorem dX8_init_88 : decode cX8_init 88 = .ok (.bipush 7, 2) := by decide +kernel
theorem dX8_init_90 : decode cX8_init 90 = .ok (.newarray .int, 2) := by decide +kernel
theorem dX8_init_92 : decode cX8_init 92 = .ok (.putfield 34, 3) := by decide +kernel
theorem dX8_init_95 : decode cX8_init 95 = .ok (.aload_n 0, 1) := by decide +kernel
theorem dX8_init_96 : decode cX8_init 96 = .ok (.bipush 7, 2) := by decide +kernel
theorem dX8_init_98 : decode cX8_init 98 = .ok (.newarray .int, 2) := by decide +kernel
theorem dX8_init_100 : decode cX8_init 100 = .ok (.putfield 37, 3) := by decide +kernel
theorem dX8_init_103 : decode cX8_init 103 = .ok (.aload_n 0, 1) := by decide +kernel
theorem dX8_init_104 : decode cX8_init 104 = .ok (.bipush 7, 2) := by decide +kernel
theorem dX8_init_106 : decode cX8_init 106 = .ok (.newarray .int, 2) := by decide +kernel
theorem dX8_init_108 : decode cX8_init 108 = .ok (.putfield 40, 3) := by decide +kernel
theorem dX8_init_111 : decode cX8_init 111 = .ok (.aload_n 0, 1) := by decide +kernel
theorem dX8_init_112 : decode cX8_init 112 = .ok (.bipush 7, 2) := by decide +kernel
theorem dX8_init_114 : decode cX8_init 114 = .ok (.newarray .int, 2) := by decide +kernel
theorem dX8_init_116 : decode cX8_init 116 = .ok (.putfield 43, 3) := by decide +kernel
theorem dX8_init_119 : decode cX8_init 119 = .ok (.aload_n 0, 1) := by decide +kernel
theorem dX8_init_120 : decode cX8_init 120 = .ok (.bipush 7, 2) := by decide +kernel
theorem dX8_init_122 : decode cX8_init 122 = .ok (.newarray .int, 2) := by decide +kernel
theorem dX8_init_124 : decode cX8_init 124 = .ok (.putfield 46, 3) := by decide +kernel
theorem dX8_init_127 : decode cX8_init 127 = .ok (.aload_n 0, 1) := by decide +kernel
theorem dX8_init_128 : decode cX8_init 128 = .ok (.sipush 16384, 3) := by decide +kernel
theorem dX8_init_131 : decode cX8_init 131 = .ok (.newarray .int, 2) := by decide +kernel
theorem dX8_init_133 : decode cX8_init 133 = .ok (.putfield 49, 3) := by decide +kernel
theorem dX8_init_136 : decode cX8_init 136 = .ok (.aload_n 0, 1) := by decide +kernel
theorem dX8_init_137 : decode cX8_init 137 = .ok (.sipush 16384, 3) := by decide +kernel
theorem dX8_init_140 : decode cX8_init 140 = .ok (.newarray .int, 2) := by decide +kernel
theorem dX8_init_142 : decode cX8_init 142 = .ok (.putfield 52, 3) := by decide +kernel
theorem dX8_init_145 : decode cX8_init 145 = .ok (.aload_n 0, 1) := by decide +kernel
theorem dX8_init_146 : decode cX8_init 146 = .ok (.bipush 7, 2) := by decide +kernel
theorem dX8_init_148 : decode cX8_init 148 = .ok (.newarray .int, 2) := by decide +kernel
theorem dX8_init_150 : decode cX8_init 150 = .ok (.putfield 55, 3) := by decide +kernel
theorem dX8_init_153 : decode cX8_init 153 = .ok (.aload_n 0, 1) := by decide +kernel
theorem dX8_init_154 : decode cX8_init 154 = .ok (.sipush 128, 3) := by decide +kernel
theorem dX8_init_157 : decode cX8_init 157 = .ok (.newarray .int, 2) := by decide +kernel
theorem dX8_init_159 : decode cX8_init 159 = .ok (.putfield 58, 3) := by decide +kernel
theorem dX8_init_162 : decode cX8_init 162 = .ok (.aload_n 0, 1) := by decide +kernel
theorem dX8_init_163 : decode cX8_init 163 = .ok (.sipush 128, 3) := by decide +kernel
theorem dX8_init_166 : decode cX8_init 166 = .ok (.newarray .int, 2) := by decide +kernel
theorem dX8_init_168 : decode cX8_init 168 = .ok (.putfield 61, 3) := by decide +kernel
theorem dX8_init_171 : decode cX8_init 171 = .ok (.aload_n 0, 1) := by decide +kernel
theorem dX8_init_172 : decode cX8_init 172 = .ok (.bipush 8, 2) := by decide +kernel
theorem dX8_init_174 : decode cX8_init 174 = .ok (.newarray .int, 2) := by decide +kernel
theorem dX8_init_176 : decode cX8_init 176 = .ok (.putfield 64, 3) := by decide +kernel
theorem dX8_init_179 : decode cX8_init 179 = .ok (.aload_n 0, 1) := by decide +kernel
theorem dX8_init_180 : decode cX8_init 180 = .ok (.bipush 8, 2) := by decide +kernel
theorem dX8_init_182 : decode cX8_init 182 = .ok (.newarray .int, 2) := by decide +kernel
theorem dX8_init_184 : decode cX8_init 184 = .ok (.putfield 67, 3) := by decide +kernel
theorem dX8_init_187 : decode cX8_init 187 = .ok (.aload_n 0, 1) := by decide +kernel
theorem dX8_init_188 : decode cX8_init 188 = .ok (.bipush 8, 2) := by decide +kernel
theorem dX8_init_190 : decode cX8_init 190 = .ok (.newarray .int, 2) := by decide +kernel
theorem dX8_init_192 : decode cX8_init 192 = .ok (.putfield 70, 3) := by decide +kernel
theorem dX8_init_195 : decode cX8_init 195 = .ok (.aload_n 0, 1) := by decide +kernel
theorem dX8_init_196 : decode cX8_init 196 = .ok (.bipush 8, 2) := by decide +kernel
theorem dX8_init_198 : decode cX8_init 198 = .ok (.newarray .int, 2) := by decide +kernel
theorem dX8_init_200 : decode cX8_init 200 = .ok (.putfield 73, 3) := by decide +kernel
theorem dX8_init_203 : decode cX8_init 203 = .ok (.return_, 1) := by decide +kernel
theorem dX8_fails_0 : decode cX8_fails 0 = .ok (.aload_n 0, 1) := by decide +kernel
theorem dX8_fails_1 : decode cX8_fails 1 = .ok (.iload_n 1, 1) := by decide +kernel
theorem dX8_fails_2 : decode cX8_fails 2 = .ok (.putfield 76, 3) := by decide +kernel
theorem dX8_fails_5 : decode cX8_fails 5 = .ok (.bipush (-10), 2) := by decide +kernel
theorem dX8_fails_7 : decode cX8_fails 7 = .ok (.iload_n 1, 1) := by decide +kernel
theorem dX8_fails_8 : decode cX8_fails 8 = .ok (.isub, 1) := by decide +kernel
theorem dX8_fails_9 : decode cX8_fails 9 = .ok (.ireturn, 1) := by decide +kernel
theorem dX8_lost_0 : decode cX8_lost 0 = .ok (.aload_n 0, 1) := by decide +kernel
theorem dX8_lost_1 : decode cX8_lost 1 = .ok (.iload_n 1, 1) := by decide +kernel
theorem dX8_lost_2 : decode cX8_lost 2 = .ok (.putfield 76, 3) := by decide +kernel
theorem dX8_lost_5 : decode cX8_lost 5 = .ok (.ldc2_w 80, 3) := by decide +kernel
theorem dX8_lost_8 : decode cX8_lost 8 = .ok (.lreturn, 1) := by decide +kernel
theorem dX8_within_0 : decode cX8_within 0 = .ok (.iload_n 0, 1) := by decide +kernel
theorem dX8_within_1 : decode cX8_within 1 = .ok (.iload_n 1, 1) := by decide +kernel
theorem dX8_within_2 : decode cX8_within 2 = .ok (.if_icmp .lt 12, 3) := by decide +kernel
theorem dX8_within_5 : decode cX8_within 5 = .ok (.iload_n 0, 1) := by decide +kernel
theorem dX8_within_6 : decode cX8_within 6 = .ok (.iload_n 2, 1) := by decide +kernel
theorem dX8_within_7 : decode cX8_within 7 = .ok (.if_icmp .gt 7, 3) := by decide +kernel
theorem dX8_within_10 : decode cX8_within 10 = .ok (.iconst 1, 1) := by decide +kernel
theorem dX8_within_11 : decode cX8_within 11 = .ok (.goto 4, 3) := by decide +kernel
theorem dX8_within_14 : decode cX8_within 14 = .ok (.iconst 0, 1) := by decide +kernel
theorem dX8_within_15 : decode cX8_within 15 = .ok (.ireturn, 1) := by decide +kernel
theorem dX8_isSheet_0 : decode cX8_isSheet 0 = .ok (.iload_n 0, 1) := by decide +kernel
theorem dX8_isSheet_1 : decode cX8_isSheet 1 = .ok (.iconst 0, 1) := by decide +kernel
theorem dX8_isSheet_2 : decode cX8_isSheet 2 = .ok (.iconst 3, 1) := by decide +kernel
theorem dX8_isSheet_3 : decode cX8_isSheet 3 = .ok (.invokestatic 82, 3) := by decide +kernel
theorem dX8_isSheet_6 : decode cX8_isSheet 6 = .ok (.ireturn, 1) := by decide +kernel
theorem dX8_isSort_0 : decode cX8_isSort 0 = .ok (.iload_n 0, 1) := by decide +kernel
theorem dX8_isSort_1 : decode cX8_isSort 1 = .ok (.iconst 0, 1) := by decide +kernel
theorem dX8_isSort_2 : decode cX8_isSort 2 = .ok (.iconst 2, 1) := by decide +kernel
theorem dX8_isSort_3 : decode cX8_isSort 3 = .ok (.invokestatic 82, 3) := by decide +kernel
theorem dX8_isSort_6 : decode cX8_isSort 6 = .ok (.ireturn, 1) := by decide +kernel
theorem dX8_against_0 : decode cX8_against 0 = .ok (.aload_n 0, 1) := by decide +kernel
theorem dX8_against_1 : decode cX8_against 1 = .ok (.getfield 9, 3) := by decide +kernel
theorem dX8_against_4 : decode cX8_against 4 = .ok (.iload_n 1, 1) := by decide +kernel
theorem dX8_against_5 : decode cX8_against 5 = .ok (.iaload, 1) := by decide +kernel
theorem dX8_against_6 : decode cX8_against 6 = .ok (.bipush (-9), 2) := by decide +kernel
theorem dX8_against_8 : decode cX8_against 8 = .ok (.if_icmp .eq 15, 3) := by decide +kernel
theorem dX8_against_11 : decode cX8_against 11 = .ok (.aload_n 0, 1) := by decide +kernel
theorem dX8_against_12 : decode cX8_against 12 = .ok (.getfield 9, 3) := by decide +kernel
theorem dX8_against_15 : decode cX8_against 15 = .ok (.iload_n 1, 1) := by decide +kernel
theorem dX8_against_16 : decode cX8_against 16 = .ok (.iaload, 1) := by decide +kernel
theorem dX8_against_17 : decode cX8_against 17 = .ok (.iload_n 2, 1) := by decide +kernel
theorem dX8_against_18 : decode cX8_against 18 = .ok (.if_icmp .eq 5, 3) := by decide +kernel
theorem dX8_against_21 : decode cX8_against 21 = .ok (.iconst 2, 1) := by decide +kernel
theorem dX8_against_22 : decode cX8_against 22 = .ok (.ireturn, 1) := by decide +kernel
theorem dX8_against_23 : decode cX8_against 23 = .ok (.aload_n 0, 1) := by decide +kernel
theorem dX8_against_24 : decode cX8_against 24 = .ok (.getfield 9, 3) := by decide +kernel
theorem dX8_against_27 : decode cX8_against 27 = .ok (.iload_n 1, 1) := by decide +kernel
theorem dX8_against_28 : decode cX8_against 28 = .ok (.iaload, 1) := by decide +kernel
theorem dX8_against_29 : decode cX8_against 29 = .ok (.bipush (-9), 2) := by decide +kernel
theorem dX8_against_31 : decode cX8_against 31 = .ok (.if_icmp .ne 5, 3) := by decide +kernel
theorem dX8_against_34 : decode cX8_against 34 = .ok (.iconst 1, 1) := by decide +kernel
theorem dX8_against_35 : decode cX8_against 35 = .ok (.ireturn, 1) := by decide +kernel
theorem dX8_against_36 : decode cX8_against 36 = .ok (.iload 4, 2) := by decide +kernel
theorem dX8_against_38 : decode cX8_against 38 = .ok (.ifCond .ge 5, 3) := by decide +kernel
theorem dX8_against_41 : decode cX8_against 41 = .ok (.iconst 4, 1) := by decide +kernel
theorem dX8_against_42 : decode cX8_against 42 = .ok (.ireturn, 1) := by decide +kernel
theorem dX8_against_43 : decode cX8_against 43 = .ok (.iload_n 3, 1) := by decide +kernel
theorem dX8_against_44 : decode cX8_against 44 = .ok (.ifCond .lt 26, 3) := by decide +kernel
theorem dX8_against_47 : decode cX8_against 47 = .ok (.iload_n 3, 1) := by decide +kernel
theorem dX8_against_48 : decode cX8_against 48 = .ok (.aload_n 0, 1) := by decide +kernel
theorem dX8_against_49 : decode cX8_against 49 = .ok (.getfield 13, 3) := by decide +kernel
theorem dX8_against_52 : decode cX8_against 52 = .ok (.iload_n 1, 1) := by decide +kernel
theorem dX8_against_53 : decode cX8_against 53 = .ok (.iaload, 1) := by decide +kernel
theorem dX8_against_54 : decode cX8_against 54 = .ok (.if_icmp .gt 16, 3) := by decide +kernel
theorem dX8_against_57 : decode cX8_against 57 = .ok (.iload 4, 2) := by decide +kernel
theorem dX8_against_59 : decode cX8_against 59 = .ok (.aload_n 0, 1) := by decide +kernel
theorem dX8_against_60 : decode cX8_against 60 = .ok (.getfield 13, 3) := by decide +kernel
theorem dX8_against_63 : decode cX8_against 63 = .ok (.iload_n 1, 1) := by decide +kernel
theorem dX8_against_64 : decode cX8_against 64 = .ok (.iaload, 1) := by decide +kernel
theorem dX8_against_65 : decode cX8_against 65 = .ok (.iload_n 3, 1) := by decide +kernel
theorem dX8_against_66 : decode cX8_against 66 = .ok (.isub, 1) := by decide +kernel
theorem dX8_against_67 : decode cX8_against 67 = .ok (.if_icmp .le 7, 3) := by decide +kernel
theorem dX8_against_70 : decode cX8_against 70 = .ok (.iconst 3, 1) := by decide +kernel
theorem dX8_against_71 : decode cX8_against 71 = .ok (.goto 4, 3) := by decide +kernel
theorem dX8_against_74 : decode cX8_against 74 = .ok (.iconst 0, 1) := by decide +kernel
theorem dX8_against_75 : decode cX8_against 75 = .ok (.ireturn, 1) := by decide +kernel
theorem dX8_isPerson_0 : decode cX8_isPerson 0 = .ok (.iload_n 1, 1) := by decide +kernel
theorem dX8_isPerson_1 : decode cX8_isPerson 1 = .ok (.ifCond .lt 15, 3) := by decide +kernel
theorem dX8_isPerson_4 : decode cX8_isPerson 4 = .ok (.iload_n 1, 1) := by decide +kernel
theorem dX8_isPerson_5 : decode cX8_isPerson 5 = .ok (.aload_n 0, 1) := by decide +kernel
theorem dX8_isPerson_6 : decode cX8_isPerson 6 = .ok (.getfield 86, 3) := by decide +kernel
theorem dX8_isPerson_9 : decode cX8_isPerson 9 = .ok (.if_icmp .ge 7, 3) := by decide +kernel
theorem dX8_isPerson_12 : decode cX8_isPerson 12 = .ok (.iconst 1, 1) := by decide +kernel
theorem dX8_isPerson_13 : decode cX8_isPerson 13 = .ok (.goto 4, 3) := by decide +kernel
theorem dX8_isPerson_16 : decode cX8_isPerson 16 = .ok (.iconst 0, 1) := by decide +kernel
theorem dX8_isPerson_17 : decode cX8_isPerson 17 = .ok (.ireturn, 1) := by decide +kernel
theorem dX8_edges_0 : decode cX8_edges 0 = .ok (.aload_n 0, 1) := by decide +kernel
theorem dX8_edges_1 : decode cX8_edges 1 = .ok (.getfield 89, 3) := by decide +kernel
theorem dX8_edges_4 : decode cX8_edges 4 = .ok (.ifCond .eq 10, 3) := by decide +kernel
theorem dX8_edges_7 : decode cX8_edges 7 = .ok (.aload_n 0, 1) := by decide +kernel
theorem dX8_edges_8 : decode cX8_edges 8 = .ok (.getfield 86, 3) := by decide +kernel
theorem dX8_edges_11 : decode cX8_edges 11 = .ok (.goto 20, 3) := by decide +kernel
theorem dX8_edges_14 : decode cX8_edges 14 = .ok (.aload_n 0, 1) := by decide +kernel
theorem dX8_edges_15 : decode cX8_edges 15 = .ok (.getfield 86, 3) := by decide +kernel
theorem dX8_edges_18 : decode cX8_edges 18 = .ok (.ifCond .ne 7, 3) := by decide +kernel
theorem dX8_edges_21 : decode cX8_edges 21 = .ok (.iconst 0, 1) := by decide +kernel
theorem dX8_edges_22 : decode cX8_edges 22 = .ok (.goto 9, 3) := by decide +kernel
theorem dX8_edges_25 : decode cX8_edges 25 = .ok (.aload_n 0, 1) := by decide +kernel
theorem dX8_edges_26 : decode cX8_edges 26 = .ok (.getfield 86, 3) := by decide +kernel
theorem dX8_edges_29 : decode cX8_edges 29 = .ok (.iconst 1, 1) := by decide +kernel
theorem dX8_edges_30 : decode cX8_edges 30 = .ok (.isub, 1) := by decide +kernel
theorem dX8_edges_31 : decode cX8_edges 31 = .ok (.ireturn, 1) := by decide +kernel
theorem dX8_isEdge_0 : decode cX8_isEdge 0 = .ok (.iload_n 1, 1) := by decide +kernel
theorem dX8_isEdge_1 : decode cX8_isEdge 1 = .ok (.ifCond .lt 15, 3) := by decide +kernel
theorem dX8_isEdge_4 : decode cX8_isEdge 4 = .ok (.iload_n 1, 1) := by decide +kernel
theorem dX8_isEdge_5 : decode cX8_isEdge 5 = .ok (.aload_n 0, 1) := by decide +kernel
theorem dX8_isEdge_6 : decode cX8_isEdge 6 = .ok (.invokevirtual 93, 3) := by decide +kernel
theorem dX8_isEdge_9 : decode cX8_isEdge 9 = .ok (.if_icmp .ge 7, 3) := by decide +kernel
theorem dX8_isEdge_12 : decode cX8_isEdge 12 = .ok (.iconst 1, 1) := by decide +kernel
theorem dX8_isEdge_13 : decode cX8_isEdge 13 = .ok (.goto 4, 3) := by decide +kernel
theorem dX8_isEdge_16 : decode cX8_isEdge 16 = .ok (.iconst 0, 1) := by decide +kernel
theorem dX8_isEdge_17 : decode cX8_isEdge 17 = .ok (.ireturn, 1) := by decide +kernel
theorem dX8_farEnd_0 : decode cX8_farEnd 0 = .ok (.iload_n 1, 1) := by decide +kernel
theorem dX8_farEnd_1 : decode cX8_farEnd 1 = .ok (.iconst 1, 1) := by decide +kernel
theorem dX8_farEnd_2 : decode cX8_farEnd 2 = .ok (.iadd, 1) := by decide +kernel
theorem dX8_farEnd_3 : decode cX8_farEnd 3 = .ok (.aload_n 0, 1) := by decide +kernel
theorem dX8_farEnd_4 : decode cX8_farEnd 4 = .ok (.getfield 86, 3) := by decide +kernel
theorem dX8_farEnd_7 : decode cX8_farEnd 7 = .ok (.if_icmp .ne 7, 3) := by decide +kernel
theorem dX8_farEnd_10 : decode cX8_farEnd 10 = .ok (.iconst 0, 1) := by decide +kernel
theorem dX8_farEnd_11 : decode cX8_farEnd 11 = .ok (.goto 6, 3) := by decide +kernel
theorem dX8_farEnd_14 : decode cX8_farEnd 14 = .ok (.iload_n 1, 1) := by decide +kernel
theorem dX8_farEnd_15 : decode cX8_farEnd 15 = .ok (.iconst 1, 1) := by decide +kernel
theorem dX8_farEnd_16 : decode cX8_farEnd 16 = .ok (.iadd, 1) := by decide +kernel
theorem dX8_farEnd_17 : decode cX8_farEnd 17 = .ok (.ireturn, 1) := by decide +kernel
theorem dX8_isOpen_0 : decode cX8_isOpen 0 = .ok (.aload_n 0, 1) := by decide +kernel
theorem dX8_isOpen_1 : decode cX8_isOpen 1 = .ok (.getfield 97, 3) := by decide +kernel
theorem dX8_isOpen_4 : decode cX8_isOpen 4 = .ok (.iload_n 1, 1) := by decide +kernel
theorem dX8_isOpen_5 : decode cX8_isOpen 5 = .ok (.ishr, 1) := by decide +kernel
theorem dX8_isOpen_6 : decode cX8_isOpen 6 = .ok (.iconst 1, 1) := by decide +kernel
theorem dX8_isOpen_7 : decode cX8_isOpen 7 = .ok (.iand, 1) := by decide +kernel
theorem dX8_isOpen_8 : decode cX8_isOpen 8 = .ok (.ifCond .ne 7, 3) := by decide +kernel
theorem dX8_isOpen_11 : decode cX8_isOpen 11 = .ok (.iconst 1, 1) := by decide +kernel
theorem dX8_isOpen_12 : decode cX8_isOpen 12 = .ok (.goto 4, 3) := by decide +kernel
theorem dX8_isOpen_15 : decode cX8_isOpen 15 = .ok (.iconst 0, 1) := by decide +kernel
theorem dX8_isOpen_16 : decode cX8_isOpen 16 = .ok (.ireturn, 1) := by decide +kernel
theorem dX8_digit_0 : decode cX8_digit 0 = .ok (.aload_n 0, 1) := by decide +kernel
theorem dX8_digit_1 : decode cX8_digit 1 = .ok (.getfield 100, 3) := by decide +kernel
theorem dX8_digit_4 : decode cX8_digit 4 = .ok (.iload_n 1, 1) := by decide +kernel
theorem dX8_digit_5 : decode cX8_digit 5 = .ok (.if_icmp .ge 26, 3) := by decide +kernel
theorem dX8_digit_8 : decode cX8_digit 8 = .ok (.aload_n 0, 1) := by decide +kernel
theorem dX8_digit_9 : decode cX8_digit 9 = .ok (.getfield 16, 3) := by decide +kernel
theorem dX8_digit_12 : decode cX8_digit 12 = .ok (.aload_n 0, 1) := by decide +kernel
theorem dX8_digit_13 : decode cX8_digit 13 = .ok (.getfield 100, 3) := by decide +kernel
theorem dX8_digit_16 : decode cX8_digit 16 = .ok (.iaload, 1) := by decide +kernel
theorem dX8_digit_17 : decode cX8_digit 17 = .ok (.bipush 48, 2) := by decide +kernel
theorem dX8_digit_19 : decode cX8_digit 19 = .ok (.iload_n 2, 1) := by decide +kernel
theorem dX8_digit_20 : decode cX8_digit 20 = .ok (.iadd, 1) := by decide +kernel
theorem dX8_digit_21 : decode cX8_digit 21 = .ok (.bipush 48, 2) := by decide +kernel
theorem dX8_digit_23 : decode cX8_digit 23 = .ok (.iload_n 3, 1) := by decide +kernel
theorem dX8_digit_24 : decode cX8_digit 24 = .ok (.iadd, 1) := by decide +kernel
theorem dX8_digit_25 : decode cX8_digit 25 = .ok (.invokestatic 82, 3) := by decide +kernel
theorem dX8_digit_28 : decode cX8_digit 28 = .ok (.ifCond .ne 6, 3) := by decide +kernel
theorem dX8_digit_31 : decode cX8_digit 31 = .ok (.bipush (-9), 2) := by decide +kernel
theorem dX8_digit_33 : decode cX8_digit 33 = .ok (.ireturn, 1) := by decide +kernel
theorem dX8_digit_34 : decode cX8_digit 34 = .ok (.aload_n 0, 1) := by decide +kernel
theorem dX8_digit_35 : decode cX8_digit 35 = .ok (.dup, 1) := by decide +kernel
theorem dX8_digit_36 : decode cX8_digit 36 = .ok (.getfield 100, 3) := by decide +kernel
theorem dX8_digit_39 : decode cX8_digit 39 = .ok (.iconst 1, 1) := by decide +kernel
theorem dX8_digit_40 : decode cX8_digit 40 = .ok (.iadd, 1) := by decide +kernel
theorem dX8_digit_41 : decode cX8_digit 41 = .ok (.putfield 100, 3) := by decide +kernel
theorem dX8_digit_44 : decode cX8_digit 44 = .ok (.aload_n 0, 1) := by decide +kernel
theorem dX8_digit_45 : decode cX8_digit 45 = .ok (.getfield 16, 3) := by decide +kernel
theorem dX8_digit_48 : decode cX8_digit 48 = .ok (.aload_n 0, 1) := by decide +kernel
theorem dX8_digit_49 : decode cX8_digit 49 = .ok (.getfield 100, 3) := by decide +kernel
theorem dX8_digit_52 : decode cX8_digit 52 = .ok (.iconst 1, 1) := by decide +kernel
theorem dX8_digit_53 : decode cX8_digit 53 = .ok (.isub, 1) := by decide +kernel
theorem dX8_digit_54 : decode cX8_digit 54 = .ok (.iaload, 1) := by decide +kernel
theorem dX8_digit_55 : decode cX8_digit 55 = .ok (.bipush 48, 2) := by decide +kernel
theorem dX8_digit_57 : decode cX8_digit 57 = .ok (.isub, 1) := by decide +kernel
theorem dX8_digit_58 : decode cX8_digit 58 = .ok (.ireturn, 1) := by decide +kernel
theorem dX8_wire_0 : decode cX8_wire 0 = .ok (.aload_n 0, 1) := by decide +kernel
theorem dX8_wire_1 : decode cX8_wire 1 = .ok (.iconst 0, 1) := by decide +kernel
theorem dX8_wire_2 : decode cX8_wire 2 = .ok (.putfield 76, 3) := by decide +kernel
theorem dX8_wire_5 : decode cX8_wire 5 = .ok (.iload_n 1, 1) := by decide +kernel
theorem dX8_wire_6 : decode cX8_wire 6 = .ok (.invokestatic 103, 3) := by decide +kernel
theorem dX8_wire_9 : decode cX8_wire 9 = .ok (.ifCond .ne 5, 3) := by decide +kernel
theorem dX8_wire_12 : decode cX8_wire 12 = .ok (.iconst (-1), 1) := by decide +kernel
theorem dX8_wire_13 : decode cX8_wire 13 = .ok (.ireturn, 1) := by decide +kernel
theorem dX8_wire_14 : decode cX8_wire 14 = .ok (.iload_n 2, 1) := by decide +kernel
theorem dX8_wire_15 : decode cX8_wire 15 = .ok (.invokestatic 107, 3) := by decide +kernel
theorem dX8_wire_18 : decode cX8_wire 18 = .ok (.ifCond .ne 6, 3) := by decide +kernel
theorem dX8_wire_21 : decode cX8_wire 21 = .ok (.bipush (-2), 2) := by decide +kernel
theorem dX8_wire_23 : decode cX8_wire 23 = .ok (.ireturn, 1) := by decide +kernel
theorem dX8_wire_24 : decode cX8_wire 24 = .ok (.aload_n 0, 1) := by decide +kernel
theorem dX8_wire_25 : decode cX8_wire 25 = .ok (.iload_n 1, 1) := by decide +kernel
theorem dX8_wire_26 : decode cX8_wire 26 = .ok (.iload_n 2, 1) := by decide +kernel
theorem dX8_wire_27 : decode cX8_wire 27 = .ok (.iload_n 3, 1) := by decide +kernel
theorem dX8_wire_28 : decode cX8_wire 28 = .ok (.iload 4, 2) := by decide +kernel
theorem dX8_wire_30 : decode cX8_wire 30 = .ok (.invokevirtual 110, 3) := by decide +kernel
theorem dX8_wire_33 : decode cX8_wire 33 = .ok (.istore 5, 2) := by decide +kernel
theorem dX8_wire_35 : decode cX8_wire 35 = .ok (.iload 5, 2) := by decide +kernel
theorem dX8_wire_37 : decode cX8_wire 37 = .ok (.ifCond .eq 10, 3) := by decide +kernel
theorem dX8_wire_40 : decode cX8_wire 40 = .ok (.aload_n 0, 1) := by decide +kernel
theorem dX8_wire_41 : decode cX8_wire 41 = .ok (.iload 5, 2) := by decide +kernel
theorem dX8_wire_43 : decode cX8_wire 43 = .ok (.invokevirtual 114, 3) := by decide +kernel
theorem dX8_wire_46 : decode cX8_wire 46 = .ok (.ireturn, 1) := by decide +kernel
theorem dX8_wire_47 : decode cX8_wire 47 = .ok (.bipush 50, 2) := by decide +kernel
theorem dX8_wire_49 : decode cX8_wire 49 = .ok (.iload_n 1, 1) := by decide +kernel
theorem dX8_wire_50 : decode cX8_wire 50 = .ok (.imul, 1) := by decide +kernel
theorem dX8_wire_51 : decode cX8_wire 51 = .ok (.iload_n 3, 1) := by decide +kernel
theorem dX8_wire_52 : decode cX8_wire 52 = .ok (.iadd, 1) := by decide +kernel
theorem dX8_wire_53 : decode cX8_wire 53 = .ok (.istore 6, 2) := by decide +kernel
theorem dX8_wire_55 : decode cX8_wire 55 = .ok (.aload_n 0, 1) := by decide +kernel
theorem dX8_wire_56 : decode cX8_wire 56 = .ok (.iload 6, 2) := by decide +kernel
theorem dX8_wire_58 : decode cX8_wire 58 = .ok (.putfield 100, 3) := by decide +kernel
theorem dX8_wire_61 : decode cX8_wire 61 = .ok (.aload_n 0, 1) := by decide +kernel
theorem dX8_wire_62 : decode cX8_wire 62 = .ok (.iload 6, 2) := by decide +kernel
theorem dX8_wire_64 : decode cX8_wire 64 = .ok (.iload 4, 2) := by decide +kernel
theorem dX8_wire_66 : decode cX8_wire 66 = .ok (.iadd, 1) := by decide +kernel
theorem dX8_wire_67 : decode cX8_wire 67 = .ok (.invokevirtual 118, 3) := by decide +kernel
theorem dX8_wire_70 : decode cX8_wire 70 = .ok (.ifCond .ne 14, 3) := by decide +kernel
theorem dX8_wire_73 : decode cX8_wire 73 = .ok (.bipush (-100), 2) := by decide +kernel
theorem dX8_wire_75 : decode cX8_wire 75 = .ok (.aload_n 0, 1) := by decide +kernel
theorem dX8_wire_76 : decode cX8_wire 76 = .ok (.getfield 100, 3) := by decide +kernel
theorem dX8_wire_79 : decode cX8_wire 79 = .ok (.iload 6, 2) := by decide +kernel
theorem dX8_wire_81 : decode cX8_wire 81 = .ok (.isub, 1) := by decide +kernel
theorem dX8_wire_82 : decode cX8_wire 82 = .ok (.isub, 1) := by decide +kernel
theorem dX8_wire_83 : decode cX8_wire 83 = .ok (.ireturn, 1) := by decide +kernel
theorem dX8_wire_84 : decode cX8_wire 84 = .ok (.aload_n 0, 1) := by decide +kernel
theorem dX8_wire_85 : decode cX8_wire 85 = .ok (.aload_n 0, 1) := by decide +kernel
theorem dX8_wire_86 : decode cX8_wire 86 = .ok (.getfield 121, 3) := by decide +kernel
theorem dX8_wire_89 : decode cX8_wire 89 = .ok (.putfield 86, 3) := by decide +kernel
theorem dX8_wire_92 : decode cX8_wire 92 = .ok (.aload_n 0, 1) := by decide +kernel
theorem dX8_wire_93 : decode cX8_wire 93 = .ok (.aload_n 0, 1) := by decide +kernel
theorem dX8_wire_94 : decode cX8_wire 94 = .ok (.getfield 124, 3) := by decide +kernel
theorem dX8_wire_97 : decode cX8_wire 97 = .ok (.iconst 1, 1) := by decide +kernel
theorem dX8_wire_98 : decode cX8_wire 98 = .ok (.if_icmp .ne 7, 3) := by decide +kernel
theorem dX8_wire_101 : decode cX8_wire 101 = .ok (.iconst 1, 1) := by decide +kernel
theorem dX8_wire_102 : decode cX8_wire 102 = .ok (.goto 4, 3) := by decide +kernel
theorem dX8_wire_105 : decode cX8_wire 105 = .ok (.iconst 0, 1) := by decide +kernel
theorem dX8_wire_106 : decode cX8_wire 106 = .ok (.putfield 89, 3) := by decide +kernel
theorem dX8_wire_109 : decode cX8_wire 109 = .ok (.aload_n 0, 1) := by decide +kernel
theorem dX8_wire_110 : decode cX8_wire 110 = .ok (.iconst 0, 1) := by decide +kernel
theorem dX8_wire_111 : decode cX8_wire 111 = .ok (.putfield 97, 3) := by decide +kernel
theorem dX8_wire_114 : decode cX8_wire 114 = .ok (.aload_n 0, 1) := by decide +kernel
theorem dX8_wire_115 : decode cX8_wire 115 = .ok (.iconst 0, 1) := by decide +kernel
theorem dX8_wire_116 : decode cX8_wire 116 = .ok (.putfield 127, 3) := by decide +kernel
theorem dX8_wire_119 : decode cX8_wire 119 = .ok (.iconst 0, 1) := by decide +kernel
theorem dX8_wire_120 : decode cX8_wire 120 = .ok (.istore 7, 2) := by decide +kernel
theorem dX8_wire_122 : decode cX8_wire 122 = .ok (.iload 7, 2) := by decide +kernel
theorem dX8_wire_124 : decode cX8_wire 124 = .ok (.aload_n 0, 1) := by decide +kernel
theorem dX8_wire_125 : decode cX8_wire 125 = .ok (.getfield 86, 3) := by decide +kernel
theorem dX8_wire_128 : decode cX8_wire 128 = .ok (.if_icmp .ge 65, 3) := by decide +kernel
theorem dX8_wire_131 : decode cX8_wire 131 = .ok (.aload_n 0, 1) := by decide +kernel
theorem dX8_wire_132 : decode cX8_wire 132 = .ok (.getfield 19, 3) := by decide +kernel
theorem dX8_wire_135 : decode cX8_wire 135 = .ok (.iload 7, 2) := by decide +kernel
theorem dX8_wire_137 : decode cX8_wire 137 = .ok (.aload_n 0, 1) := by decide +kernel
theorem dX8_wire_138 : decode cX8_wire 138 = .ok (.getfield 31, 3) := by decide +kernel
theorem dX8_wire_141 : decode cX8_wire 141 = .ok (.iload 7, 2) := by decide +kernel
theorem dX8_wire_143 : decode cX8_wire 143 = .ok (.iaload, 1) := by decide +kernel
theorem dX8_wire_144 : decode cX8_wire 144 = .ok (.iastore, 1) := by decide +kernel
theorem dX8_wire_145 : decode cX8_wire 145 = .ok (.aload_n 0, 1) := by decide +kernel
theorem dX8_wire_146 : decode cX8_wire 146 = .ok (.getfield 22, 3) := by decide +kernel
theorem dX8_wire_149 : decode cX8_wire 149 = .ok (.iload 7, 2) := by decide +kernel
theorem dX8_wire_151 : decode cX8_wire 151 = .ok (.aload_n 0, 1) := by decide +kernel
theorem dX8_wire_152 : decode cX8_wire 152 = .ok (.getfield 34, 3) := by decide +kernel
theorem dX8_wire_155 : decode cX8_wire 155 = .ok (.iload 7, 2) := by decide +kernel
theorem dX8_wire_157 : decode cX8_wire 157 = .ok (.iaload, 1) := by decide +kernel
theorem dX8_wire_158 : decode cX8_wire 158 = .ok (.iastore, 1) := by decide +kernel
theorem dX8_wire_159 : decode cX8_wire 159 = .ok (.aload_n 0, 1) := by decide +kernel
theorem dX8_wire_160 : decode cX8_wire 160 = .ok (.getfield 25, 3) := by decide +kernel
theorem dX8_wire_163 : decode cX8_wire 163 = .ok (.iload 7, 2) := by decide +kernel
theorem dX8_wire_165 : decode cX8_wire 165 = .ok (.aload_n 0, 1) := by decide +kernel
theorem dX8_wire_166 : decode cX8_wire 166 = .ok (.getfield 37, 3) := by decide +kernel
theorem dX8_wire_169 : decode cX8_wire 169 = .ok (.iload 7, 2) := by decide +kernel
theorem dX8_wire_171 : decode cX8_wire 171 = .ok (.iaload, 1) := by decide +kernel
theorem dX8_wire_172 : decode cX8_wire 172 = .ok (.iastore, 1) := by decide +kernel
theorem dX8_wire_173 : decode cX8_wire 173 = .ok (.aload_n 0, 1) := by decide +kernel
theorem dX8_wire_174 : decode cX8_wire 174 = .ok (.getfield 28, 3) := by decide +kernel
theorem dX8_wire_177 : decode cX8_wire 177 = .ok (.iload 7, 2) := by decide +kernel
theorem dX8_wire_179 : decode cX8_wire 179 = .ok (.aload_n 0, 1) := by decide +kernel
theorem dX8_wire_180 : decode cX8_wire 180 = .ok (.getfield 40, 3) := by decide +kernel
theorem dX8_wire_183 : decode cX8_wire 183 = .ok (.iload 7, 2) := by decide +kernel
theorem dX8_wire_185 : decode cX8_wire 185 = .ok (.iaload, 1) := by decide +kernel
theorem dX8_wire_186 : decode cX8_wire 186 = .ok (.iastore, 1) := by decide +kernel
theorem dX8_wire_187 : decode cX8_wire 187 = .ok (.iinc 7 1, 3) := by decide +kernel
theorem dX8_wire_190 : decode cX8_wire 190 = .ok (.goto (-68), 3) := by decide +kernel
theorem dX8_wire_193 : decode cX8_wire 193 = .ok (.aload_n 0, 1) := by decide +kernel
theorem dX8_wire_194 : decode cX8_wire 194 = .ok (.getfield 86, 3) := by decide +kernel
theorem dX8_wire_197 : decode cX8_wire 197 = .ok (.ireturn, 1) := by decide +kernel
theorem dX8_readWire_0 : decode cX8_readWire 0 = .ok (.aload_n 0, 1) := by decide +kernel
theorem dX8_readWire_1 : decode cX8_readWire 1 = .ok (.getfield 100, 3) := by decide +kernel
theorem dX8_readWire_4 : decode cX8_readWire 4 = .ok (.iload_n 1, 1) := by decide +kernel
theorem dX8_readWire_5 : decode cX8_readWire 5 = .ok (.if_icmp .ge 17, 3) := by decide +kernel
theorem dX8_readWire_8 : decode cX8_readWire 8 = .ok (.aload_n 0, 1) := by decide +kernel
theorem dX8_readWire_9 : decode cX8_readWire 9 = .ok (.getfield 16, 3) := by decide +kernel
theorem dX8_readWire_12 : decode cX8_readWire 12 = .ok (.aload_n 0, 1) := by decide +kernel
theorem dX8_readWire_13 : decode cX8_readWire 13 = .ok (.getfield 100, 3) := by decide +kernel
theorem dX8_readWire_16 : decode cX8_readWire 16 = .ok (.iaload, 1) := by decide +kernel
theorem dX8_readWire_17 : decode cX8_readWire 17 = .ok (.bipush 119, 2) := by decide +kernel
theorem dX8_readWire_19 : decode cX8_readWire 19 = .ok (.if_icmp .eq 5, 3) := by decide +kernel
theorem dX8_readWire_22 : decode cX8_readWire 22 = .ok (.iconst 0, 1) := by decide +kernel
theorem dX8_readWire_23 : decode cX8_readWire 23 = .ok (.ireturn, 1) := by decide +kernel
theorem dX8_readWire_24 : decode cX8_readWire 24 = .ok (.aload_n 0, 1) := by decide +kernel
theorem dX8_readWire_25 : decode cX8_readWire 25 = .ok (.dup, 1) := by decide +kernel
theorem dX8_readWire_26 : decode cX8_readWire 26 = .ok (.getfield 100, 3) := by decide +kernel
theorem dX8_readWire_29 : decode cX8_readWire 29 = .ok (.iconst 1, 1) := by decide +kernel
theorem dX8_readWire_30 : decode cX8_readWire 30 = .ok (.iadd, 1) := by decide +kernel
theorem dX8_readWire_31 : decode cX8_readWire 31 = .ok (.putfield 100, 3) := by decide +kernel
theorem dX8_readWire_34 : decode cX8_readWire 34 = .ok (.aload_n 0, 1) := by decide +kernel
theorem dX8_readWire_35 : decode cX8_readWire 35 = .ok (.aload_n 0, 1) := by decide +kernel
theorem dX8_readWire_36 : decode cX8_readWire 36 = .ok (.iload_n 1, 1) := by decide +kernel
theorem dX8_readWire_37 : decode cX8_readWire 37 = .ok (.iconst 0, 1) := by decide +kernel
theorem dX8_readWire_38 : decode cX8_readWire 38 = .ok (.iconst 1, 1) := by decide +kernel
theorem dX8_readWire_39 : decode cX8_readWire 39 = .ok (.invokevirtual 130, 3) := by decide +kernel
theorem dX8_readWire_42 : decode cX8_readWire 42 = .ok (.putfield 124, 3) := by decide +kernel
theorem dX8_readWire_45 : decode cX8_readWire 45 = .ok (.aload_n 0, 1) := by decide +kernel
theorem dX8_readWire_46 : decode cX8_readWire 46 = .ok (.getfield 124, 3) := by decide +kernel
theorem dX8_readWire_49 : decode cX8_readWire 49 = .ok (.bipush (-9), 2) := by decide +kernel
theorem dX8_readWire_51 : decode cX8_readWire 51 = .ok (.if_icmp .ne 5, 3) := by decide +kernel
theorem dX8_readWire_54 : decode cX8_readWire 54 = .ok (.iconst 0, 1) := by decide +kernel
theorem dX8_readWire_55 : decode cX8_readWire 55 = .ok (.ireturn, 1) := by decide +kernel
theorem dX8_readWire_56 : decode cX8_readWire 56 = .ok (.aload_n 0, 1) := by decide +kernel
theorem dX8_readWire_57 : decode cX8_readWire 57 = .ok (.iconst 0, 1) := by decide +kernel
theorem dX8_readWire_58 : decode cX8_readWire 58 = .ok (.putfield 121, 3) := by decide +kernel
theorem dX8_readWire_61 : decode cX8_readWire 61 = .ok (.aload_n 0, 1) := by decide +kernel
theorem dX8_readWire_62 : decode cX8_readWire 62 = .ok (.getfield 121, 3) := by decide +kernel
theorem dX8_readWire_65 : decode cX8_readWire 65 = .ok (.iconst 2, 1) := by decide +kernel
theorem dX8_readWire_66 : decode cX8_readWire 66 = .ok (.if_icmp .lt 11, 3) := by decide +kernel
theorem dX8_readWire_69 : decode cX8_readWire 69 = .ok (.aload_n 0, 1) := by decide +kernel
theorem dX8_readWire_70 : decode cX8_readWire 70 = .ok (.getfield 100, 3) := by decide +kernel
theorem dX8_readWire_73 : decode cX8_readWire 73 = .ok (.iload_n 1, 1) := by decide +kernel
theorem dX8_readWire_74 : decode cX8_readWire 74 = .ok (.if_icmp .ge 73, 3) := by decide +kernel
theorem dX8_readWire_77 : decode cX8_readWire 77 = .ok (.aload_n 0, 1) := by decide +kernel
theorem dX8_readWire_78 : decode cX8_readWire 78 = .ok (.getfield 121, 3) := by decide +kernel
theorem dX8_readWire_81 : decode cX8_readWire 81 = .ok (.bipush 7, 2) := by decide +kernel
theorem dX8_readWire_83 : decode cX8_readWire 83 = .ok (.if_icmp .eq 25, 3) := by decide +kernel
theorem dX8_readWire_86 : decode cX8_readWire 86 = .ok (.aload_n 0, 1) := by decide +kernel
theorem dX8_readWire_87 : decode cX8_readWire 87 = .ok (.getfield 100, 3) := by decide +kernel
theorem dX8_readWire_90 : decode cX8_readWire 90 = .ok (.iload_n 1, 1) := by decide +kernel
theorem dX8_readWire_91 : decode cX8_readWire 91 = .ok (.if_icmp .ge 17, 3) := by decide +kernel
theorem dX8_readWire_94 : decode cX8_readWire 94 = .ok (.aload_n 0, 1) := by decide +kernel
theorem dX8_readWire_95 : decode cX8_readWire 95 = .ok (.getfield 16, 3) := by decide +kernel
theorem dX8_readWire_98 : decode cX8_readWire 98 = .ok (.aload_n 0, 1) := by decide +kernel
theorem dX8_readWire_99 : decode cX8_readWire 99 = .ok (.getfield 100, 3) := by decide +kernel
theorem dX8_readWire_102 : decode cX8_readWire 102 = .ok (.iaload, 1) := by decide +kernel
theorem dX8_readWire_103 : decode cX8_readWire 103 = .ok (.bipush 59, 2) := by decide +kernel
theorem dX8_readWire_105 : decode cX8_readWire 105 = .ok (.if_icmp .eq 5, 3) := by decide +kernel
theorem dX8_readWire_108 : decode cX8_readWire 108 = .ok (.iconst 0, 1) := by decide +kernel
theorem dX8_readWire_109 : decode cX8_readWire 109 = .ok (.ireturn, 1) := by decide +kernel
theorem dX8_readWire_110 : decode cX8_readWire 110 = .ok (.aload_n 0, 1) := by decide +kernel
theorem dX8_readWire_111 : decode cX8_readWire 111 = .ok (.dup, 1) := by decide +kernel
theorem dX8_readWire_112 : decode cX8_readWire 112 = .ok (.getfield 100, 3) := by decide +kernel
theorem dX8_readWire_115 : decode cX8_readWire 115 = .ok (.iconst 1, 1) := by decide +kernel
theorem dX8_readWire_116 : decode cX8_readWire 116 = .ok (.iadd, 1) := by decide +kernel
theorem dX8_readWire_117 : decode cX8_readWire 117 = .ok (.putfield 100, 3) := by decide +kernel
theorem dX8_readWire_120 : decode cX8_readWire 120 = .ok (.aload_n 0, 1) := by decide +kernel
theorem dX8_readWire_121 : decode cX8_readWire 121 = .ok (.iload_n 1, 1) := by decide +kernel
theorem dX8_readWire_122 : decode cX8_readWire 122 = .ok (.aload_n 0, 1) := by decide +kernel
theorem dX8_readWire_123 : decode cX8_readWire 123 = .ok (.getfield 121, 3) := by decide +kernel
theorem dX8_readWire_126 : decode cX8_readWire 126 = .ok (.invokevirtual 134, 3) := by decide +kernel
theorem dX8_readWire_129 : decode cX8_readWire 129 = .ok (.ifCond .ne 5, 3) := by decide +kernel
theorem dX8_readWire_132 : decode cX8_readWire 132 = .ok (.iconst 0, 1) := by decide +kernel
theorem dX8_readWire_133 : decode cX8_readWire 133 = .ok (.ireturn, 1) := by decide +kernel
theorem dX8_readWire_134 : decode cX8_readWire 134 = .ok (.aload_n 0, 1) := by decide +kernel
theorem dX8_readWire_135 : decode cX8_readWire 135 = .ok (.dup, 1) := by decide +kernel
theorem dX8_readWire_136 : decode cX8_readWire 136 = .ok (.getfield 121, 3) := by decide +kernel
theorem dX8_readWire_139 : decode cX8_readWire 139 = .ok (.iconst 1, 1) := by decide +kernel
theorem dX8_readWire_140 : decode cX8_readWire 140 = .ok (.iadd, 1) := by decide +kernel
theorem dX8_readWire_141 : decode cX8_readWire 141 = .ok (.putfield 121, 3) := by decide +kernel
theorem dX8_readWire_144 : decode cX8_readWire 144 = .ok (.goto (-83), 3) := by decide +kernel
theorem dX8_readWire_147 : decode cX8_readWire 147 = .ok (.iconst 1, 1) := by decide +kernel
theorem dX8_readWire_148 : decode cX8_readWire 148 = .ok (.ireturn, 1) := by decide +kernel
theorem dX8_readPerson_0 : decode cX8_readPerson 0 = .ok (.aload_n 0, 1) := by decide +kernel
theorem dX8_readPerson_1 : decode cX8_readPerson 1 = .ok (.getfield 100, 3) := by decide +kernel
theorem dX8_readPerson_4 : decode cX8_readPerson 4 = .ok (.iload_n 1, 1) := by decide +kernel
theorem dX8_readPerson_5 : decode cX8_readPerson 5 = .ok (.if_icmp .ge 15, 3) := by decide +kernel
theorem dX8_readPerson_8 : decode cX8_readPerson 8 = .ok (.aload_n 0, 1) := by decide +kernel
theorem dX8_readPerson_9 : decode cX8_readPerson 9 = .ok (.getfield 16, 3) := by decide +kernel
theorem dX8_readPerson_12 : decode cX8_readPerson 12 = .ok (.aload_n 0, 1) := by decide +kernel
theorem dX8_readPerson_13 : decode cX8_readPerson 13 = .ok (.getfield 100, 3) := by decide +kernel
theorem dX8_readPerson_16 : decode cX8_readPerson 16 = .ok (.iaload, 1) := by decide +kernel
theorem dX8_readPerson_17 : decode cX8_readPerson 17 = .ok (.goto 4, 3) := by decide +kernel
theorem dX8_readPerson_20 : decode cX8_readPerson 20 = .ok (.iconst 0, 1) := by decide +kernel
theorem dX8_readPerson_21 : decode cX8_readPerson 21 = .ok (.istore_n 3, 1) := by decide +kernel
theorem dX8_readPerson_22 : decode cX8_readPerson 22 = .ok (.aload_n 0, 1) := by decide +kernel
theorem dX8_readPerson_23 : decode cX8_readPerson 23 = .ok (.getfield 31, 3) := by decide +kernel
theorem dX8_readPerson_26 : decode cX8_readPerson 26 = .ok (.iload_n 2, 1) := by decide +kernel
theorem dX8_readPerson_27 : decode cX8_readPerson 27 = .ok (.iload_n 3, 1) := by decide +kernel
theorem dX8_readPerson_28 : decode cX8_readPerson 28 = .ok (.bipush 112, 2) := by decide +kernel
theorem dX8_readPerson_30 : decode cX8_readPerson 30 = .ok (.if_icmp .ne 7, 3) := by decide +kernel
theorem dX8_readPerson_33 : decode cX8_readPerson 33 = .ok (.iconst 0, 1) := by decide +kernel
theorem dX8_readPerson_34 : decode cX8_readPerson 34 = .ok (.goto 25, 3) := by decide +kernel
theorem dX8_readPerson_37 : decode cX8_readPerson 37 = .ok (.iload_n 3, 1) := by decide +kernel
theorem dX8_readPerson_38 : decode cX8_readPerson 38 = .ok (.bipush 103, 2) := by decide +kernel
theorem dX8_readPerson_40 : decode cX8_readPerson 40 = .ok (.if_icmp .ne 7, 3) := by decide +kernel
theorem dX8_readPerson_43 : decode cX8_readPerson 43 = .ok (.iconst 1, 1) := by decide +kernel
theorem dX8_readPerson_44 : decode cX8_readPerson 44 = .ok (.goto 15, 3) := by decide +kernel
theorem dX8_readPerson_47 : decode cX8_readPerson 47 = .ok (.iload_n 3, 1) := by decide +kernel
theorem dX8_readPerson_48 : decode cX8_readPerson 48 = .ok (.bipush 116, 2) := by decide +kernel
theorem dX8_readPerson_50 : decode cX8_readPerson 50 = .ok (.if_icmp .ne 7, 3) := by decide +kernel
theorem dX8_readPerson_53 : decode cX8_readPerson 53 = .ok (.iconst 2, 1) := by decide +kernel
theorem dX8_readPerson_54 : decode cX8_readPerson 54 = .ok (.goto 5, 3) := by decide +kernel
theorem dX8_readPerson_57 : decode cX8_readPerson 57 = .ok (.bipush (-9), 2) := by decide +kernel
theorem dX8_readPerson_59 : decode cX8_readPerson 59 = .ok (.iastore, 1) := by decide +kernel
theorem dX8_readPerson_60 : decode cX8_readPerson 60 = .ok (.aload_n 0, 1) := by decide +kernel
theorem dX8_readPerson_61 : decode cX8_readPerson 61 = .ok (.getfield 31, 3) := by decide +kernel
theorem dX8_readPerson_64 : decode cX8_readPerson 64 = .ok (.iload_n 2, 1) := by decide +kernel
theorem dX8_readPerson_65 : decode cX8_readPerson 65 = .ok (.iaload, 1) := by decide +kernel
theorem dX8_readPerson_66 : decode cX8_readPerson 66 = .ok (.bipush (-9), 2) := by decide +kernel
theorem dX8_readPerson_68 : decode cX8_readPerson 68 = .ok (.if_icmp .ne 5, 3) := by decide +kernel
theorem dX8_readPerson_71 : decode cX8_readPerson 71 = .ok (.iconst 0, 1) := by decide +kernel
theorem dX8_readPerson_72 : decode cX8_readPerson 72 = .ok (.ireturn, 1) := by decide +kernel
theorem dX8_readPerson_73 : decode cX8_readPerson 73 = .ok (.aload_n 0, 1) := by decide +kernel
theorem dX8_readPerson_74 : decode cX8_readPerson 74 = .ok (.dup, 1) := by decide +kernel
theorem dX8_readPerson_75 : decode cX8_readPerson 75 = .ok (.getfield 100, 3) := by decide +kernel
theorem dX8_readPerson_78 : decode cX8_readPerson 78 = .ok (.iconst 1, 1) := by decide +kernel
theorem dX8_readPerson_79 : decode cX8_readPerson 79 = .ok (.iadd, 1) := by decide +kernel
theorem dX8_readPerson_80 : decode cX8_readPerson 80 = .ok (.putfield 100, 3) := by decide +kernel
theorem dX8_readPerson_83 : decode cX8_readPerson 83 = .ok (.aload_n 0, 1) := by decide +kernel
theorem dX8_readPerson_84 : decode cX8_readPerson 84 = .ok (.getfield 34, 3) := by decide +kernel
theorem dX8_readPerson_87 : decode cX8_readPerson 87 = .ok (.iload_n 2, 1) := by decide +kernel
theorem dX8_readPerson_88 : decode cX8_readPerson 88 = .ok (.aload_n 0, 1) := by decide +kernel
theorem dX8_readPerson_89 : decode cX8_readPerson 89 = .ok (.iload_n 1, 1) := by decide +kernel
theorem dX8_readPerson_90 : decode cX8_readPerson 90 = .ok (.iconst 0, 1) := by decide +kernel
theorem dX8_readPerson_91 : decode cX8_readPerson 91 = .ok (.bipush 9, 2) := by decide +kernel
theorem dX8_readPerson_93 : decode cX8_readPerson 93 = .ok (.invokevirtual 130, 3) := by decide +kernel
theorem dX8_readPerson_96 : decode cX8_readPerson 96 = .ok (.iastore, 1) := by decide +kernel
theorem dX8_readPerson_97 : decode cX8_readPerson 97 = .ok (.aload_n 0, 1) := by decide +kernel
theorem dX8_readPerson_98 : decode cX8_readPerson 98 = .ok (.getfield 34, 3) := by decide +kernel
theorem dX8_readPerson_101 : decode cX8_readPerson 101 = .ok (.iload_n 2, 1) := by decide +kernel
theorem dX8_readPerson_102 : decode cX8_readPerson 102 = .ok (.iaload, 1) := by decide +kernel
theorem dX8_readPerson_103 : decode cX8_readPerson 103 = .ok (.bipush (-9), 2) := by decide +kernel
theorem dX8_readPerson_105 : decode cX8_readPerson 105 = .ok (.if_icmp .ne 5, 3) := by decide +kernel
theorem dX8_readPerson_108 : decode cX8_readPerson 108 = .ok (.iconst 0, 1) := by decide +kernel
theorem dX8_readPerson_109 : decode cX8_readPerson 109 = .ok (.ireturn, 1) := by decide +kernel
theorem dX8_readPerson_110 : decode cX8_readPerson 110 = .ok (.aload_n 0, 1) := by decide +kernel
theorem dX8_readPerson_111 : decode cX8_readPerson 111 = .ok (.getfield 37, 3) := by decide +kernel
theorem dX8_readPerson_114 : decode cX8_readPerson 114 = .ok (.iload_n 2, 1) := by decide +kernel
theorem dX8_readPerson_115 : decode cX8_readPerson 115 = .ok (.aload_n 0, 1) := by decide +kernel
theorem dX8_readPerson_116 : decode cX8_readPerson 116 = .ok (.iload_n 1, 1) := by decide +kernel
theorem dX8_readPerson_117 : decode cX8_readPerson 117 = .ok (.iconst 0, 1) := by decide +kernel
theorem dX8_readPerson_118 : decode cX8_readPerson 118 = .ok (.iconst 3, 1) := by decide +kernel
theorem dX8_readPerson_119 : decode cX8_readPerson 119 = .ok (.invokevirtual 130, 3) := by decide +kernel
theorem dX8_readPerson_122 : decode cX8_readPerson 122 = .ok (.iastore, 1) := by decide +kernel
theorem dX8_readPerson_123 : decode cX8_readPerson 123 = .ok (.aload_n 0, 1) := by decide +kernel
theorem dX8_readPerson_124 : decode cX8_readPerson 124 = .ok (.getfield 37, 3) := by decide +kernel
theorem dX8_readPerson_127 : decode cX8_readPerson 127 = .ok (.iload_n 2, 1) := by decide +kernel
theorem dX8_readPerson_128 : decode cX8_readPerson 128 = .ok (.iaload, 1) := by decide +kernel
theorem dX8_readPerson_129 : decode cX8_readPerson 129 = .ok (.bipush (-9), 2) := by decide +kernel
theorem dX8_readPerson_131 : decode cX8_readPerson 131 = .ok (.if_icmp .ne 5, 3) := by decide +kernel
theorem dX8_readPerson_134 : decode cX8_readPerson 134 = .ok (.iconst 0, 1) := by decide +kernel
theorem dX8_readPerson_135 : decode cX8_readPerson 135 = .ok (.ireturn, 1) := by decide +kernel
theorem dX8_readPerson_136 : decode cX8_readPerson 136 = .ok (.aload_n 0, 1) := by decide +kernel
theorem dX8_readPerson_137 : decode cX8_readPerson 137 = .ok (.getfield 40, 3) := by decide +kernel
theorem dX8_readPerson_140 : decode cX8_readPerson 140 = .ok (.iload_n 2, 1) := by decide +kernel
theorem dX8_readPerson_141 : decode cX8_readPerson 141 = .ok (.aload_n 0, 1) := by decide +kernel
theorem dX8_readPerson_142 : decode cX8_readPerson 142 = .ok (.iload_n 1, 1) := by decide +kernel
theorem dX8_readPerson_143 : decode cX8_readPerson 143 = .ok (.iconst 0, 1) := by decide +kernel
theorem dX8_readPerson_144 : decode cX8_readPerson 144 = .ok (.iconst 3, 1) := by decide +kernel
theorem dX8_readPerson_145 : decode cX8_readPerson 145 = .ok (.invokevirtual 130, 3) := by decide +kernel
theorem dX8_readPerson_148 : decode cX8_readPerson 148 = .ok (.iastore, 1) := by decide +kernel
theorem dX8_readPerson_149 : decode cX8_readPerson 149 = .ok (.aload_n 0, 1) := by decide +kernel
theorem dX8_readPerson_150 : decode cX8_readPerson 150 = .ok (.getfield 40, 3) := by decide +kernel
theorem dX8_readPerson_153 : decode cX8_readPerson 153 = .ok (.iload_n 2, 1) := by decide +kernel
theorem dX8_readPerson_154 : decode cX8_readPerson 154 = .ok (.iaload, 1) := by decide +kernel
theorem dX8_readPerson_155 : decode cX8_readPerson 155 = .ok (.bipush (-9), 2) := by decide +kernel
theorem dX8_readPerson_157 : decode cX8_readPerson 157 = .ok (.if_icmp .eq 7, 3) := by decide +kernel
theorem dX8_readPerson_160 : decode cX8_readPerson 160 = .ok (.iconst 1, 1) := by decide +kernel
theorem dX8_readPerson_161 : decode cX8_readPerson 161 = .ok (.goto 4, 3) := by decide +kernel
theorem dX8_readPerson_164 : decode cX8_readPerson 164 = .ok (.iconst 0, 1) := by decide +kernel
theorem dX8_readPerson_165 : decode cX8_readPerson 165 = .ok (.ireturn, 1) := by decide +kernel
theorem dX8_ofPerson_0 : decode cX8_ofPerson 0 = .ok (.aload_n 0, 1) := by decide +kernel
theorem dX8_ofPerson_1 : decode cX8_ofPerson 1 = .ok (.iload_n 1, 1) := by decide +kernel
theorem dX8_ofPerson_2 : decode cX8_ofPerson 2 = .ok (.invokevirtual 138, 3) := by decide +kernel
theorem dX8_ofPerson_5 : decode cX8_ofPerson 5 = .ok (.ifCond .ne 5, 3) := by decide +kernel
theorem dX8_ofPerson_8 : decode cX8_ofPerson 8 = .ok (.iconst (-1), 1) := by decide +kernel
theorem dX8_ofPerson_9 : decode cX8_ofPerson 9 = .ok (.ireturn, 1) := by decide +kernel
theorem dX8_ofPerson_10 : decode cX8_ofPerson 10 = .ok (.iload_n 2, 1) := by decide +kernel
theorem dX8_ofPerson_11 : decode cX8_ofPerson 11 = .ok (.ifCond .ne 12, 3) := by decide +kernel
theorem dX8_ofPerson_14 : decode cX8_ofPerson 14 = .ok (.aload_n 0, 1) := by decide +kernel
theorem dX8_ofPerson_15 : decode cX8_ofPerson 15 = .ok (.getfield 19, 3) := by decide +kernel
theorem dX8_ofPerson_18 : decode cX8_ofPerson 18 = .ok (.iload_n 1, 1) := by decide +kernel
theorem dX8_ofPerson_19 : decode cX8_ofPerson 19 = .ok (.iaload, 1) := by decide +kernel
theorem dX8_ofPerson_20 : decode cX8_ofPerson 20 = .ok (.goto 47, 3) := by decide +kernel
theorem dX8_ofPerson_23 : decode cX8_ofPerson 23 = .ok (.iload_n 2, 1) := by decide +kernel
theorem dX8_ofPerson_24 : decode cX8_ofPerson 24 = .ok (.iconst 1, 1) := by decide +kernel
theorem dX8_ofPerson_25 : decode cX8_ofPerson 25 = .ok (.if_icmp .ne 12, 3) := by decide +kernel
theorem dX8_ofPerson_28 : decode cX8_ofPerson 28 = .ok (.aload_n 0, 1) := by decide +kernel
theorem dX8_ofPerson_29 : decode cX8_ofPerson 29 = .ok (.getfield 22, 3) := by decide +kernel
theorem dX8_ofPerson_32 : decode cX8_ofPerson 32 = .ok (.iload_n 1, 1) := by decide +kernel
theorem dX8_ofPerson_33 : decode cX8_ofPerson 33 = .ok (.iaload, 1) := by decide +kernel
theorem dX8_ofPerson_34 : decode cX8_ofPerson 34 = .ok (.goto 33, 3) := by decide +kernel
theorem dX8_ofPerson_37 : decode cX8_ofPerson 37 = .ok (.iload_n 2, 1) := by decide +kernel
theorem dX8_ofPerson_38 : decode cX8_ofPerson 38 = .ok (.iconst 2, 1) := by decide +kernel
theorem dX8_ofPerson_39 : decode cX8_ofPerson 39 = .ok (.if_icmp .ne 12, 3) := by decide +kernel
theorem dX8_ofPerson_42 : decode cX8_ofPerson 42 = .ok (.aload_n 0, 1) := by decide +kernel
theorem dX8_ofPerson_43 : decode cX8_ofPerson 43 = .ok (.getfield 25, 3) := by decide +kernel
theorem dX8_ofPerson_46 : decode cX8_ofPerson 46 = .ok (.iload_n 1, 1) := by decide +kernel
theorem dX8_ofPerson_47 : decode cX8_ofPerson 47 = .ok (.iaload, 1) := by decide +kernel
theorem dX8_ofPerson_48 : decode cX8_ofPerson 48 = .ok (.goto 19, 3) := by decide +kernel
theorem dX8_ofPerson_51 : decode cX8_ofPerson 51 = .ok (.iload_n 2, 1) := by decide +kernel
theorem dX8_ofPerson_52 : decode cX8_ofPerson 52 = .ok (.iconst 3, 1) := by decide +kernel
theorem dX8_ofPerson_53 : decode cX8_ofPerson 53 = .ok (.if_icmp .ne 12, 3) := by decide +kernel
theorem dX8_ofPerson_56 : decode cX8_ofPerson 56 = .ok (.aload_n 0, 1) := by decide +kernel
theorem dX8_ofPerson_57 : decode cX8_ofPerson 57 = .ok (.getfield 28, 3) := by decide +kernel
theorem dX8_ofPerson_60 : decode cX8_ofPerson 60 = .ok (.iload_n 1, 1) := by decide +kernel
theorem dX8_ofPerson_61 : decode cX8_ofPerson 61 = .ok (.iaload, 1) := by decide +kernel
theorem dX8_ofPerson_62 : decode cX8_ofPerson 62 = .ok (.goto 5, 3) := by decide +kernel
theorem dX8_ofPerson_65 : decode cX8_ofPerson 65 = .ok (.bipush (-2), 2) := by decide +kernel
theorem dX8_ofPerson_67 : decode cX8_ofPerson 67 = .ok (.ireturn, 1) := by decide +kernel
theorem dX8_grudge_0 : decode cX8_grudge 0 = .ok (.aload_n 0, 1) := by decide +kernel
theorem dX8_grudge_1 : decode cX8_grudge 1 = .ok (.iload_n 1, 1) := by decide +kernel
theorem dX8_grudge_2 : decode cX8_grudge 2 = .ok (.invokevirtual 141, 3) := by decide +kernel
theorem dX8_grudge_5 : decode cX8_grudge 5 = .ok (.ifCond .ne 5, 3) := by decide +kernel
theorem dX8_grudge_8 : decode cX8_grudge 8 = .ok (.iconst (-1), 1) := by decide +kernel
theorem dX8_grudge_9 : decode cX8_grudge 9 = .ok (.ireturn, 1) := by decide +kernel
theorem dX8_grudge_10 : decode cX8_grudge 10 = .ok (.aload_n 0, 1) := by decide +kernel
theorem dX8_grudge_11 : decode cX8_grudge 11 = .ok (.iload_n 1, 1) := by decide +kernel
theorem dX8_grudge_12 : decode cX8_grudge 12 = .ok (.invokevirtual 144, 3) := by decide +kernel
theorem dX8_grudge_15 : decode cX8_grudge 15 = .ok (.iload_n 2, 1) := by decide +kernel
theorem dX8_grudge_16 : decode cX8_grudge 16 = .ok (.if_icmp .eq 5, 3) := by decide +kernel
theorem dX8_grudge_19 : decode cX8_grudge 19 = .ok (.iconst 0, 1) := by decide +kernel
theorem dX8_grudge_20 : decode cX8_grudge 20 = .ok (.ireturn, 1) := by decide +kernel
theorem dX8_grudge_21 : decode cX8_grudge 21 = .ok (.aload_n 0, 1) := by decide +kernel
theorem dX8_grudge_22 : decode cX8_grudge 22 = .ok (.dup, 1) := by decide +kernel
theorem dX8_grudge_23 : decode cX8_grudge 23 = .ok (.getfield 97, 3) := by decide +kernel
theorem dX8_grudge_26 : decode cX8_grudge 26 = .ok (.iconst 1, 1) := by decide +kernel
theorem dX8_grudge_27 : decode cX8_grudge 27 = .ok (.iload_n 1, 1) := by decide +kernel
theorem dX8_grudge_28 : decode cX8_grudge 28 = .ok (.ishl, 1) := by decide +kernel
theorem dX8_grudge_29 : decode cX8_grudge 29 = .ok (.ixor, 1) := by decide +kernel
theorem dX8_grudge_30 : decode cX8_grudge 30 = .ok (.putfield 97, 3) := by decide +kernel
theorem dX8_grudge_33 : decode cX8_grudge 33 = .ok (.iconst 1, 1) := by decide +kernel
theorem dX8_grudge_34 : decode cX8_grudge 34 = .ok (.ireturn, 1) := by decide +kernel
theorem dX8_hand_0 : decode cX8_hand 0 = .ok (.aload_n 0, 1) := by decide +kernel
theorem dX8_hand_1 : decode cX8_hand 1 = .ok (.iload_n 1, 1) := by decide +kernel
theorem dX8_hand_2 : decode cX8_hand 2 = .ok (.invokevirtual 141, 3) := by decide +kernel
theorem dX8_hand_5 : decode cX8_hand 5 = .ok (.ifCond .ne 5, 3) := by decide +kernel
theorem dX8_hand_8 : decode cX8_hand 8 = .ok (.iconst (-1), 1) := by decide +kernel
theorem dX8_hand_9 : decode cX8_hand 9 = .ok (.ireturn, 1) := by decide +kernel
theorem dX8_hand_10 : decode cX8_hand 10 = .ok (.aload_n 0, 1) := by decide +kernel
theorem dX8_hand_11 : decode cX8_hand 11 = .ok (.iload_n 1, 1) := by decide +kernel
theorem dX8_hand_12 : decode cX8_hand 12 = .ok (.invokevirtual 144, 3) := by decide +kernel
theorem dX8_hand_15 : decode cX8_hand 15 = .ok (.ifCond .ne 6, 3) := by decide +kernel
theorem dX8_hand_18 : decode cX8_hand 18 = .ok (.bipush (-3), 2) := by decide +kernel
theorem dX8_hand_20 : decode cX8_hand 20 = .ok (.ireturn, 1) := by decide +kernel
theorem dX8_hand_21 : decode cX8_hand 21 = .ok (.aload_n 0, 1) := by decide +kernel
theorem dX8_hand_22 : decode cX8_hand 22 = .ok (.getfield 25, 3) := by decide +kernel
theorem dX8_hand_25 : decode cX8_hand 25 = .ok (.iload_n 1, 1) := by decide +kernel
theorem dX8_hand_26 : decode cX8_hand 26 = .ok (.iaload, 1) := by decide +kernel
theorem dX8_hand_27 : decode cX8_hand 27 = .ok (.istore_n 2, 1) := by decide +kernel
theorem dX8_hand_28 : decode cX8_hand 28 = .ok (.aload_n 0, 1) := by decide +kernel
theorem dX8_hand_29 : decode cX8_hand 29 = .ok (.getfield 25, 3) := by decide +kernel
theorem dX8_hand_32 : decode cX8_hand 32 = .ok (.iload_n 1, 1) := by decide +kernel
theorem dX8_hand_33 : decode cX8_hand 33 = .ok (.aload_n 0, 1) := by decide +kernel
theorem dX8_hand_34 : decode cX8_hand 34 = .ok (.getfield 25, 3) := by decide +kernel
theorem dX8_hand_37 : decode cX8_hand 37 = .ok (.aload_n 0, 1) := by decide +kernel
theorem dX8_hand_38 : decode cX8_hand 38 = .ok (.iload_n 1, 1) := by decide +kernel
theorem dX8_hand_39 : decode cX8_hand 39 = .ok (.invokevirtual 147, 3) := by decide +kernel
theorem dX8_hand_42 : decode cX8_hand 42 = .ok (.iaload, 1) := by decide +kernel
theorem dX8_hand_43 : decode cX8_hand 43 = .ok (.iastore, 1) := by decide +kernel
theorem dX8_hand_44 : decode cX8_hand 44 = .ok (.aload_n 0, 1) := by decide +kernel
theorem dX8_hand_45 : decode cX8_hand 45 = .ok (.getfield 25, 3) := by decide +kernel
theorem dX8_hand_48 : decode cX8_hand 48 = .ok (.aload_n 0, 1) := by decide +kernel
theorem dX8_hand_49 : decode cX8_hand 49 = .ok (.iload_n 1, 1) := by decide +kernel
theorem dX8_hand_50 : decode cX8_hand 50 = .ok (.invokevirtual 147, 3) := by decide +kernel
theorem dX8_hand_53 : decode cX8_hand 53 = .ok (.iload_n 2, 1) := by decide +kernel
theorem dX8_hand_54 : decode cX8_hand 54 = .ok (.iastore, 1) := by decide +kernel
theorem dX8_hand_55 : decode cX8_hand 55 = .ok (.iconst 1, 1) := by decide +kernel
theorem dX8_hand_56 : decode cX8_hand 56 = .ok (.ireturn, 1) := by decide +kernel
theorem dX8_wish_0 : decode cX8_wish 0 = .ok (.aload_n 0, 1) := by decide +kernel
theorem dX8_wish_1 : decode cX8_wish 1 = .ok (.iload_n 1, 1) := by decide +kernel
theorem dX8_wish_2 : decode cX8_wish 2 = .ok (.invokevirtual 138, 3) := by decide +kernel
theorem dX8_wish_5 : decode cX8_wish 5 = .ok (.ifCond .ne 5, 3) := by decide +kernel
theorem dX8_wish_8 : decode cX8_wish 8 = .ok (.iconst (-1), 1) := by decide +kernel
theorem dX8_wish_9 : decode cX8_wish 9 = .ok (.ireturn, 1) := by decide +kernel
theorem dX8_wish_10 : decode cX8_wish 10 = .ok (.iload_n 2, 1) := by decide +kernel
theorem dX8_wish_11 : decode cX8_wish 11 = .ok (.iconst 0, 1) := by decide +kernel
theorem dX8_wish_12 : decode cX8_wish 12 = .ok (.iconst 3, 1) := by decide +kernel
theorem dX8_wish_13 : decode cX8_wish 13 = .ok (.invokestatic 82, 3) := by decide +kernel
theorem dX8_wish_16 : decode cX8_wish 16 = .ok (.ifCond .ne 6, 3) := by decide +kernel
theorem dX8_wish_19 : decode cX8_wish 19 = .ok (.bipush (-2), 2) := by decide +kernel
theorem dX8_wish_21 : decode cX8_wish 21 = .ok (.ireturn, 1) := by decide +kernel
theorem dX8_wish_22 : decode cX8_wish 22 = .ok (.aload_n 0, 1) := by decide +kernel
theorem dX8_wish_23 : decode cX8_wish 23 = .ok (.getfield 28, 3) := by decide +kernel
theorem dX8_wish_26 : decode cX8_wish 26 = .ok (.iload_n 1, 1) := by decide +kernel
theorem dX8_wish_27 : decode cX8_wish 27 = .ok (.iaload, 1) := by decide +kernel
theorem dX8_wish_28 : decode cX8_wish 28 = .ok (.istore_n 3, 1) := by decide +kernel
theorem dX8_wish_29 : decode cX8_wish 29 = .ok (.aload_n 0, 1) := by decide +kernel
theorem dX8_wish_30 : decode cX8_wish 30 = .ok (.getfield 28, 3) := by decide +kernel
theorem dX8_wish_33 : decode cX8_wish 33 = .ok (.iload_n 1, 1) := by decide +kernel
theorem dX8_wish_34 : decode cX8_wish 34 = .ok (.iload_n 2, 1) := by decide +kernel
theorem dX8_wish_35 : decode cX8_wish 35 = .ok (.iastore, 1) := by decide +kernel
theorem dX8_wish_36 : decode cX8_wish 36 = .ok (.iload_n 3, 1) := by decide +kernel
theorem dX8_wish_37 : decode cX8_wish 37 = .ok (.ireturn, 1) := by decide +kernel
theorem dX8_altered_0 : decode cX8_altered 0 = .ok (.aload_n 0, 1) := by decide +kernel
theorem dX8_altered_1 : decode cX8_altered 1 = .ok (.getfield 19, 3) := by decide +kernel
theorem dX8_altered_4 : decode cX8_altered 4 = .ok (.iload_n 1, 1) := by decide +kernel
theorem dX8_altered_5 : decode cX8_altered 5 = .ok (.iaload, 1) := by decide +kernel
theorem dX8_altered_6 : decode cX8_altered 6 = .ok (.ifCond .ne 5, 3) := by decide +kernel
theorem dX8_altered_9 : decode cX8_altered 9 = .ok (.iload_n 2, 1) := by decide +kernel
theorem dX8_altered_10 : decode cX8_altered 10 = .ok (.ireturn, 1) := by decide +kernel
theorem dX8_altered_11 : decode cX8_altered 11 = .ok (.iload_n 2, 1) := by decide +kernel
theorem dX8_altered_12 : decode cX8_altered 12 = .ok (.aload_n 0, 1) := by decide +kernel
theorem dX8_altered_13 : decode cX8_altered 13 = .ok (.getfield 22, 3) := by decide +kernel
theorem dX8_altered_16 : decode cX8_altered 16 = .ok (.iload_n 1, 1) := by decide +kernel
theorem dX8_altered_17 : decode cX8_altered 17 = .ok (.iaload, 1) := by decide +kernel
theorem dX8_altered_18 : decode cX8_altered 18 = .ok (.iadd, 1) := by decide +kernel
theorem dX8_altered_19 : decode cX8_altered 19 = .ok (.bipush 100, 2) := by decide +kernel
theorem dX8_altered_21 : decode cX8_altered 21 = .ok (.irem, 1) := by decide +kernel
theorem dX8_altered_22 : decode cX8_altered 22 = .ok (.istore_n 3, 1) := by decide +kernel
theorem dX8_altered_23 : decode cX8_altered 23 = .ok (.aload_n 0, 1) := by decide +kernel
theorem dX8_altered_24 : decode cX8_altered 24 = .ok (.getfield 19, 3) := by decide +kernel
theorem dX8_altered_27 : decode cX8_altered 27 = .ok (.iload_n 1, 1) := by decide +kernel
theorem dX8_altered_28 : decode cX8_altered 28 = .ok (.iaload, 1) := by decide +kernel
theorem dX8_altered_29 : decode cX8_altered 29 = .ok (.iconst 1, 1) := by decide +kernel
theorem dX8_altered_30 : decode cX8_altered 30 = .ok (.if_icmp .ne 7, 3) := by decide +kernel
theorem dX8_altered_33 : decode cX8_altered 33 = .ok (.iload_n 3, 1) := by decide +kernel
theorem dX8_altered_34 : decode cX8_altered 34 = .ok (.goto 9, 3) := by decide +kernel
theorem dX8_altered_37 : decode cX8_altered 37 = .ok (.iconst 2, 1) := by decide +kernel
theorem dX8_altered_38 : decode cX8_altered 38 = .ok (.iload_n 3, 1) := by decide +kernel
theorem dX8_altered_39 : decode cX8_altered 39 = .ok (.imul, 1) := by decide +kernel
theorem dX8_altered_40 : decode cX8_altered 40 = .ok (.bipush 100, 2) := by decide +kernel
theorem dX8_altered_42 : decode cX8_altered 42 = .ok (.irem, 1) := by decide +kernel
theorem dX8_altered_43 : decode cX8_altered 43 = .ok (.ireturn, 1) := by decide +kernel
theorem dX8_pass_0 : decode cX8_pass 0 = .ok (.aload_n 0, 1) := by decide +kernel
theorem dX8_pass_1 : decode cX8_pass 1 = .ok (.getfield 46, 3) := by decide +kernel
theorem dX8_pass_4 : decode cX8_pass 4 = .ok (.iload_n 1, 1) := by decide +kernel
theorem dX8_pass_5 : decode cX8_pass 5 = .ok (.iaload, 1) := by decide +kernel
theorem dX8_pass_6 : decode cX8_pass 6 = .ok (.iload_n 3, 1) := by decide +kernel
theorem dX8_pass_7 : decode cX8_pass 7 = .ok (.iconst 1, 1) := by decide +kernel
theorem dX8_pass_8 : decode cX8_pass 8 = .ok (.isub, 1) := by decide +kernel
theorem dX8_pass_9 : decode cX8_pass 9 = .ok (.if_icmp .ne 53, 3) := by decide +kernel
theorem dX8_pass_12 : decode cX8_pass 12 = .ok (.aload_n 0, 1) := by decide +kernel
theorem dX8_pass_13 : decode cX8_pass 13 = .ok (.getfield 46, 3) := by decide +kernel
theorem dX8_pass_16 : decode cX8_pass 16 = .ok (.iload_n 2, 1) := by decide +kernel
theorem dX8_pass_17 : decode cX8_pass 17 = .ok (.iaload, 1) := by decide +kernel
theorem dX8_pass_18 : decode cX8_pass 18 = .ok (.bipush (-9), 2) := by decide +kernel
theorem dX8_pass_20 : decode cX8_pass 20 = .ok (.if_icmp .ne 42, 3) := by decide +kernel
theorem dX8_pass_23 : decode cX8_pass 23 = .ok (.aload_n 0, 1) := by decide +kernel
theorem dX8_pass_24 : decode cX8_pass 24 = .ok (.getfield 46, 3) := by decide +kernel
theorem dX8_pass_27 : decode cX8_pass 27 = .ok (.iload_n 2, 1) := by decide +kernel
theorem dX8_pass_28 : decode cX8_pass 28 = .ok (.iload_n 3, 1) := by decide +kernel
theorem dX8_pass_29 : decode cX8_pass 29 = .ok (.iastore, 1) := by decide +kernel
theorem dX8_pass_30 : decode cX8_pass 30 = .ok (.aload_n 0, 1) := by decide +kernel
theorem dX8_pass_31 : decode cX8_pass 31 = .ok (.getfield 43, 3) := by decide +kernel
theorem dX8_pass_34 : decode cX8_pass 34 = .ok (.iload_n 2, 1) := by decide +kernel
theorem dX8_pass_35 : decode cX8_pass 35 = .ok (.iload_n 1, 1) := by decide +kernel
theorem dX8_pass_36 : decode cX8_pass 36 = .ok (.iload 4, 2) := by decide +kernel
theorem dX8_pass_38 : decode cX8_pass 38 = .ok (.if_icmp .ne 12, 3) := by decide +kernel
theorem dX8_pass_41 : decode cX8_pass 41 = .ok (.aload_n 0, 1) := by decide +kernel
theorem dX8_pass_42 : decode cX8_pass 42 = .ok (.getfield 43, 3) := by decide +kernel
theorem dX8_pass_45 : decode cX8_pass 45 = .ok (.iload_n 1, 1) := by decide +kernel
theorem dX8_pass_46 : decode cX8_pass 46 = .ok (.iaload, 1) := by decide +kernel
theorem dX8_pass_47 : decode cX8_pass 47 = .ok (.goto 14, 3) := by decide +kernel
theorem dX8_pass_50 : decode cX8_pass 50 = .ok (.aload_n 0, 1) := by decide +kernel
theorem dX8_pass_51 : decode cX8_pass 51 = .ok (.iload_n 1, 1) := by decide +kernel
theorem dX8_pass_52 : decode cX8_pass 52 = .ok (.aload_n 0, 1) := by decide +kernel
theorem dX8_pass_53 : decode cX8_pass 53 = .ok (.getfield 43, 3) := by decide +kernel
theorem dX8_pass_56 : decode cX8_pass 56 = .ok (.iload_n 1, 1) := by decide +kernel
theorem dX8_pass_57 : decode cX8_pass 57 = .ok (.iaload, 1) := by decide +kernel
theorem dX8_pass_58 : decode cX8_pass 58 = .ok (.invokevirtual 150, 3) := by decide +kernel
theorem dX8_pass_61 : decode cX8_pass 61 = .ok (.iastore, 1) := by decide +kernel
theorem dX8_pass_62 : decode cX8_pass 62 = .ok (.return_, 1) := by decide +kernel
theorem dX8_isBeside_0 : decode cX8_isBeside 0 = .ok (.iconst 0, 1) := by decide +kernel
theorem dX8_isBeside_1 : decode cX8_isBeside 1 = .ok (.istore_n 3, 1) := by decide +kernel
theorem dX8_isBeside_2 : decode cX8_isBeside 2 = .ok (.iload_n 3, 1) := by decide +kernel
theorem dX8_isBeside_3 : decode cX8_isBeside 3 = .ok (.aload_n 0, 1) := by decide +kernel
theorem dX8_isBeside_4 : decode cX8_isBeside 4 = .ok (.invokevirtual 93, 3) := by decide +kernel
theorem dX8_isBeside_7 : decode cX8_isBeside 7 = .ok (.if_icmp .ge 59, 3) := by decide +kernel
theorem dX8_isBeside_10 : decode cX8_isBeside 10 = .ok (.iload_n 3, 1) := by decide +kernel
theorem dX8_isBeside_11 : decode cX8_isBeside 11 = .ok (.iload_n 1, 1) := by decide +kernel
theorem dX8_isBeside_12 : decode cX8_isBeside 12 = .ok (.if_icmp .ne 12, 3) := by decide +kernel
theorem dX8_isBeside_15 : decode cX8_isBeside 15 = .ok (.aload_n 0, 1) := by decide +kernel
theorem dX8_isBeside_16 : decode cX8_isBeside 16 = .ok (.iload_n 3, 1) := by decide +kernel
theorem dX8_isBeside_17 : decode cX8_isBeside 17 = .ok (.invokevirtual 147, 3) := by decide +kernel
theorem dX8_isBeside_20 : decode cX8_isBeside 20 = .ok (.iload_n 2, 1) := by decide +kernel
theorem dX8_isBeside_21 : decode cX8_isBeside 21 = .ok (.if_icmp .eq 17, 3) := by decide +kernel
theorem dX8_isBeside_24 : decode cX8_isBeside 24 = .ok (.iload_n 3, 1) := by decide +kernel
theorem dX8_isBeside_25 : decode cX8_isBeside 25 = .ok (.iload_n 2, 1) := by decide +kernel
theorem dX8_isBeside_26 : decode cX8_isBeside 26 = .ok (.if_icmp .ne 16, 3) := by decide +kernel
theorem dX8_isBeside_29 : decode cX8_isBeside 29 = .ok (.aload_n 0, 1) := by decide +kernel
theorem dX8_isBeside_30 : decode cX8_isBeside 30 = .ok (.iload_n 3, 1) := by decide +kernel
theorem dX8_isBeside_31 : decode cX8_isBeside 31 = .ok (.invokevirtual 147, 3) := by decide +kernel
theorem dX8_isBeside_34 : decode cX8_isBeside 34 = .ok (.iload_n 1, 1) := by decide +kernel
theorem dX8_isBeside_35 : decode cX8_isBeside 35 = .ok (.if_icmp .ne 7, 3) := by decide +kernel
theorem dX8_isBeside_38 : decode cX8_isBeside 38 = .ok (.iconst 1, 1) := by decide +kernel
theorem dX8_isBeside_39 : decode cX8_isBeside 39 = .ok (.goto 4, 3) := by decide +kernel
theorem dX8_isBeside_42 : decode cX8_isBeside 42 = .ok (.iconst 0, 1) := by decide +kernel
theorem dX8_isBeside_43 : decode cX8_isBeside 43 = .ok (.istore 4, 2) := by decide +kernel
theorem dX8_isBeside_45 : decode cX8_isBeside 45 = .ok (.iload 4, 2) := by decide +kernel
theorem dX8_isBeside_47 : decode cX8_isBeside 47 = .ok (.ifCond .eq 13, 3) := by decide +kernel
theorem dX8_isBeside_50 : decode cX8_isBeside 50 = .ok (.aload_n 0, 1) := by decide +kernel
theorem dX8_isBeside_51 : decode cX8_isBeside 51 = .ok (.iload_n 3, 1) := by decide +kernel
theorem dX8_isBeside_52 : decode cX8_isBeside 52 = .ok (.invokevirtual 144, 3) := by decide +kernel
theorem dX8_isBeside_55 : decode cX8_isBeside 55 = .ok (.ifCond .eq 5, 3) := by decide +kernel
theorem dX8_isBeside_58 : decode cX8_isBeside 58 = .ok (.iconst 1, 1) := by decide +kernel
theorem dX8_isBeside_59 : decode cX8_isBeside 59 = .ok (.ireturn, 1) := by decide +kernel
theorem dX8_isBeside_60 : decode cX8_isBeside 60 = .ok (.iinc 3 1, 3) := by decide +kernel
theorem dX8_isBeside_63 : decode cX8_isBeside 63 = .ok (.goto (-61), 3) := by decide +kernel
theorem dX8_isBeside_66 : decode cX8_isBeside 66 = .ok (.iconst 0, 1) := by decide +kernel
theorem dX8_isBeside_67 : decode cX8_isBeside 67 = .ok (.ireturn, 1) := by decide +kernel
theorem dX8_spread_0 : decode cX8_spread 0 = .ok (.iconst 0, 1) := by decide +kernel
theorem dX8_spread_1 : decode cX8_spread 1 = .ok (.istore_n 3, 1) := by decide +kernel
theorem dX8_spread_2 : decode cX8_spread 2 = .ok (.iload_n 3, 1) := by decide +kernel
theorem dX8_spread_3 : decode cX8_spread 3 = .ok (.aload_n 0, 1) := by decide +kernel
theorem dX8_spread_4 : decode cX8_spread 4 = .ok (.getfield 86, 3) := by decide +kernel
theorem dX8_spread_7 : decode cX8_spread 7 = .ok (.if_icmp .ge 17, 3) := by decide +kernel
theorem dX8_spread_10 : decode cX8_spread 10 = .ok (.aload_n 0, 1) := by decide +kernel
theorem dX8_spread_11 : decode cX8_spread 11 = .ok (.getfield 46, 3) := by decide +kernel
theorem dX8_spread_14 : decode cX8_spread 14 = .ok (.iload_n 3, 1) := by decide +kernel
theorem dX8_spread_15 : decode cX8_spread 15 = .ok (.bipush (-9), 2) := by decide +kernel
theorem dX8_spread_17 : decode cX8_spread 17 = .ok (.iastore, 1) := by decide +kernel
theorem dX8_spread_18 : decode cX8_spread 18 = .ok (.iinc 3 1, 3) := by decide +kernel
theorem dX8_spread_21 : decode cX8_spread 21 = .ok (.goto (-19), 3) := by decide +kernel
theorem dX8_spread_24 : decode cX8_spread 24 = .ok (.aload_n 0, 1) := by decide +kernel
theorem dX8_spread_25 : decode cX8_spread 25 = .ok (.getfield 46, 3) := by decide +kernel
theorem dX8_spread_28 : decode cX8_spread 28 = .ok (.iload_n 1, 1) := by decide +kernel
theorem dX8_spread_29 : decode cX8_spread 29 = .ok (.iconst 0, 1) := by decide +kernel
theorem dX8_spread_30 : decode cX8_spread 30 = .ok (.iastore, 1) := by decide +kernel
theorem dX8_spread_31 : decode cX8_spread 31 = .ok (.aload_n 0, 1) := by decide +kernel
theorem dX8_spread_32 : decode cX8_spread 32 = .ok (.getfield 43, 3) := by decide +kernel
theorem dX8_spread_35 : decode cX8_spread 35 = .ok (.iload_n 1, 1) := by decide +kernel
theorem dX8_spread_36 : decode cX8_spread 36 = .ok (.iload_n 2, 1) := by decide +kernel
theorem dX8_spread_37 : decode cX8_spread 37 = .ok (.iastore, 1) := by decide +kernel
theorem dX8_spread_38 : decode cX8_spread 38 = .ok (.iconst 1, 1) := by decide +kernel
theorem dX8_spread_39 : decode cX8_spread 39 = .ok (.istore_n 3, 1) := by decide +kernel
theorem dX8_spread_40 : decode cX8_spread 40 = .ok (.iload_n 3, 1) := by decide +kernel
theorem dX8_spread_41 : decode cX8_spread 41 = .ok (.aload_n 0, 1) := by decide +kernel
theorem dX8_spread_42 : decode cX8_spread 42 = .ok (.getfield 86, 3) := by decide +kernel
theorem dX8_spread_45 : decode cX8_spread 45 = .ok (.if_icmp .ge 66, 3) := by decide +kernel
theorem dX8_spread_48 : decode cX8_spread 48 = .ok (.iconst 0, 1) := by decide +kernel
theorem dX8_spread_49 : decode cX8_spread 49 = .ok (.istore 4, 2) := by decide +kernel
theorem dX8_spread_51 : decode cX8_spread 51 = .ok (.iload 4, 2) := by decide +kernel
theorem dX8_spread_53 : decode cX8_spread 53 = .ok (.aload_n 0, 1) := by decide +kernel
theorem dX8_spread_54 : decode cX8_spread 54 = .ok (.getfield 86, 3) := by decide +kernel
theorem dX8_spread_57 : decode cX8_spread 57 = .ok (.if_icmp .ge 48, 3) := by decide +kernel
theorem dX8_spread_60 : decode cX8_spread 60 = .ok (.iconst 0, 1) := by decide +kernel
theorem dX8_spread_61 : decode cX8_spread 61 = .ok (.istore 5, 2) := by decide +kernel
theorem dX8_spread_63 : decode cX8_spread 63 = .ok (.iload 5, 2) := by decide +kernel
theorem dX8_spread_65 : decode cX8_spread 65 = .ok (.aload_n 0, 1) := by decide +kernel
theorem dX8_spread_66 : decode cX8_spread 66 = .ok (.getfield 86, 3) := by decide +kernel
theorem dX8_spread_69 : decode cX8_spread 69 = .ok (.if_icmp .ge 30, 3) := by decide +kernel
theorem dX8_spread_72 : decode cX8_spread 72 = .ok (.aload_n 0, 1) := by decide +kernel
theorem dX8_spread_73 : decode cX8_spread 73 = .ok (.iload 4, 2) := by decide +kernel
theorem dX8_spread_75 : decode cX8_spread 75 = .ok (.iload 5, 2) := by decide +kernel
theorem dX8_spread_77 : decode cX8_spread 77 = .ok (.invokevirtual 154, 3) := by decide +kernel
theorem dX8_spread_80 : decode cX8_spread 80 = .ok (.ifCond .eq 13, 3) := by decide +kernel
theorem dX8_spread_83 : decode cX8_spread 83 = .ok (.aload_n 0, 1) := by decide +kernel
theorem dX8_spread_84 : decode cX8_spread 84 = .ok (.iload 4, 2) := by decide +kernel
theorem dX8_spread_86 : decode cX8_spread 86 = .ok (.iload 5, 2) := by decide +kernel
theorem dX8_spread_88 : decode cX8_spread 88 = .ok (.iload_n 3, 1) := by decide +kernel
theorem dX8_spread_89 : decode cX8_spread 89 = .ok (.iload_n 1, 1) := by decide +kernel
theorem dX8_spread_90 : decode cX8_spread 90 = .ok (.invokevirtual 157, 3) := by decide +kernel
theorem dX8_spread_93 : decode cX8_spread 93 = .ok (.iinc 5 1, 3) := by decide +kernel
theorem dX8_spread_96 : decode cX8_spread 96 = .ok (.goto (-33), 3) := by decide +kernel
theorem dX8_spread_99 : decode cX8_spread 99 = .ok (.iinc 4 1, 3) := by decide +kernel
theorem dX8_spread_102 : decode cX8_spread 102 = .ok (.goto (-51), 3) := by decide +kernel
theorem dX8_spread_105 : decode cX8_spread 105 = .ok (.iinc 3 1, 3) := by decide +kernel
theorem dX8_spread_108 : decode cX8_spread 108 = .ok (.goto (-68), 3) := by decide +kernel
theorem dX8_spread_111 : decode cX8_spread 111 = .ok (.return_, 1) := by decide +kernel
theorem dX8_isNumber_0 : decode cX8_isNumber 0 = .ok (.iload_n 0, 1) := by decide +kernel
theorem dX8_isNumber_1 : decode cX8_isNumber 1 = .ok (.iconst 0, 1) := by decide +kernel
theorem dX8_isNumber_2 : decode cX8_isNumber 2 = .ok (.bipush 99, 2) := by decide +kernel
theorem dX8_isNumber_4 : decode cX8_isNumber 4 = .ok (.invokestatic 82, 3) := by decide +kernel
theorem dX8_isNumber_7 : decode cX8_isNumber 7 = .ok (.ireturn, 1) := by decide +kernel
theorem dX8_news_0 : decode cX8_news 0 = .ok (.aload_n 0, 1) := by decide +kernel
theorem dX8_news_1 : decode cX8_news 1 = .ok (.iload_n 1, 1) := by decide +kernel
theorem dX8_news_2 : decode cX8_news 2 = .ok (.invokevirtual 138, 3) := by decide +kernel
theorem dX8_news_5 : decode cX8_news 5 = .ok (.ifCond .eq 11, 3) := by decide +kernel
theorem dX8_news_8 : decode cX8_news 8 = .ok (.aload_n 0, 1) := by decide +kernel
theorem dX8_news_9 : decode cX8_news 9 = .ok (.iload_n 3, 1) := by decide +kernel
theorem dX8_news_10 : decode cX8_news 10 = .ok (.invokevirtual 138, 3) := by decide +kernel
theorem dX8_news_13 : decode cX8_news 13 = .ok (.ifCond .ne 5, 3) := by decide +kernel
theorem dX8_news_16 : decode cX8_news 16 = .ok (.iconst (-1), 1) := by decide +kernel
theorem dX8_news_17 : decode cX8_news 17 = .ok (.ireturn, 1) := by decide +kernel
theorem dX8_news_18 : decode cX8_news 18 = .ok (.iload_n 2, 1) := by decide +kernel
theorem dX8_news_19 : decode cX8_news 19 = .ok (.invokestatic 161, 3) := by decide +kernel
theorem dX8_news_22 : decode cX8_news 22 = .ok (.ifCond .eq 13, 3) := by decide +kernel
theorem dX8_news_25 : decode cX8_news 25 = .ok (.iload 4, 2) := by decide +kernel
theorem dX8_news_27 : decode cX8_news 27 = .ok (.iconst 0, 1) := by decide +kernel
theorem dX8_news_28 : decode cX8_news 28 = .ok (.iconst 1, 1) := by decide +kernel
theorem dX8_news_29 : decode cX8_news 29 = .ok (.invokestatic 82, 3) := by decide +kernel
theorem dX8_news_32 : decode cX8_news 32 = .ok (.ifCond .ne 6, 3) := by decide +kernel
theorem dX8_news_35 : decode cX8_news 35 = .ok (.bipush (-2), 2) := by decide +kernel
theorem dX8_news_37 : decode cX8_news 37 = .ok (.ireturn, 1) := by decide +kernel
theorem dX8_news_38 : decode cX8_news 38 = .ok (.aload_n 0, 1) := by decide +kernel
theorem dX8_news_39 : decode cX8_news 39 = .ok (.iload_n 1, 1) := by decide +kernel
theorem dX8_news_40 : decode cX8_news 40 = .ok (.iload_n 2, 1) := by decide +kernel
theorem dX8_news_41 : decode cX8_news 41 = .ok (.invokevirtual 164, 3) := by decide +kernel
theorem dX8_news_44 : decode cX8_news 44 = .ok (.aload_n 0, 1) := by decide +kernel
theorem dX8_news_45 : decode cX8_news 45 = .ok (.getfield 46, 3) := by decide +kernel
theorem dX8_news_48 : decode cX8_news 48 = .ok (.iload_n 3, 1) := by decide +kernel
theorem dX8_news_49 : decode cX8_news 49 = .ok (.iaload, 1) := by decide +kernel
theorem dX8_news_50 : decode cX8_news 50 = .ok (.bipush (-9), 2) := by decide +kernel
theorem dX8_news_52 : decode cX8_news 52 = .ok (.if_icmp .ne 8, 3) := by decide +kernel
theorem dX8_news_55 : decode cX8_news 55 = .ok (.bipush (-9), 2) := by decide +kernel
theorem dX8_news_57 : decode cX8_news 57 = .ok (.goto 23, 3) := by decide +kernel
theorem dX8_news_60 : decode cX8_news 60 = .ok (.iload 4, 2) := by decide +kernel
theorem dX8_news_62 : decode cX8_news 62 = .ok (.ifCond .ne 12, 3) := by decide +kernel
theorem dX8_news_65 : decode cX8_news 65 = .ok (.aload_n 0, 1) := by decide +kernel
theorem dX8_news_66 : decode cX8_news 66 = .ok (.getfield 43, 3) := by decide +kernel
theorem dX8_news_69 : decode cX8_news 69 = .ok (.iload_n 3, 1) := by decide +kernel
theorem dX8_news_70 : decode cX8_news 70 = .ok (.iaload, 1) := by decide +kernel
theorem dX8_news_71 : decode cX8_news 71 = .ok (.goto 9, 3) := by decide +kernel
theorem dX8_news_74 : decode cX8_news 74 = .ok (.aload_n 0, 1) := by decide +kernel
theorem dX8_news_75 : decode cX8_news 75 = .ok (.getfield 46, 3) := by decide +kernel
theorem dX8_news_78 : decode cX8_news 78 = .ok (.iload_n 3, 1) := by decide +kernel
theorem dX8_news_79 : decode cX8_news 79 = .ok (.iaload, 1) := by decide +kernel
theorem dX8_news_80 : decode cX8_news 80 = .ok (.ireturn, 1) := by decide +kernel
theorem dX8_said_0 : decode cX8_said 0 = .ok (.aload_n 0, 1) := by decide +kernel
theorem dX8_said_1 : decode cX8_said 1 = .ok (.iload_n 1, 1) := by decide +kernel
theorem dX8_said_2 : decode cX8_said 2 = .ok (.invokevirtual 138, 3) := by decide +kernel
theorem dX8_said_5 : decode cX8_said 5 = .ok (.ifCond .eq 17, 3) := by decide +kernel
theorem dX8_said_8 : decode cX8_said 8 = .ok (.aload_n 0, 1) := by decide +kernel
theorem dX8_said_9 : decode cX8_said 9 = .ok (.iload_n 2, 1) := by decide +kernel
theorem dX8_said_10 : decode cX8_said 10 = .ok (.invokevirtual 138, 3) := by decide +kernel
theorem dX8_said_13 : decode cX8_said 13 = .ok (.ifCond .eq 9, 3) := by decide +kernel
theorem dX8_said_16 : decode cX8_said 16 = .ok (.iload 4, 2) := by decide +kernel
theorem dX8_said_18 : decode cX8_said 18 = .ok (.iconst (-1), 1) := by decide +kernel
theorem dX8_said_19 : decode cX8_said 19 = .ok (.if_icmp .ge 5, 3) := by decide +kernel
theorem dX8_said_22 : decode cX8_said 22 = .ok (.iconst (-1), 1) := by decide +kernel
theorem dX8_said_23 : decode cX8_said 23 = .ok (.ireturn, 1) := by decide +kernel
theorem dX8_said_24 : decode cX8_said 24 = .ok (.iload_n 3, 1) := by decide +kernel
theorem dX8_said_25 : decode cX8_said 25 = .ok (.invokestatic 161, 3) := by decide +kernel
theorem dX8_said_28 : decode cX8_said 28 = .ok (.ifCond .ne 6, 3) := by decide +kernel
theorem dX8_said_31 : decode cX8_said 31 = .ok (.bipush (-2), 2) := by decide +kernel
theorem dX8_said_33 : decode cX8_said 33 = .ok (.ireturn, 1) := by decide +kernel
theorem dX8_said_34 : decode cX8_said 34 = .ok (.iconst 0, 1) := by decide +kernel
theorem dX8_said_35 : decode cX8_said 35 = .ok (.istore 5, 2) := by decide +kernel
theorem dX8_said_37 : decode cX8_said 37 = .ok (.iconst 0, 1) := by decide +kernel
theorem dX8_said_38 : decode cX8_said 38 = .ok (.istore 6, 2) := by decide +kernel
theorem dX8_said_40 : decode cX8_said 40 = .ok (.iload 6, 2) := by decide +kernel
theorem dX8_said_42 : decode cX8_said 42 = .ok (.bipush 100, 2) := by decide +kernel
theorem dX8_said_44 : decode cX8_said 44 = .ok (.if_icmp .ge 50, 3) := by decide +kernel
theorem dX8_said_47 : decode cX8_said 47 = .ok (.aload_n 0, 1) := by decide +kernel
theorem dX8_said_48 : decode cX8_said 48 = .ok (.iload_n 1, 1) := by decide +kernel
theorem dX8_said_49 : decode cX8_said 49 = .ok (.iload 6, 2) := by decide +kernel
theorem dX8_said_51 : decode cX8_said 51 = .ok (.invokevirtual 164, 3) := by decide +kernel
theorem dX8_said_54 : decode cX8_said 54 = .ok (.aload_n 0, 1) := by decide +kernel
theorem dX8_said_55 : decode cX8_said 55 = .ok (.getfield 46, 3) := by decide +kernel
theorem dX8_said_58 : decode cX8_said 58 = .ok (.iload_n 2, 1) := by decide +kernel
theorem dX8_said_59 : decode cX8_said 59 = .ok (.iaload, 1) := by decide +kernel
theorem dX8_said_60 : decode cX8_said 60 = .ok (.bipush (-9), 2) := by decide +kernel
theorem dX8_said_62 : decode cX8_said 62 = .ok (.if_icmp .eq 26, 3) := by decide +kernel
theorem dX8_said_65 : decode cX8_said 65 = .ok (.aload_n 0, 1) := by decide +kernel
theorem dX8_said_66 : decode cX8_said 66 = .ok (.getfield 43, 3) := by decide +kernel
theorem dX8_said_69 : decode cX8_said 69 = .ok (.iload_n 2, 1) := by decide +kernel
theorem dX8_said_70 : decode cX8_said 70 = .ok (.iaload, 1) := by decide +kernel
theorem dX8_said_71 : decode cX8_said 71 = .ok (.iload_n 3, 1) := by decide +kernel
theorem dX8_said_72 : decode cX8_said 72 = .ok (.if_icmp .ne 16, 3) := by decide +kernel
theorem dX8_said_75 : decode cX8_said 75 = .ok (.iload 5, 2) := by decide +kernel
theorem dX8_said_77 : decode cX8_said 77 = .ok (.iload 4, 2) := by decide +kernel
theorem dX8_said_79 : decode cX8_said 79 = .ok (.if_icmp .ne 6, 3) := by decide +kernel
theorem dX8_said_82 : decode cX8_said 82 = .ok (.iload 6, 2) := by decide +kernel
theorem dX8_said_84 : decode cX8_said 84 = .ok (.ireturn, 1) := by decide +kernel
theorem dX8_said_85 : decode cX8_said 85 = .ok (.iinc 5 1, 3) := by decide +kernel
theorem dX8_said_88 : decode cX8_said 88 = .ok (.iinc 6 1, 3) := by decide +kernel
theorem dX8_said_91 : decode cX8_said 91 = .ok (.goto (-51), 3) := by decide +kernel
theorem dX8_said_94 : decode cX8_said 94 = .ok (.iload 4, 2) := by decide +kernel
theorem dX8_said_96 : decode cX8_said 96 = .ok (.iconst (-1), 1) := by decide +kernel
theorem dX8_said_97 : decode cX8_said 97 = .ok (.if_icmp .ne 8, 3) := by decide +kernel
theorem dX8_said_100 : decode cX8_said 100 = .ok (.iload 5, 2) := by decide +kernel
theorem dX8_said_102 : decode cX8_said 102 = .ok (.goto 5, 3) := by decide +kernel
theorem dX8_said_105 : decode cX8_said 105 = .ok (.bipush (-9), 2) := by decide +kernel
theorem dX8_said_107 : decode cX8_said 107 = .ok (.ireturn, 1) := by decide +kernel
theorem dX8_goodIn_0 : decode cX8_goodIn 0 = .ok (.iload_n 0, 1) := by decide +kernel
theorem dX8_goodIn_1 : decode cX8_goodIn 1 = .ok (.iconst 2, 1) := by decide +kernel
theorem dX8_goodIn_2 : decode cX8_goodIn 2 = .ok (.iload_n 1, 1) := by decide +kernel
theorem dX8_goodIn_3 : decode cX8_goodIn 3 = .ok (.imul, 1) := by decide +kernel
theorem dX8_goodIn_4 : decode cX8_goodIn 4 = .ok (.ishr, 1) := by decide +kernel
theorem dX8_goodIn_5 : decode cX8_goodIn 5 = .ok (.iconst 3, 1) := by decide +kernel
theorem dX8_goodIn_6 : decode cX8_goodIn 6 = .ok (.iand, 1) := by decide +kernel
theorem dX8_goodIn_7 : decode cX8_goodIn 7 = .ok (.ireturn, 1) := by decide +kernel
theorem dX8_exchanged_0 : decode cX8_exchanged 0 = .ok (.iload_n 1, 1) := by decide +kernel
theorem dX8_exchanged_1 : decode cX8_exchanged 1 = .ok (.iload_n 2, 1) := by decide +kernel
theorem dX8_exchanged_2 : decode cX8_exchanged 2 = .ok (.invokestatic 168, 3) := by decide +kernel
theorem dX8_exchanged_5 : decode cX8_exchanged 5 = .ok (.istore_n 3, 1) := by decide +kernel
theorem dX8_exchanged_6 : decode cX8_exchanged 6 = .ok (.iload_n 1, 1) := by decide +kernel
theorem dX8_exchanged_7 : decode cX8_exchanged 7 = .ok (.aload_n 0, 1) := by decide +kernel
theorem dX8_exchanged_8 : decode cX8_exchanged 8 = .ok (.iload_n 2, 1) := by decide +kernel
theorem dX8_exchanged_9 : decode cX8_exchanged 9 = .ok (.invokevirtual 147, 3) := by decide +kernel
theorem dX8_exchanged_12 : decode cX8_exchanged 12 = .ok (.invokestatic 168, 3) := by decide +kernel
theorem dX8_exchanged_15 : decode cX8_exchanged 15 = .ok (.istore 4, 2) := by decide +kernel
theorem dX8_exchanged_17 : decode cX8_exchanged 17 = .ok (.iload_n 1, 1) := by decide +kernel
theorem dX8_exchanged_18 : decode cX8_exchanged 18 = .ok (.iload_n 3, 1) := by decide +kernel
theorem dX8_exchanged_19 : decode cX8_exchanged 19 = .ok (.iload 4, 2) := by decide +kernel
theorem dX8_exchanged_21 : decode cX8_exchanged 21 = .ok (.ixor, 1) := by decide +kernel
theorem dX8_exchanged_22 : decode cX8_exchanged 22 = .ok (.iconst 2, 1) := by decide +kernel
theorem dX8_exchanged_23 : decode cX8_exchanged 23 = .ok (.iload_n 2, 1) := by decide +kernel
theorem dX8_exchanged_24 : decode cX8_exchanged 24 = .ok (.imul, 1) := by decide +kernel
theorem dX8_exchanged_25 : decode cX8_exchanged 25 = .ok (.ishl, 1) := by decide +kernel
theorem dX8_exchanged_26 : decode cX8_exchanged 26 = .ok (.ixor, 1) := by decide +kernel
theorem dX8_exchanged_27 : decode cX8_exchanged 27 = .ok (.iload_n 3, 1) := by decide +kernel
theorem dX8_exchanged_28 : decode cX8_exchanged 28 = .ok (.iload 4, 2) := by decide +kernel
theorem dX8_exchanged_30 : decode cX8_exchanged 30 = .ok (.ixor, 1) := by decide +kernel
theorem dX8_exchanged_31 : decode cX8_exchanged 31 = .ok (.iconst 2, 1) := by decide +kernel
theorem dX8_exchanged_32 : decode cX8_exchanged 32 = .ok (.aload_n 0, 1) := by decide +kernel
theorem dX8_exchanged_33 : decode cX8_exchanged 33 = .ok (.iload_n 2, 1) := by decide +kernel
theorem dX8_exchanged_34 : decode cX8_exchanged 34 = .ok (.invokevirtual 147, 3) := by decide +kernel
theorem dX8_exchanged_37 : decode cX8_exchanged 37 = .ok (.imul, 1) := by decide +kernel
theorem dX8_exchanged_38 : decode cX8_exchanged 38 = .ok (.ishl, 1) := by decide +kernel
theorem dX8_exchanged_39 : decode cX8_exchanged 39 = .ok (.ixor, 1) := by decide +kernel
theorem dX8_exchanged_40 : decode cX8_exchanged 40 = .ok (.ireturn, 1) := by decide +kernel
theorem dX8_mayBe_0 : decode cX8_mayBe 0 = .ok (.iconst 0, 1) := by decide +kernel
theorem dX8_mayBe_1 : decode cX8_mayBe 1 = .ok (.istore_n 2, 1) := by decide +kernel
theorem dX8_mayBe_2 : decode cX8_mayBe 2 = .ok (.iconst 0, 1) := by decide +kernel
theorem dX8_mayBe_3 : decode cX8_mayBe 3 = .ok (.istore_n 3, 1) := by decide +kernel
theorem dX8_mayBe_4 : decode cX8_mayBe 4 = .ok (.iload_n 3, 1) := by decide +kernel
theorem dX8_mayBe_5 : decode cX8_mayBe 5 = .ok (.aload_n 0, 1) := by decide +kernel
theorem dX8_mayBe_6 : decode cX8_mayBe 6 = .ok (.invokevirtual 93, 3) := by decide +kernel
theorem dX8_mayBe_9 : decode cX8_mayBe 9 = .ok (.if_icmp .ge 53, 3) := by decide +kernel
theorem dX8_mayBe_12 : decode cX8_mayBe 12 = .ok (.iload_n 1, 1) := by decide +kernel
theorem dX8_mayBe_13 : decode cX8_mayBe 13 = .ok (.iload_n 3, 1) := by decide +kernel
theorem dX8_mayBe_14 : decode cX8_mayBe 14 = .ok (.ishr, 1) := by decide +kernel
theorem dX8_mayBe_15 : decode cX8_mayBe 15 = .ok (.iconst 1, 1) := by decide +kernel
theorem dX8_mayBe_16 : decode cX8_mayBe 16 = .ok (.iand, 1) := by decide +kernel
theorem dX8_mayBe_17 : decode cX8_mayBe 17 = .ok (.iconst 1, 1) := by decide +kernel
theorem dX8_mayBe_18 : decode cX8_mayBe 18 = .ok (.if_icmp .ne 38, 3) := by decide +kernel
theorem dX8_mayBe_21 : decode cX8_mayBe 21 = .ok (.iconst 1, 1) := by decide +kernel
theorem dX8_mayBe_22 : decode cX8_mayBe 22 = .ok (.iload_n 3, 1) := by decide +kernel
theorem dX8_mayBe_23 : decode cX8_mayBe 23 = .ok (.ishl, 1) := by decide +kernel
theorem dX8_mayBe_24 : decode cX8_mayBe 24 = .ok (.iconst 1, 1) := by decide +kernel
theorem dX8_mayBe_25 : decode cX8_mayBe 25 = .ok (.aload_n 0, 1) := by decide +kernel
theorem dX8_mayBe_26 : decode cX8_mayBe 26 = .ok (.iload_n 3, 1) := by decide +kernel
theorem dX8_mayBe_27 : decode cX8_mayBe 27 = .ok (.invokevirtual 147, 3) := by decide +kernel
theorem dX8_mayBe_30 : decode cX8_mayBe 30 = .ok (.ishl, 1) := by decide +kernel
theorem dX8_mayBe_31 : decode cX8_mayBe 31 = .ok (.ior, 1) := by decide +kernel
theorem dX8_mayBe_32 : decode cX8_mayBe 32 = .ok (.istore 4, 2) := by decide +kernel
theorem dX8_mayBe_34 : decode cX8_mayBe 34 = .ok (.aload_n 0, 1) := by decide +kernel
theorem dX8_mayBe_35 : decode cX8_mayBe 35 = .ok (.iload_n 3, 1) := by decide +kernel
theorem dX8_mayBe_36 : decode cX8_mayBe 36 = .ok (.invokevirtual 144, 3) := by decide +kernel
theorem dX8_mayBe_39 : decode cX8_mayBe 39 = .ok (.ifCond .eq 10, 3) := by decide +kernel
theorem dX8_mayBe_42 : decode cX8_mayBe 42 = .ok (.iload_n 2, 1) := by decide +kernel
theorem dX8_mayBe_43 : decode cX8_mayBe 43 = .ok (.iload 4, 2) := by decide +kernel
theorem dX8_mayBe_45 : decode cX8_mayBe 45 = .ok (.iand, 1) := by decide +kernel
theorem dX8_mayBe_46 : decode cX8_mayBe 46 = .ok (.ifCond .eq 5, 3) := by decide +kernel
theorem dX8_mayBe_49 : decode cX8_mayBe 49 = .ok (.iconst 0, 1) := by decide +kernel
theorem dX8_mayBe_50 : decode cX8_mayBe 50 = .ok (.ireturn, 1) := by decide +kernel
theorem dX8_mayBe_51 : decode cX8_mayBe 51 = .ok (.iload_n 2, 1) := by decide +kernel
theorem dX8_mayBe_52 : decode cX8_mayBe 52 = .ok (.iload 4, 2) := by decide +kernel
theorem dX8_mayBe_54 : decode cX8_mayBe 54 = .ok (.ior, 1) := by decide +kernel
theorem dX8_mayBe_55 : decode cX8_mayBe 55 = .ok (.istore_n 2, 1) := by decide +kernel
theorem dX8_mayBe_56 : decode cX8_mayBe 56 = .ok (.iinc 3 1, 3) := by decide +kernel
theorem dX8_mayBe_59 : decode cX8_mayBe 59 = .ok (.goto (-55), 3) := by decide +kernel
theorem dX8_mayBe_62 : decode cX8_mayBe 62 = .ok (.iconst 1, 1) := by decide +kernel
theorem dX8_mayBe_63 : decode cX8_mayBe 63 = .ok (.ireturn, 1) := by decide +kernel
theorem dX8_after_0 : decode cX8_after 0 = .ok (.iload_n 1, 1) := by decide +kernel
theorem dX8_after_1 : decode cX8_after 1 = .ok (.istore_n 3, 1) := by decide +kernel
theorem dX8_after_2 : decode cX8_after 2 = .ok (.iconst 0, 1) := by decide +kernel
theorem dX8_after_3 : decode cX8_after 3 = .ok (.istore 4, 2) := by decide +kernel
theorem dX8_after_5 : decode cX8_after 5 = .ok (.iload 4, 2) := by decide +kernel
theorem dX8_after_7 : decode cX8_after 7 = .ok (.aload_n 0, 1) := by decide +kernel
theorem dX8_after_8 : decode cX8_after 8 = .ok (.invokevirtual 93, 3) := by decide +kernel
theorem dX8_after_11 : decode cX8_after 11 = .ok (.if_icmp .ge 31, 3) := by decide +kernel
theorem dX8_after_14 : decode cX8_after 14 = .ok (.iload_n 2, 1) := by decide +kernel
theorem dX8_after_15 : decode cX8_after 15 = .ok (.iload 4, 2) := by decide +kernel
theorem dX8_after_17 : decode cX8_after 17 = .ok (.ishr, 1) := by decide +kernel
theorem dX8_after_18 : decode cX8_after 18 = .ok (.iconst 1, 1) := by decide +kernel
theorem dX8_after_19 : decode cX8_after 19 = .ok (.iand, 1) := by decide +kernel
theorem dX8_after_20 : decode cX8_after 20 = .ok (.iconst 1, 1) := by decide +kernel
theorem dX8_after_21 : decode cX8_after 21 = .ok (.if_icmp .ne 13, 3) := by decide +kernel
theorem dX8_after_24 : decode cX8_after 24 = .ok (.aload_n 0, 1) := by decide +kernel
theorem dX8_after_25 : decode cX8_after 25 = .ok (.iload_n 3, 1) := by decide +kernel
theorem dX8_after_26 : decode cX8_after 26 = .ok (.iload 4, 2) := by decide +kernel
theorem dX8_after_28 : decode cX8_after 28 = .ok (.invokevirtual 171, 3) := by decide +kernel
theorem dX8_after_31 : decode cX8_after 31 = .ok (.goto 4, 3) := by decide +kernel
theorem dX8_after_34 : decode cX8_after 34 = .ok (.iload_n 3, 1) := by decide +kernel
theorem dX8_after_35 : decode cX8_after 35 = .ok (.istore_n 3, 1) := by decide +kernel
theorem dX8_after_36 : decode cX8_after 36 = .ok (.iinc 4 1, 3) := by decide +kernel
theorem dX8_after_39 : decode cX8_after 39 = .ok (.goto (-34), 3) := by decide +kernel
theorem dX8_after_42 : decode cX8_after 42 = .ok (.iload_n 3, 1) := by decide +kernel
theorem dX8_after_43 : decode cX8_after 43 = .ok (.ireturn, 1) := by decide +kernel
theorem dX8_reach_0 : decode cX8_reach 0 = .ok (.aload_n 0, 1) := by decide +kernel
theorem dX8_reach_1 : decode cX8_reach 1 = .ok (.getfield 49, 3) := by decide +kernel
theorem dX8_reach_4 : decode cX8_reach 4 = .ok (.iload_n 1, 1) := by decide +kernel
theorem dX8_reach_5 : decode cX8_reach 5 = .ok (.iaload, 1) := by decide +kernel
theorem dX8_reach_6 : decode cX8_reach 6 = .ok (.bipush (-9), 2) := by decide +kernel
theorem dX8_reach_8 : decode cX8_reach 8 = .ok (.if_icmp .ne 30, 3) := by decide +kernel
theorem dX8_reach_11 : decode cX8_reach 11 = .ok (.aload_n 0, 1) := by decide +kernel
theorem dX8_reach_12 : decode cX8_reach 12 = .ok (.getfield 49, 3) := by decide +kernel
theorem dX8_reach_15 : decode cX8_reach 15 = .ok (.iload_n 1, 1) := by decide +kernel
theorem dX8_reach_16 : decode cX8_reach 16 = .ok (.iload_n 2, 1) := by decide +kernel
theorem dX8_reach_17 : decode cX8_reach 17 = .ok (.iastore, 1) := by decide +kernel
theorem dX8_reach_18 : decode cX8_reach 18 = .ok (.aload_n 0, 1) := by decide +kernel
theorem dX8_reach_19 : decode cX8_reach 19 = .ok (.getfield 52, 3) := by decide +kernel
theorem dX8_reach_22 : decode cX8_reach 22 = .ok (.aload_n 0, 1) := by decide +kernel
theorem dX8_reach_23 : decode cX8_reach 23 = .ok (.getfield 174, 3) := by decide +kernel
theorem dX8_reach_26 : decode cX8_reach 26 = .ok (.iload_n 1, 1) := by decide +kernel
theorem dX8_reach_27 : decode cX8_reach 27 = .ok (.iastore, 1) := by decide +kernel
theorem dX8_reach_28 : decode cX8_reach 28 = .ok (.aload_n 0, 1) := by decide +kernel
theorem dX8_reach_29 : decode cX8_reach 29 = .ok (.dup, 1) := by decide +kernel
theorem dX8_reach_30 : decode cX8_reach 30 = .ok (.getfield 174, 3) := by decide +kernel
theorem dX8_reach_33 : decode cX8_reach 33 = .ok (.iconst 1, 1) := by decide +kernel
theorem dX8_reach_34 : decode cX8_reach 34 = .ok (.iadd, 1) := by decide +kernel
theorem dX8_reach_35 : decode cX8_reach 35 = .ok (.putfield 174, 3) := by decide +kernel
theorem dX8_reach_38 : decode cX8_reach 38 = .ok (.return_, 1) := by decide +kernel
theorem dX8_findSteps_0 : decode cX8_findSteps 0 = .ok (.iconst 0, 1) := by decide +kernel
theorem dX8_findSteps_1 : decode cX8_findSteps 1 = .ok (.istore_n 2, 1) := by decide +kernel
theorem dX8_findSteps_2 : decode cX8_findSteps 2 = .ok (.iload_n 2, 1) := by decide +kernel
theorem dX8_findSteps_3 : decode cX8_findSteps 3 = .ok (.sipush 16384, 3) := by decide +kernel
theorem dX8_findSteps_6 : decode cX8_findSteps 6 = .ok (.if_icmp .ge 17, 3) := by decide +kernel
theorem dX8_findSteps_9 : decode cX8_findSteps 9 = .ok (.aload_n 0, 1) := by decide +kernel
theorem dX8_findSteps_10 : decode cX8_findSteps 10 = .ok (.getfield 49, 3) := by decide +kernel
theorem dX8_findSteps_13 : decode cX8_findSteps 13 = .ok (.iload_n 2, 1) := by decide +kernel
theorem dX8_findSteps_14 : decode cX8_findSteps 14 = .ok (.bipush (-9), 2) := by decide +kernel
theorem dX8_findSteps_16 : decode cX8_findSteps 16 = .ok (.iastore, 1) := by decide +kernel
theorem dX8_findSteps_17 : decode cX8_findSteps 17 = .ok (.iinc 2 1, 3) := by decide +kernel
theorem dX8_findSteps_20 : decode cX8_findSteps 20 = .ok (.goto (-18), 3) := by decide +kernel
theorem dX8_findSteps_23 : decode cX8_findSteps 23 = .ok (.iconst 0, 1) := by decide +kernel
theorem dX8_findSteps_24 : decode cX8_findSteps 24 = .ok (.istore_n 2, 1) := by decide +kernel
theorem dX8_findSteps_25 : decode cX8_findSteps 25 = .ok (.iconst 0, 1) := by decide +kernel
theorem dX8_findSteps_26 : decode cX8_findSteps 26 = .ok (.istore_n 3, 1) := by decide +kernel
theorem dX8_findSteps_27 : decode cX8_findSteps 27 = .ok (.iconst 0, 1) := by decide +kernel
theorem dX8_findSteps_28 : decode cX8_findSteps 28 = .ok (.istore 4, 2) := by decide +kernel
theorem dX8_findSteps_30 : decode cX8_findSteps 30 = .ok (.iload 4, 2) := by decide +kernel
theorem dX8_findSteps_32 : decode cX8_findSteps 32 = .ok (.aload_n 0, 1) := by decide +kernel
theorem dX8_findSteps_33 : decode cX8_findSteps 33 = .ok (.getfield 86, 3) := by decide +kernel
theorem dX8_findSteps_36 : decode cX8_findSteps 36 = .ok (.if_icmp .ge 39, 3) := by decide +kernel
theorem dX8_findSteps_39 : decode cX8_findSteps 39 = .ok (.iload_n 2, 1) := by decide +kernel
theorem dX8_findSteps_40 : decode cX8_findSteps 40 = .ok (.aload_n 0, 1) := by decide +kernel
theorem dX8_findSteps_41 : decode cX8_findSteps 41 = .ok (.getfield 25, 3) := by decide +kernel
theorem dX8_findSteps_44 : decode cX8_findSteps 44 = .ok (.iload 4, 2) := by decide +kernel
theorem dX8_findSteps_46 : decode cX8_findSteps 46 = .ok (.iaload, 1) := by decide +kernel
theorem dX8_findSteps_47 : decode cX8_findSteps 47 = .ok (.iconst 2, 1) := by decide +kernel
theorem dX8_findSteps_48 : decode cX8_findSteps 48 = .ok (.iload 4, 2) := by decide +kernel
theorem dX8_findSteps_50 : decode cX8_findSteps 50 = .ok (.imul, 1) := by decide +kernel
theorem dX8_findSteps_51 : decode cX8_findSteps 51 = .ok (.ishl, 1) := by decide +kernel
theorem dX8_findSteps_52 : decode cX8_findSteps 52 = .ok (.ior, 1) := by decide +kernel
theorem dX8_findSteps_53 : decode cX8_findSteps 53 = .ok (.istore_n 2, 1) := by decide +kernel
theorem dX8_findSteps_54 : decode cX8_findSteps 54 = .ok (.iload_n 3, 1) := by decide +kernel
theorem dX8_findSteps_55 : decode cX8_findSteps 55 = .ok (.aload_n 0, 1) := by decide +kernel
theorem dX8_findSteps_56 : decode cX8_findSteps 56 = .ok (.getfield 28, 3) := by decide +kernel
theorem dX8_findSteps_59 : decode cX8_findSteps 59 = .ok (.iload 4, 2) := by decide +kernel
theorem dX8_findSteps_61 : decode cX8_findSteps 61 = .ok (.iaload, 1) := by decide +kernel
theorem dX8_findSteps_62 : decode cX8_findSteps 62 = .ok (.iconst 2, 1) := by decide +kernel
theorem dX8_findSteps_63 : decode cX8_findSteps 63 = .ok (.iload 4, 2) := by decide +kernel
theorem dX8_findSteps_65 : decode cX8_findSteps 65 = .ok (.imul, 1) := by decide +kernel
theorem dX8_findSteps_66 : decode cX8_findSteps 66 = .ok (.ishl, 1) := by decide +kernel
theorem dX8_findSteps_67 : decode cX8_findSteps 67 = .ok (.ior, 1) := by decide +kernel
theorem dX8_findSteps_68 : decode cX8_findSteps 68 = .ok (.istore_n 3, 1) := by decide +kernel
theorem dX8_findSteps_69 : decode cX8_findSteps 69 = .ok (.iinc 4 1, 3) := by decide +kernel
theorem dX8_findSteps_72 : decode cX8_findSteps 72 = .ok (.goto (-42), 3) := by decide +kernel
theorem dX8_findSteps_75 : decode cX8_findSteps 75 = .ok (.aload_n 0, 1) := by decide +kernel
theorem dX8_findSteps_76 : decode cX8_findSteps 76 = .ok (.iconst 0, 1) := by decide +kernel
theorem dX8_findSteps_77 : decode cX8_findSteps 77 = .ok (.putfield 174, 3) := by decide +kernel
theorem dX8_findSteps_80 : decode cX8_findSteps 80 = .ok (.aload_n 0, 1) := by decide +kernel
theorem dX8_findSteps_81 : decode cX8_findSteps 81 = .ok (.iload_n 2, 1) := by decide +kernel
theorem dX8_findSteps_82 : decode cX8_findSteps 82 = .ok (.iconst 0, 1) := by decide +kernel
theorem dX8_findSteps_83 : decode cX8_findSteps 83 = .ok (.invokevirtual 177, 3) := by decide +kernel
theorem dX8_findSteps_86 : decode cX8_findSteps 86 = .ok (.iconst 0, 1) := by decide +kernel
theorem dX8_findSteps_87 : decode cX8_findSteps 87 = .ok (.istore 4, 2) := by decide +kernel
theorem dX8_findSteps_89 : decode cX8_findSteps 89 = .ok (.iload 4, 2) := by decide +kernel
theorem dX8_findSteps_91 : decode cX8_findSteps 91 = .ok (.aload_n 0, 1) := by decide +kernel
theorem dX8_findSteps_92 : decode cX8_findSteps 92 = .ok (.getfield 174, 3) := by decide +kernel
theorem dX8_findSteps_95 : decode cX8_findSteps 95 = .ok (.if_icmp .ge 105, 3) := by decide +kernel
theorem dX8_findSteps_98 : decode cX8_findSteps 98 = .ok (.aload_n 0, 1) := by decide +kernel
theorem dX8_findSteps_99 : decode cX8_findSteps 99 = .ok (.getfield 49, 3) := by decide +kernel
theorem dX8_findSteps_102 : decode cX8_findSteps 102 = .ok (.iload_n 3, 1) := by decide +kernel
theorem dX8_findSteps_103 : decode cX8_findSteps 103 = .ok (.iaload, 1) := by decide +kernel
theorem dX8_findSteps_104 : decode cX8_findSteps 104 = .ok (.bipush (-9), 2) := by decide +kernel
theorem dX8_findSteps_106 : decode cX8_findSteps 106 = .ok (.if_icmp .ne 94, 3) := by decide +kernel
theorem dX8_findSteps_109 : decode cX8_findSteps 109 = .ok (.aload_n 0, 1) := by decide +kernel
theorem dX8_findSteps_110 : decode cX8_findSteps 110 = .ok (.getfield 52, 3) := by decide +kernel
theorem dX8_findSteps_113 : decode cX8_findSteps 113 = .ok (.iload 4, 2) := by decide +kernel
theorem dX8_findSteps_115 : decode cX8_findSteps 115 = .ok (.iaload, 1) := by decide +kernel
theorem dX8_findSteps_116 : decode cX8_findSteps 116 = .ok (.istore 5, 2) := by decide +kernel
theorem dX8_findSteps_118 : decode cX8_findSteps 118 = .ok (.iconst 1, 1) := by decide +kernel
theorem dX8_findSteps_119 : decode cX8_findSteps 119 = .ok (.istore 6, 2) := by decide +kernel
theorem dX8_findSteps_121 : decode cX8_findSteps 121 = .ok (.iload 6, 2) := by decide +kernel
theorem dX8_findSteps_123 : decode cX8_findSteps 123 = .ok (.iconst 1, 1) := by decide +kernel
theorem dX8_findSteps_124 : decode cX8_findSteps 124 = .ok (.aload_n 0, 1) := by decide +kernel
theorem dX8_findSteps_125 : decode cX8_findSteps 125 = .ok (.invokevirtual 93, 3) := by decide +kernel
theorem dX8_findSteps_128 : decode cX8_findSteps 128 = .ok (.ishl, 1) := by decide +kernel
theorem dX8_findSteps_129 : decode cX8_findSteps 129 = .ok (.if_icmp .ge 65, 3) := by decide +kernel
theorem dX8_findSteps_132 : decode cX8_findSteps 132 = .ok (.iload 6, 2) := by decide +kernel
theorem dX8_findSteps_134 : decode cX8_findSteps 134 = .ok (.iload 6, 2) := by decide +kernel
theorem dX8_findSteps_136 : decode cX8_findSteps 136 = .ok (.iconst 1, 1) := by decide +kernel
theorem dX8_findSteps_137 : decode cX8_findSteps 137 = .ok (.isub, 1) := by decide +kernel
theorem dX8_findSteps_138 : decode cX8_findSteps 138 = .ok (.iand, 1) := by decide +kernel
theorem dX8_findSteps_139 : decode cX8_findSteps 139 = .ok (.ifCond .ne 7, 3) := by decide +kernel
theorem dX8_findSteps_142 : decode cX8_findSteps 142 = .ok (.iconst 1, 1) := by decide +kernel
theorem dX8_findSteps_143 : decode cX8_findSteps 143 = .ok (.goto 4, 3) := by decide +kernel
theorem dX8_findSteps_146 : decode cX8_findSteps 146 = .ok (.iconst 0, 1) := by decide +kernel
theorem dX8_findSteps_147 : decode cX8_findSteps 147 = .ok (.istore 7, 2) := by decide +kernel
theorem dX8_findSteps_149 : decode cX8_findSteps 149 = .ok (.iload_n 1, 1) := by decide +kernel
theorem dX8_findSteps_150 : decode cX8_findSteps 150 = .ok (.ifCond .ne 8, 3) := by decide +kernel
theorem dX8_findSteps_153 : decode cX8_findSteps 153 = .ok (.iload 7, 2) := by decide +kernel
theorem dX8_findSteps_155 : decode cX8_findSteps 155 = .ok (.ifCond .eq 33, 3) := by decide +kernel
theorem dX8_findSteps_158 : decode cX8_findSteps 158 = .ok (.aload_n 0, 1) := by decide +kernel
theorem dX8_findSteps_159 : decode cX8_findSteps 159 = .ok (.iload 6, 2) := by decide +kernel
theorem dX8_findSteps_161 : decode cX8_findSteps 161 = .ok (.invokevirtual 180, 3) := by decide +kernel
theorem dX8_findSteps_164 : decode cX8_findSteps 164 = .ok (.ifCond .eq 24, 3) := by decide +kernel
theorem dX8_findSteps_167 : decode cX8_findSteps 167 = .ok (.aload_n 0, 1) := by decide +kernel
theorem dX8_findSteps_168 : decode cX8_findSteps 168 = .ok (.aload_n 0, 1) := by decide +kernel
theorem dX8_findSteps_169 : decode cX8_findSteps 169 = .ok (.iload 5, 2) := by decide +kernel
theorem dX8_findSteps_171 : decode cX8_findSteps 171 = .ok (.iload 6, 2) := by decide +kernel
theorem dX8_findSteps_173 : decode cX8_findSteps 173 = .ok (.invokevirtual 183, 3) := by decide +kernel
theorem dX8_findSteps_176 : decode cX8_findSteps 176 = .ok (.aload_n 0, 1) := by decide +kernel
theorem dX8_findSteps_177 : decode cX8_findSteps 177 = .ok (.getfield 49, 3) := by decide +kernel
theorem dX8_findSteps_180 : decode cX8_findSteps 180 = .ok (.iload 5, 2) := by decide +kernel
theorem dX8_findSteps_182 : decode cX8_findSteps 182 = .ok (.iaload, 1) := by decide +kernel
theorem dX8_findSteps_183 : decode cX8_findSteps 183 = .ok (.iconst 1, 1) := by decide +kernel
theorem dX8_findSteps_184 : decode cX8_findSteps 184 = .ok (.iadd, 1) := by decide +kernel
theorem dX8_findSteps_185 : decode cX8_findSteps 185 = .ok (.invokevirtual 177, 3) := by decide +kernel
theorem dX8_findSteps_188 : decode cX8_findSteps 188 = .ok (.iinc 6 1, 3) := by decide +kernel
theorem dX8_findSteps_191 : decode cX8_findSteps 191 = .ok (.goto (-70), 3) := by decide +kernel
theorem dX8_findSteps_194 : decode cX8_findSteps 194 = .ok (.iinc 4 1, 3) := by decide +kernel
theorem dX8_findSteps_197 : decode cX8_findSteps 197 = .ok (.goto (-108), 3) := by decide +kernel
theorem dX8_findSteps_200 : decode cX8_findSteps 200 = .ok (.aload_n 0, 1) := by decide +kernel
theorem dX8_findSteps_201 : decode cX8_findSteps 201 = .ok (.getfield 49, 3) := by decide +kernel
theorem dX8_findSteps_204 : decode cX8_findSteps 204 = .ok (.iload_n 3, 1) := by decide +kernel
theorem dX8_findSteps_205 : decode cX8_findSteps 205 = .ok (.iaload, 1) := by decide +kernel
theorem dX8_findSteps_206 : decode cX8_findSteps 206 = .ok (.ireturn, 1) := by decide +kernel
theorem dX8_fewest_0 : decode cX8_fewest 0 = .ok (.aload_n 0, 1) := by decide +kernel
theorem dX8_fewest_1 : decode cX8_fewest 1 = .ok (.getfield 86, 3) := by decide +kernel
theorem dX8_fewest_4 : decode cX8_fewest 4 = .ok (.ifCond .ne 8, 3) := by decide +kernel
theorem dX8_fewest_7 : decode cX8_fewest 7 = .ok (.bipush (-3), 2) := by decide +kernel
theorem dX8_fewest_9 : decode cX8_fewest 9 = .ok (.goto 8, 3) := by decide +kernel
theorem dX8_fewest_12 : decode cX8_fewest 12 = .ok (.aload_n 0, 1) := by decide +kernel
theorem dX8_fewest_13 : decode cX8_fewest 13 = .ok (.iconst 0, 1) := by decide +kernel
theorem dX8_fewest_14 : decode cX8_fewest 14 = .ok (.invokevirtual 186, 3) := by decide +kernel
theorem dX8_fewest_17 : decode cX8_fewest 17 = .ok (.ireturn, 1) := by decide +kernel
theorem dX8_soonest_0 : decode cX8_soonest 0 = .ok (.aload_n 0, 1) := by decide +kernel
theorem dX8_soonest_1 : decode cX8_soonest 1 = .ok (.getfield 86, 3) := by decide +kernel
theorem dX8_soonest_4 : decode cX8_soonest 4 = .ok (.ifCond .ne 8, 3) := by decide +kernel
theorem dX8_soonest_7 : decode cX8_soonest 7 = .ok (.bipush (-3), 2) := by decide +kernel
theorem dX8_soonest_9 : decode cX8_soonest 9 = .ok (.goto 8, 3) := by decide +kernel
theorem dX8_soonest_12 : decode cX8_soonest 12 = .ok (.aload_n 0, 1) := by decide +kernel
theorem dX8_soonest_13 : decode cX8_soonest 13 = .ok (.iconst 1, 1) := by decide +kernel
theorem dX8_soonest_14 : decode cX8_soonest 14 = .ok (.invokevirtual 186, 3) := by decide +kernel
theorem dX8_soonest_17 : decode cX8_soonest 17 = .ok (.ireturn, 1) := by decide +kernel
theorem dX8_cut_0 : decode cX8_cut 0 = .ok (.aload_n 0, 1) := by decide +kernel
theorem dX8_cut_1 : decode cX8_cut 1 = .ok (.iload_n 1, 1) := by decide +kernel
theorem dX8_cut_2 : decode cX8_cut 2 = .ok (.invokevirtual 141, 3) := by decide +kernel
theorem dX8_cut_5 : decode cX8_cut 5 = .ok (.ifCond .ne 5, 3) := by decide +kernel
theorem dX8_cut_8 : decode cX8_cut 8 = .ok (.iconst (-1), 1) := by decide +kernel
theorem dX8_cut_9 : decode cX8_cut 9 = .ok (.ireturn, 1) := by decide +kernel
theorem dX8_cut_10 : decode cX8_cut 10 = .ok (.aload_n 0, 1) := by decide +kernel
theorem dX8_cut_11 : decode cX8_cut 11 = .ok (.getfield 89, 3) := by decide +kernel
theorem dX8_cut_14 : decode cX8_cut 14 = .ok (.ifCond .eq 6, 3) := by decide +kernel
theorem dX8_cut_17 : decode cX8_cut 17 = .ok (.bipush (-3), 2) := by decide +kernel
theorem dX8_cut_19 : decode cX8_cut 19 = .ok (.ireturn, 1) := by decide +kernel
theorem dX8_cut_20 : decode cX8_cut 20 = .ok (.iconst 0, 1) := by decide +kernel
theorem dX8_cut_21 : decode cX8_cut 21 = .ok (.istore_n 2, 1) := by decide +kernel
theorem dX8_cut_22 : decode cX8_cut 22 = .ok (.iconst 0, 1) := by decide +kernel
theorem dX8_cut_23 : decode cX8_cut 23 = .ok (.istore_n 3, 1) := by decide +kernel
theorem dX8_cut_24 : decode cX8_cut 24 = .ok (.iload_n 3, 1) := by decide +kernel
theorem dX8_cut_25 : decode cX8_cut 25 = .ok (.iconst 4, 1) := by decide +kernel
theorem dX8_cut_26 : decode cX8_cut 26 = .ok (.if_icmp .ge 83, 3) := by decide +kernel
theorem dX8_cut_29 : decode cX8_cut 29 = .ok (.iconst 0, 1) := by decide +kernel
theorem dX8_cut_30 : decode cX8_cut 30 = .ok (.istore 4, 2) := by decide +kernel
theorem dX8_cut_32 : decode cX8_cut 32 = .ok (.iconst 0, 1) := by decide +kernel
theorem dX8_cut_33 : decode cX8_cut 33 = .ok (.istore 5, 2) := by decide +kernel
theorem dX8_cut_35 : decode cX8_cut 35 = .ok (.iload 5, 2) := by decide +kernel
theorem dX8_cut_37 : decode cX8_cut 37 = .ok (.iload_n 1, 1) := by decide +kernel
theorem dX8_cut_38 : decode cX8_cut 38 = .ok (.if_icmp .gt 51, 3) := by decide +kernel
theorem dX8_cut_41 : decode cX8_cut 41 = .ok (.iload 4, 2) := by decide +kernel
theorem dX8_cut_43 : decode cX8_cut 43 = .ok (.aload_n 0, 1) := by decide +kernel
theorem dX8_cut_44 : decode cX8_cut 44 = .ok (.getfield 25, 3) := by decide +kernel
theorem dX8_cut_47 : decode cX8_cut 47 = .ok (.iload 5, 2) := by decide +kernel
theorem dX8_cut_49 : decode cX8_cut 49 = .ok (.iaload, 1) := by decide +kernel
theorem dX8_cut_50 : decode cX8_cut 50 = .ok (.iload_n 3, 1) := by decide +kernel
theorem dX8_cut_51 : decode cX8_cut 51 = .ok (.if_icmp .ne 7, 3) := by decide +kernel
theorem dX8_cut_54 : decode cX8_cut 54 = .ok (.iconst 1, 1) := by decide +kernel
theorem dX8_cut_55 : decode cX8_cut 55 = .ok (.goto 4, 3) := by decide +kernel
theorem dX8_cut_58 : decode cX8_cut 58 = .ok (.iconst 0, 1) := by decide +kernel
theorem dX8_cut_59 : decode cX8_cut 59 = .ok (.iadd, 1) := by decide +kernel
theorem dX8_cut_60 : decode cX8_cut 60 = .ok (.istore 4, 2) := by decide +kernel
theorem dX8_cut_62 : decode cX8_cut 62 = .ok (.iload 4, 2) := by decide +kernel
theorem dX8_cut_64 : decode cX8_cut 64 = .ok (.aload_n 0, 1) := by decide +kernel
theorem dX8_cut_65 : decode cX8_cut 65 = .ok (.getfield 28, 3) := by decide +kernel
theorem dX8_cut_68 : decode cX8_cut 68 = .ok (.iload 5, 2) := by decide +kernel
theorem dX8_cut_70 : decode cX8_cut 70 = .ok (.iaload, 1) := by decide +kernel
theorem dX8_cut_71 : decode cX8_cut 71 = .ok (.iload_n 3, 1) := by decide +kernel
theorem dX8_cut_72 : decode cX8_cut 72 = .ok (.if_icmp .ne 7, 3) := by decide +kernel
theorem dX8_cut_75 : decode cX8_cut 75 = .ok (.iconst 1, 1) := by decide +kernel
theorem dX8_cut_76 : decode cX8_cut 76 = .ok (.goto 4, 3) := by decide +kernel
theorem dX8_cut_79 : decode cX8_cut 79 = .ok (.iconst 0, 1) := by decide +kernel
theorem dX8_cut_80 : decode cX8_cut 80 = .ok (.isub, 1) := by decide +kernel
theorem dX8_cut_81 : decode cX8_cut 81 = .ok (.istore 4, 2) := by decide +kernel
theorem dX8_cut_83 : decode cX8_cut 83 = .ok (.iinc 5 1, 3) := by decide +kernel
theorem dX8_cut_86 : decode cX8_cut 86 = .ok (.goto (-51), 3) := by decide +kernel
theorem dX8_cut_89 : decode cX8_cut 89 = .ok (.iload_n 2, 1) := by decide +kernel
theorem dX8_cut_90 : decode cX8_cut 90 = .ok (.iload 4, 2) := by decide +kernel
theorem dX8_cut_92 : decode cX8_cut 92 = .ok (.ifCond .le 8, 3) := by decide +kernel
theorem dX8_cut_95 : decode cX8_cut 95 = .ok (.iload 4, 2) := by decide +kernel
theorem dX8_cut_97 : decode cX8_cut 97 = .ok (.goto 4, 3) := by decide +kernel
theorem dX8_cut_100 : decode cX8_cut 100 = .ok (.iconst 0, 1) := by decide +kernel
theorem dX8_cut_101 : decode cX8_cut 101 = .ok (.iadd, 1) := by decide +kernel
theorem dX8_cut_102 : decode cX8_cut 102 = .ok (.istore_n 2, 1) := by decide +kernel
theorem dX8_cut_103 : decode cX8_cut 103 = .ok (.iinc 3 1, 3) := by decide +kernel
theorem dX8_cut_106 : decode cX8_cut 106 = .ok (.goto (-82), 3) := by decide +kernel
theorem dX8_cut_109 : decode cX8_cut 109 = .ok (.iload_n 2, 1) := by decide +kernel
theorem dX8_cut_110 : decode cX8_cut 110 = .ok (.ireturn, 1) := by decide +kernel
theorem dX8_order_0 : decode cX8_order 0 = .ok (.aload_n 0, 1) := by decide +kernel
theorem dX8_order_1 : decode cX8_order 1 = .ok (.iconst 0, 1) := by decide +kernel
theorem dX8_order_2 : decode cX8_order 2 = .ok (.putfield 76, 3) := by decide +kernel
theorem dX8_order_5 : decode cX8_order 5 = .ok (.iload_n 1, 1) := by decide +kernel
theorem dX8_order_6 : decode cX8_order 6 = .ok (.invokestatic 103, 3) := by decide +kernel
theorem dX8_order_9 : decode cX8_order 9 = .ok (.ifCond .ne 5, 3) := by decide +kernel
theorem dX8_order_12 : decode cX8_order 12 = .ok (.iconst (-1), 1) := by decide +kernel
theorem dX8_order_13 : decode cX8_order 13 = .ok (.ireturn, 1) := by decide +kernel
theorem dX8_order_14 : decode cX8_order 14 = .ok (.iload_n 2, 1) := by decide +kernel
theorem dX8_order_15 : decode cX8_order 15 = .ok (.invokestatic 107, 3) := by decide +kernel
theorem dX8_order_18 : decode cX8_order 18 = .ok (.ifCond .eq 13, 3) := by decide +kernel
theorem dX8_order_21 : decode cX8_order 21 = .ok (.iload 5, 2) := by decide +kernel
theorem dX8_order_23 : decode cX8_order 23 = .ok (.iconst 0, 1) := by decide +kernel
theorem dX8_order_24 : decode cX8_order 24 = .ok (.iconst 1, 1) := by decide +kernel
theorem dX8_order_25 : decode cX8_order 25 = .ok (.invokestatic 82, 3) := by decide +kernel
theorem dX8_order_28 : decode cX8_order 28 = .ok (.ifCond .ne 6, 3) := by decide +kernel
theorem dX8_order_31 : decode cX8_order 31 = .ok (.bipush (-2), 2) := by decide +kernel
theorem dX8_order_33 : decode cX8_order 33 = .ok (.ireturn, 1) := by decide +kernel
theorem dX8_order_34 : decode cX8_order 34 = .ok (.aload_n 0, 1) := by decide +kernel
theorem dX8_order_35 : decode cX8_order 35 = .ok (.iload_n 1, 1) := by decide +kernel
theorem dX8_order_36 : decode cX8_order 36 = .ok (.iload_n 2, 1) := by decide +kernel
theorem dX8_order_37 : decode cX8_order 37 = .ok (.iload_n 3, 1) := by decide +kernel
theorem dX8_order_38 : decode cX8_order 38 = .ok (.iload 4, 2) := by decide +kernel
theorem dX8_order_40 : decode cX8_order 40 = .ok (.invokevirtual 110, 3) := by decide +kernel
theorem dX8_order_43 : decode cX8_order 43 = .ok (.istore 6, 2) := by decide +kernel
theorem dX8_order_45 : decode cX8_order 45 = .ok (.iload 6, 2) := by decide +kernel
theorem dX8_order_47 : decode cX8_order 47 = .ok (.ifCond .eq 10, 3) := by decide +kernel
theorem dX8_order_50 : decode cX8_order 50 = .ok (.aload_n 0, 1) := by decide +kernel
theorem dX8_order_51 : decode cX8_order 51 = .ok (.iload 6, 2) := by decide +kernel
theorem dX8_order_53 : decode cX8_order 53 = .ok (.invokevirtual 114, 3) := by decide +kernel
theorem dX8_order_56 : decode cX8_order 56 = .ok (.ireturn, 1) := by decide +kernel
theorem dX8_order_57 : decode cX8_order 57 = .ok (.aload_n 0, 1) := by decide +kernel
theorem dX8_order_58 : decode cX8_order 58 = .ok (.getfield 86, 3) := by decide +kernel
theorem dX8_order_61 : decode cX8_order 61 = .ok (.ifCond .ne 6, 3) := by decide +kernel
theorem dX8_order_64 : decode cX8_order 64 = .ok (.bipush (-3), 2) := by decide +kernel
theorem dX8_order_66 : decode cX8_order 66 = .ok (.ireturn, 1) := by decide +kernel
theorem dX8_order_67 : decode cX8_order 67 = .ok (.iload 4, 2) := by decide +kernel
theorem dX8_order_69 : decode cX8_order 69 = .ok (.aload_n 0, 1) := by decide +kernel
theorem dX8_order_70 : decode cX8_order 70 = .ok (.getfield 86, 3) := by decide +kernel
theorem dX8_order_73 : decode cX8_order 73 = .ok (.if_icmp .eq 6, 3) := by decide +kernel
theorem dX8_order_76 : decode cX8_order 76 = .ok (.bipush (-2), 2) := by decide +kernel
theorem dX8_order_78 : decode cX8_order 78 = .ok (.ireturn, 1) := by decide +kernel
theorem dX8_order_79 : decode cX8_order 79 = .ok (.iconst 0, 1) := by decide +kernel
theorem dX8_order_80 : decode cX8_order 80 = .ok (.istore 7, 2) := by decide +kernel
theorem dX8_order_82 : decode cX8_order 82 = .ok (.iconst 0, 1) := by decide +kernel
theorem dX8_order_83 : decode cX8_order 83 = .ok (.istore 8, 2) := by decide +kernel
theorem dX8_order_85 : decode cX8_order 85 = .ok (.iload 8, 2) := by decide +kernel
theorem dX8_order_87 : decode cX8_order 87 = .ok (.iload 4, 2) := by decide +kernel
theorem dX8_order_89 : decode cX8_order 89 = .ok (.if_icmp .ge 65, 3) := by decide +kernel
theorem dX8_order_92 : decode cX8_order 92 = .ok (.aload_n 0, 1) := by decide +kernel
theorem dX8_order_93 : decode cX8_order 93 = .ok (.getfield 16, 3) := by decide +kernel
theorem dX8_order_96 : decode cX8_order 96 = .ok (.bipush 50, 2) := by decide +kernel
theorem dX8_order_98 : decode cX8_order 98 = .ok (.iload_n 1, 1) := by decide +kernel
theorem dX8_order_99 : decode cX8_order 99 = .ok (.imul, 1) := by decide +kernel
theorem dX8_order_100 : decode cX8_order 100 = .ok (.iload_n 3, 1) := by decide +kernel
theorem dX8_order_101 : decode cX8_order 101 = .ok (.iadd, 1) := by decide +kernel
theorem dX8_order_102 : decode cX8_order 102 = .ok (.iload 8, 2) := by decide +kernel
theorem dX8_order_104 : decode cX8_order 104 = .ok (.iadd, 1) := by decide +kernel
theorem dX8_order_105 : decode cX8_order 105 = .ok (.iaload, 1) := by decide +kernel
theorem dX8_order_106 : decode cX8_order 106 = .ok (.istore 9, 2) := by decide +kernel
theorem dX8_order_108 : decode cX8_order 108 = .ok (.aload_n 0, 1) := by decide +kernel
theorem dX8_order_109 : decode cX8_order 109 = .ok (.iload 9, 2) := by decide +kernel
theorem dX8_order_111 : decode cX8_order 111 = .ok (.invokevirtual 138, 3) := by decide +kernel
theorem dX8_order_114 : decode cX8_order 114 = .ok (.ifCond .eq 14, 3) := by decide +kernel
theorem dX8_order_117 : decode cX8_order 117 = .ok (.iload 7, 2) := by decide +kernel
theorem dX8_order_119 : decode cX8_order 119 = .ok (.iload 9, 2) := by decide +kernel
theorem dX8_order_121 : decode cX8_order 121 = .ok (.ishr, 1) := by decide +kernel
theorem dX8_order_122 : decode cX8_order 122 = .ok (.iconst 1, 1) := by decide +kernel
theorem dX8_order_123 : decode cX8_order 123 = .ok (.iand, 1) := by decide +kernel
theorem dX8_order_124 : decode cX8_order 124 = .ok (.iconst 1, 1) := by decide +kernel
theorem dX8_order_125 : decode cX8_order 125 = .ok (.if_icmp .ne 5, 3) := by decide +kernel
theorem dX8_order_128 : decode cX8_order 128 = .ok (.iconst (-1), 1) := by decide +kernel
theorem dX8_order_129 : decode cX8_order 129 = .ok (.ireturn, 1) := by decide +kernel
theorem dX8_order_130 : decode cX8_order 130 = .ok (.iload 7, 2) := by decide +kernel
theorem dX8_order_132 : decode cX8_order 132 = .ok (.iconst 1, 1) := by decide +kernel
theorem dX8_order_133 : decode cX8_order 133 = .ok (.iload 9, 2) := by decide +kernel
theorem dX8_order_135 : decode cX8_order 135 = .ok (.ishl, 1) := by decide +kernel
theorem dX8_order_136 : decode cX8_order 136 = .ok (.ior, 1) := by decide +kernel
theorem dX8_order_137 : decode cX8_order 137 = .ok (.istore 7, 2) := by decide +kernel
theorem dX8_order_139 : decode cX8_order 139 = .ok (.aload_n 0, 1) := by decide +kernel
theorem dX8_order_140 : decode cX8_order 140 = .ok (.getfield 55, 3) := by decide +kernel
theorem dX8_order_143 : decode cX8_order 143 = .ok (.iload 9, 2) := by decide +kernel
theorem dX8_order_145 : decode cX8_order 145 = .ok (.iload 8, 2) := by decide +kernel
theorem dX8_order_147 : decode cX8_order 147 = .ok (.iastore, 1) := by decide +kernel
theorem dX8_order_148 : decode cX8_order 148 = .ok (.iinc 8 1, 3) := by decide +kernel
theorem dX8_order_151 : decode cX8_order 151 = .ok (.goto (-66), 3) := by decide +kernel
theorem dX8_order_154 : decode cX8_order 154 = .ok (.iload 5, 2) := by decide +kernel
theorem dX8_order_156 : decode cX8_order 156 = .ok (.iconst 1, 1) := by decide +kernel
theorem dX8_order_157 : decode cX8_order 157 = .ok (.if_icmp .ne 10, 3) := by decide +kernel
theorem dX8_order_160 : decode cX8_order 160 = .ok (.aload_n 0, 1) := by decide +kernel
theorem dX8_order_161 : decode cX8_order 161 = .ok (.invokevirtual 190, 3) := by decide +kernel
theorem dX8_order_164 : decode cX8_order 164 = .ok (.goto 21, 3) := by decide +kernel
theorem dX8_order_167 : decode cX8_order 167 = .ok (.aload_n 0, 1) := by decide +kernel
theorem dX8_order_168 : decode cX8_order 168 = .ok (.invokevirtual 190, 3) := by decide +kernel
theorem dX8_order_171 : decode cX8_order 171 = .ok (.bipush (-9), 2) := by decide +kernel
theorem dX8_order_173 : decode cX8_order 173 = .ok (.if_icmp .eq 8, 3) := by decide +kernel
theorem dX8_order_176 : decode cX8_order 176 = .ok (.bipush (-9), 2) := by decide +kernel
theorem dX8_order_178 : decode cX8_order 178 = .ok (.goto 7, 3) := by decide +kernel
theorem dX8_order_181 : decode cX8_order 181 = .ok (.aload_n 0, 1) := by decide +kernel
theorem dX8_order_182 : decode cX8_order 182 = .ok (.invokevirtual 193, 3) := by decide +kernel
theorem dX8_order_185 : decode cX8_order 185 = .ok (.ireturn, 1) := by decide +kernel
theorem dX8_changes_0 : decode cX8_changes 0 = .ok (.iconst 0, 1) := by decide +kernel
theorem dX8_changes_1 : decode cX8_changes 1 = .ok (.istore_n 1, 1) := by decide +kernel
theorem dX8_changes_2 : decode cX8_changes 2 = .ok (.iconst 0, 1) := by decide +kernel
theorem dX8_changes_3 : decode cX8_changes 3 = .ok (.istore_n 2, 1) := by decide +kernel
theorem dX8_changes_4 : decode cX8_changes 4 = .ok (.iload_n 2, 1) := by decide +kernel
theorem dX8_changes_5 : decode cX8_changes 5 = .ok (.aload_n 0, 1) := by decide +kernel
theorem dX8_changes_6 : decode cX8_changes 6 = .ok (.getfield 86, 3) := by decide +kernel
theorem dX8_changes_9 : decode cX8_changes 9 = .ok (.if_icmp .ge 50, 3) := by decide +kernel
theorem dX8_changes_12 : decode cX8_changes 12 = .ok (.iload_n 2, 1) := by decide +kernel
theorem dX8_changes_13 : decode cX8_changes 13 = .ok (.iconst 1, 1) := by decide +kernel
theorem dX8_changes_14 : decode cX8_changes 14 = .ok (.iadd, 1) := by decide +kernel
theorem dX8_changes_15 : decode cX8_changes 15 = .ok (.istore_n 3, 1) := by decide +kernel
theorem dX8_changes_16 : decode cX8_changes 16 = .ok (.iload_n 3, 1) := by decide +kernel
theorem dX8_changes_17 : decode cX8_changes 17 = .ok (.aload_n 0, 1) := by decide +kernel
theorem dX8_changes_18 : decode cX8_changes 18 = .ok (.getfield 86, 3) := by decide +kernel
theorem dX8_changes_21 : decode cX8_changes 21 = .ok (.if_icmp .ge 32, 3) := by decide +kernel
theorem dX8_changes_24 : decode cX8_changes 24 = .ok (.iload_n 1, 1) := by decide +kernel
theorem dX8_changes_25 : decode cX8_changes 25 = .ok (.aload_n 0, 1) := by decide +kernel
theorem dX8_changes_26 : decode cX8_changes 26 = .ok (.getfield 55, 3) := by decide +kernel
theorem dX8_changes_29 : decode cX8_changes 29 = .ok (.iload_n 3, 1) := by decide +kernel
theorem dX8_changes_30 : decode cX8_changes 30 = .ok (.iaload, 1) := by decide +kernel
theorem dX8_changes_31 : decode cX8_changes 31 = .ok (.aload_n 0, 1) := by decide +kernel
theorem dX8_changes_32 : decode cX8_changes 32 = .ok (.getfield 55, 3) := by decide +kernel
theorem dX8_changes_35 : decode cX8_changes 35 = .ok (.iload_n 2, 1) := by decide +kernel
theorem dX8_changes_36 : decode cX8_changes 36 = .ok (.iaload, 1) := by decide +kernel
theorem dX8_changes_37 : decode cX8_changes 37 = .ok (.if_icmp .ge 7, 3) := by decide +kernel
theorem dX8_changes_40 : decode cX8_changes 40 = .ok (.iconst 1, 1) := by decide +kernel
theorem dX8_changes_41 : decode cX8_changes 41 = .ok (.goto 4, 3) := by decide +kernel
theorem dX8_changes_44 : decode cX8_changes 44 = .ok (.iconst 0, 1) := by decide +kernel
theorem dX8_changes_45 : decode cX8_changes 45 = .ok (.iadd, 1) := by decide +kernel
theorem dX8_changes_46 : decode cX8_changes 46 = .ok (.istore_n 1, 1) := by decide +kernel
theorem dX8_changes_47 : decode cX8_changes 47 = .ok (.iinc 3 1, 3) := by decide +kernel
theorem dX8_changes_50 : decode cX8_changes 50 = .ok (.goto (-34), 3) := by decide +kernel
theorem dX8_changes_53 : decode cX8_changes 53 = .ok (.iinc 2 1, 3) := by decide +kernel
theorem dX8_changes_56 : decode cX8_changes 56 = .ok (.goto (-52), 3) := by decide +kernel
theorem dX8_changes_59 : decode cX8_changes 59 = .ok (.iload_n 1, 1) := by decide +kernel
theorem dX8_changes_60 : decode cX8_changes 60 = .ok (.ireturn, 1) := by decide +kernel
theorem dX8_barred_0 : decode cX8_barred 0 = .ok (.iconst 0, 1) := by decide +kernel
theorem dX8_barred_1 : decode cX8_barred 1 = .ok (.istore_n 1, 1) := by decide +kernel
theorem dX8_barred_2 : decode cX8_barred 2 = .ok (.iload_n 1, 1) := by decide +kernel
theorem dX8_barred_3 : decode cX8_barred 3 = .ok (.aload_n 0, 1) := by decide +kernel
theorem dX8_barred_4 : decode cX8_barred 4 = .ok (.getfield 86, 3) := by decide +kernel
theorem dX8_barred_7 : decode cX8_barred 7 = .ok (.if_icmp .ge 64, 3) := by decide +kernel
theorem dX8_barred_10 : decode cX8_barred 10 = .ok (.iload_n 1, 1) := by decide +kernel
theorem dX8_barred_11 : decode cX8_barred 11 = .ok (.iconst 1, 1) := by decide +kernel
theorem dX8_barred_12 : decode cX8_barred 12 = .ok (.iadd, 1) := by decide +kernel
theorem dX8_barred_13 : decode cX8_barred 13 = .ok (.istore_n 2, 1) := by decide +kernel
theorem dX8_barred_14 : decode cX8_barred 14 = .ok (.iload_n 2, 1) := by decide +kernel
theorem dX8_barred_15 : decode cX8_barred 15 = .ok (.aload_n 0, 1) := by decide +kernel
theorem dX8_barred_16 : decode cX8_barred 16 = .ok (.getfield 86, 3) := by decide +kernel
theorem dX8_barred_19 : decode cX8_barred 19 = .ok (.if_icmp .ge 46, 3) := by decide +kernel
