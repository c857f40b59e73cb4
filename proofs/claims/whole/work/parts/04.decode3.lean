theorem dX8_barred_22 : decode cX8_barred 22 = .ok (.aload_n 0, 1) := by decide +kernel
theorem dX8_barred_23 : decode cX8_barred 23 = .ok (.getfield 55, 3) := by decide +kernel
theorem dX8_barred_26 : decode cX8_barred 26 = .ok (.iload_n 2, 1) := by decide +kernel
theorem dX8_barred_27 : decode cX8_barred 27 = .ok (.iaload, 1) := by decide +kernel
theorem dX8_barred_28 : decode cX8_barred 28 = .ok (.aload_n 0, 1) := by decide +kernel
theorem dX8_barred_29 : decode cX8_barred 29 = .ok (.getfield 55, 3) := by decide +kernel
theorem dX8_barred_32 : decode cX8_barred 32 = .ok (.iload_n 1, 1) := by decide +kernel
theorem dX8_barred_33 : decode cX8_barred 33 = .ok (.iaload, 1) := by decide +kernel
theorem dX8_barred_34 : decode cX8_barred 34 = .ok (.if_icmp .ge 25, 3) := by decide +kernel
theorem dX8_barred_37 : decode cX8_barred 37 = .ok (.aload_n 0, 1) := by decide +kernel
theorem dX8_barred_38 : decode cX8_barred 38 = .ok (.getfield 22, 3) := by decide +kernel
theorem dX8_barred_41 : decode cX8_barred 41 = .ok (.iload_n 2, 1) := by decide +kernel
theorem dX8_barred_42 : decode cX8_barred 42 = .ok (.iaload, 1) := by decide +kernel
theorem dX8_barred_43 : decode cX8_barred 43 = .ok (.aload_n 0, 1) := by decide +kernel
theorem dX8_barred_44 : decode cX8_barred 44 = .ok (.getfield 22, 3) := by decide +kernel
theorem dX8_barred_47 : decode cX8_barred 47 = .ok (.iload_n 1, 1) := by decide +kernel
theorem dX8_barred_48 : decode cX8_barred 48 = .ok (.iaload, 1) := by decide +kernel
theorem dX8_barred_49 : decode cX8_barred 49 = .ok (.if_icmp .ge 10, 3) := by decide +kernel
theorem dX8_barred_52 : decode cX8_barred 52 = .ok (.bipush 10, 2) := by decide +kernel
theorem dX8_barred_54 : decode cX8_barred 54 = .ok (.iload_n 1, 1) := by decide +kernel
theorem dX8_barred_55 : decode cX8_barred 55 = .ok (.imul, 1) := by decide +kernel
theorem dX8_barred_56 : decode cX8_barred 56 = .ok (.iload_n 2, 1) := by decide +kernel
theorem dX8_barred_57 : decode cX8_barred 57 = .ok (.iadd, 1) := by decide +kernel
theorem dX8_barred_58 : decode cX8_barred 58 = .ok (.ireturn, 1) := by decide +kernel
theorem dX8_barred_59 : decode cX8_barred 59 = .ok (.iinc 2 1, 3) := by decide +kernel
theorem dX8_barred_62 : decode cX8_barred 62 = .ok (.goto (-48), 3) := by decide +kernel
theorem dX8_barred_65 : decode cX8_barred 65 = .ok (.iinc 1 1, 3) := by decide +kernel
theorem dX8_barred_68 : decode cX8_barred 68 = .ok (.goto (-66), 3) := by decide +kernel
theorem dX8_barred_71 : decode cX8_barred 71 = .ok (.bipush (-9), 2) := by decide +kernel
theorem dX8_barred_73 : decode cX8_barred 73 = .ok (.ireturn, 1) := by decide +kernel
theorem dX8_mayStand_0 : decode cX8_mayStand 0 = .ok (.iconst 0, 1) := by decide +kernel
theorem dX8_mayStand_1 : decode cX8_mayStand 1 = .ok (.istore_n 3, 1) := by decide +kernel
theorem dX8_mayStand_2 : decode cX8_mayStand 2 = .ok (.iload_n 3, 1) := by decide +kernel
theorem dX8_mayStand_3 : decode cX8_mayStand 3 = .ok (.iload_n 1, 1) := by decide +kernel
theorem dX8_mayStand_4 : decode cX8_mayStand 4 = .ok (.if_icmp .ge 34, 3) := by decide +kernel
theorem dX8_mayStand_7 : decode cX8_mayStand 7 = .ok (.aload_n 0, 1) := by decide +kernel
theorem dX8_mayStand_8 : decode cX8_mayStand 8 = .ok (.getfield 22, 3) := by decide +kernel
theorem dX8_mayStand_11 : decode cX8_mayStand 11 = .ok (.iload_n 1, 1) := by decide +kernel
theorem dX8_mayStand_12 : decode cX8_mayStand 12 = .ok (.iaload, 1) := by decide +kernel
theorem dX8_mayStand_13 : decode cX8_mayStand 13 = .ok (.aload_n 0, 1) := by decide +kernel
theorem dX8_mayStand_14 : decode cX8_mayStand 14 = .ok (.getfield 22, 3) := by decide +kernel
theorem dX8_mayStand_17 : decode cX8_mayStand 17 = .ok (.iload_n 3, 1) := by decide +kernel
theorem dX8_mayStand_18 : decode cX8_mayStand 18 = .ok (.iaload, 1) := by decide +kernel
theorem dX8_mayStand_19 : decode cX8_mayStand 19 = .ok (.if_icmp .ge 13, 3) := by decide +kernel
theorem dX8_mayStand_22 : decode cX8_mayStand 22 = .ok (.iload_n 2, 1) := by decide +kernel
theorem dX8_mayStand_23 : decode cX8_mayStand 23 = .ok (.iload_n 3, 1) := by decide +kernel
theorem dX8_mayStand_24 : decode cX8_mayStand 24 = .ok (.ishr, 1) := by decide +kernel
theorem dX8_mayStand_25 : decode cX8_mayStand 25 = .ok (.iconst 1, 1) := by decide +kernel
theorem dX8_mayStand_26 : decode cX8_mayStand 26 = .ok (.iand, 1) := by decide +kernel
theorem dX8_mayStand_27 : decode cX8_mayStand 27 = .ok (.ifCond .ne 5, 3) := by decide +kernel
theorem dX8_mayStand_30 : decode cX8_mayStand 30 = .ok (.iconst 0, 1) := by decide +kernel
theorem dX8_mayStand_31 : decode cX8_mayStand 31 = .ok (.ireturn, 1) := by decide +kernel
theorem dX8_mayStand_32 : decode cX8_mayStand 32 = .ok (.iinc 3 1, 3) := by decide +kernel
theorem dX8_mayStand_35 : decode cX8_mayStand 35 = .ok (.goto (-33), 3) := by decide +kernel
theorem dX8_mayStand_38 : decode cX8_mayStand 38 = .ok (.iconst 1, 1) := by decide +kernel
theorem dX8_mayStand_39 : decode cX8_mayStand 39 = .ok (.ireturn, 1) := by decide +kernel
theorem dX8_coming_0 : decode cX8_coming 0 = .ok (.aload_n 0, 1) := by decide +kernel
theorem dX8_coming_1 : decode cX8_coming 1 = .ok (.getfield 86, 3) := by decide +kernel
theorem dX8_coming_4 : decode cX8_coming 4 = .ok (.ifCond .ne 6, 3) := by decide +kernel
theorem dX8_coming_7 : decode cX8_coming 7 = .ok (.bipush (-3), 2) := by decide +kernel
theorem dX8_coming_9 : decode cX8_coming 9 = .ok (.ireturn, 1) := by decide +kernel
theorem dX8_coming_10 : decode cX8_coming 10 = .ok (.iconst 1, 1) := by decide +kernel
theorem dX8_coming_11 : decode cX8_coming 11 = .ok (.aload_n 0, 1) := by decide +kernel
theorem dX8_coming_12 : decode cX8_coming 12 = .ok (.getfield 86, 3) := by decide +kernel
theorem dX8_coming_15 : decode cX8_coming 15 = .ok (.ishl, 1) := by decide +kernel
theorem dX8_coming_16 : decode cX8_coming 16 = .ok (.istore_n 1, 1) := by decide +kernel
theorem dX8_coming_17 : decode cX8_coming 17 = .ok (.iconst 0, 1) := by decide +kernel
theorem dX8_coming_18 : decode cX8_coming 18 = .ok (.istore_n 2, 1) := by decide +kernel
theorem dX8_coming_19 : decode cX8_coming 19 = .ok (.iload_n 2, 1) := by decide +kernel
theorem dX8_coming_20 : decode cX8_coming 20 = .ok (.iload_n 1, 1) := by decide +kernel
theorem dX8_coming_21 : decode cX8_coming 21 = .ok (.if_icmp .ge 24, 3) := by decide +kernel
theorem dX8_coming_24 : decode cX8_coming 24 = .ok (.aload_n 0, 1) := by decide +kernel
theorem dX8_coming_25 : decode cX8_coming 25 = .ok (.getfield 58, 3) := by decide +kernel
theorem dX8_coming_28 : decode cX8_coming 28 = .ok (.iload_n 2, 1) := by decide +kernel
theorem dX8_coming_29 : decode cX8_coming 29 = .ok (.iload_n 2, 1) := by decide +kernel
theorem dX8_coming_30 : decode cX8_coming 30 = .ok (.ifCond .ne 7, 3) := by decide +kernel
theorem dX8_coming_33 : decode cX8_coming 33 = .ok (.iconst 1, 1) := by decide +kernel
theorem dX8_coming_34 : decode cX8_coming 34 = .ok (.goto 4, 3) := by decide +kernel
theorem dX8_coming_37 : decode cX8_coming 37 = .ok (.iconst 0, 1) := by decide +kernel
theorem dX8_coming_38 : decode cX8_coming 38 = .ok (.iastore, 1) := by decide +kernel
theorem dX8_coming_39 : decode cX8_coming 39 = .ok (.iinc 2 1, 3) := by decide +kernel
theorem dX8_coming_42 : decode cX8_coming 42 = .ok (.goto (-23), 3) := by decide +kernel
theorem dX8_coming_45 : decode cX8_coming 45 = .ok (.iconst 0, 1) := by decide +kernel
theorem dX8_coming_46 : decode cX8_coming 46 = .ok (.istore_n 2, 1) := by decide +kernel
theorem dX8_coming_47 : decode cX8_coming 47 = .ok (.iload_n 2, 1) := by decide +kernel
theorem dX8_coming_48 : decode cX8_coming 48 = .ok (.iload_n 1, 1) := by decide +kernel
theorem dX8_coming_49 : decode cX8_coming 49 = .ok (.if_icmp .ge 61, 3) := by decide +kernel
theorem dX8_coming_52 : decode cX8_coming 52 = .ok (.iconst 0, 1) := by decide +kernel
theorem dX8_coming_53 : decode cX8_coming 53 = .ok (.istore_n 3, 1) := by decide +kernel
theorem dX8_coming_54 : decode cX8_coming 54 = .ok (.iload_n 3, 1) := by decide +kernel
theorem dX8_coming_55 : decode cX8_coming 55 = .ok (.aload_n 0, 1) := by decide +kernel
theorem dX8_coming_56 : decode cX8_coming 56 = .ok (.getfield 86, 3) := by decide +kernel
theorem dX8_coming_59 : decode cX8_coming 59 = .ok (.if_icmp .ge 45, 3) := by decide +kernel
theorem dX8_coming_62 : decode cX8_coming 62 = .ok (.iload_n 2, 1) := by decide +kernel
theorem dX8_coming_63 : decode cX8_coming 63 = .ok (.iload_n 3, 1) := by decide +kernel
theorem dX8_coming_64 : decode cX8_coming 64 = .ok (.ishr, 1) := by decide +kernel
theorem dX8_coming_65 : decode cX8_coming 65 = .ok (.iconst 1, 1) := by decide +kernel
theorem dX8_coming_66 : decode cX8_coming 66 = .ok (.iand, 1) := by decide +kernel
theorem dX8_coming_67 : decode cX8_coming 67 = .ok (.ifCond .ne 31, 3) := by decide +kernel
theorem dX8_coming_70 : decode cX8_coming 70 = .ok (.aload_n 0, 1) := by decide +kernel
theorem dX8_coming_71 : decode cX8_coming 71 = .ok (.iload_n 3, 1) := by decide +kernel
theorem dX8_coming_72 : decode cX8_coming 72 = .ok (.iload_n 2, 1) := by decide +kernel
theorem dX8_coming_73 : decode cX8_coming 73 = .ok (.invokevirtual 196, 3) := by decide +kernel
theorem dX8_coming_76 : decode cX8_coming 76 = .ok (.ifCond .eq 22, 3) := by decide +kernel
theorem dX8_coming_79 : decode cX8_coming 79 = .ok (.aload_n 0, 1) := by decide +kernel
theorem dX8_coming_80 : decode cX8_coming 80 = .ok (.getfield 58, 3) := by decide +kernel
theorem dX8_coming_83 : decode cX8_coming 83 = .ok (.iload_n 2, 1) := by decide +kernel
theorem dX8_coming_84 : decode cX8_coming 84 = .ok (.iconst 1, 1) := by decide +kernel
theorem dX8_coming_85 : decode cX8_coming 85 = .ok (.iload_n 3, 1) := by decide +kernel
theorem dX8_coming_86 : decode cX8_coming 86 = .ok (.ishl, 1) := by decide +kernel
theorem dX8_coming_87 : decode cX8_coming 87 = .ok (.ior, 1) := by decide +kernel
theorem dX8_coming_88 : decode cX8_coming 88 = .ok (.dup2, 1) := by decide +kernel
theorem dX8_coming_89 : decode cX8_coming 89 = .ok (.iaload, 1) := by decide +kernel
theorem dX8_coming_90 : decode cX8_coming 90 = .ok (.aload_n 0, 1) := by decide +kernel
theorem dX8_coming_91 : decode cX8_coming 91 = .ok (.getfield 58, 3) := by decide +kernel
theorem dX8_coming_94 : decode cX8_coming 94 = .ok (.iload_n 2, 1) := by decide +kernel
theorem dX8_coming_95 : decode cX8_coming 95 = .ok (.iaload, 1) := by decide +kernel
theorem dX8_coming_96 : decode cX8_coming 96 = .ok (.iadd, 1) := by decide +kernel
theorem dX8_coming_97 : decode cX8_coming 97 = .ok (.iastore, 1) := by decide +kernel
theorem dX8_coming_98 : decode cX8_coming 98 = .ok (.iinc 3 1, 3) := by decide +kernel
theorem dX8_coming_101 : decode cX8_coming 101 = .ok (.goto (-47), 3) := by decide +kernel
theorem dX8_coming_104 : decode cX8_coming 104 = .ok (.iinc 2 1, 3) := by decide +kernel
theorem dX8_coming_107 : decode cX8_coming 107 = .ok (.goto (-60), 3) := by decide +kernel
theorem dX8_coming_110 : decode cX8_coming 110 = .ok (.aload_n 0, 1) := by decide +kernel
theorem dX8_coming_111 : decode cX8_coming 111 = .ok (.getfield 58, 3) := by decide +kernel
theorem dX8_coming_114 : decode cX8_coming 114 = .ok (.iload_n 1, 1) := by decide +kernel
theorem dX8_coming_115 : decode cX8_coming 115 = .ok (.iconst 1, 1) := by decide +kernel
theorem dX8_coming_116 : decode cX8_coming 116 = .ok (.isub, 1) := by decide +kernel
theorem dX8_coming_117 : decode cX8_coming 117 = .ok (.iaload, 1) := by decide +kernel
theorem dX8_coming_118 : decode cX8_coming 118 = .ok (.ireturn, 1) := by decide +kernel
theorem dX8_readers_0 : decode cX8_readers 0 = .ok (.iload_n 2, 1) := by decide +kernel
theorem dX8_readers_1 : decode cX8_readers 1 = .ok (.iload_n 1, 1) := by decide +kernel
theorem dX8_readers_2 : decode cX8_readers 2 = .ok (.isub, 1) := by decide +kernel
theorem dX8_readers_3 : decode cX8_readers 3 = .ok (.istore_n 3, 1) := by decide +kernel
theorem dX8_readers_4 : decode cX8_readers 4 = .ok (.aload_n 0, 1) := by decide +kernel
theorem dX8_readers_5 : decode cX8_readers 5 = .ok (.getfield 89, 3) := by decide +kernel
theorem dX8_readers_8 : decode cX8_readers 8 = .ok (.ifCond .eq 22, 3) := by decide +kernel
theorem dX8_readers_11 : decode cX8_readers 11 = .ok (.aload_n 0, 1) := by decide +kernel
theorem dX8_readers_12 : decode cX8_readers 12 = .ok (.getfield 86, 3) := by decide +kernel
theorem dX8_readers_15 : decode cX8_readers 15 = .ok (.iload_n 3, 1) := by decide +kernel
theorem dX8_readers_16 : decode cX8_readers 16 = .ok (.isub, 1) := by decide +kernel
theorem dX8_readers_17 : decode cX8_readers 17 = .ok (.iload_n 3, 1) := by decide +kernel
theorem dX8_readers_18 : decode cX8_readers 18 = .ok (.if_icmp .ge 12, 3) := by decide +kernel
theorem dX8_readers_21 : decode cX8_readers 21 = .ok (.aload_n 0, 1) := by decide +kernel
theorem dX8_readers_22 : decode cX8_readers 22 = .ok (.getfield 86, 3) := by decide +kernel
theorem dX8_readers_25 : decode cX8_readers 25 = .ok (.iload_n 3, 1) := by decide +kernel
theorem dX8_readers_26 : decode cX8_readers 26 = .ok (.isub, 1) := by decide +kernel
theorem dX8_readers_27 : decode cX8_readers 27 = .ok (.goto 4, 3) := by decide +kernel
theorem dX8_readers_30 : decode cX8_readers 30 = .ok (.iload_n 3, 1) := by decide +kernel
theorem dX8_readers_31 : decode cX8_readers 31 = .ok (.iconst 1, 1) := by decide +kernel
theorem dX8_readers_32 : decode cX8_readers 32 = .ok (.isub, 1) := by decide +kernel
theorem dX8_readers_33 : decode cX8_readers 33 = .ok (.ireturn, 1) := by decide +kernel
theorem dX8_layLetters_0 : decode cX8_layLetters 0 = .ok (.iconst 1, 1) := by decide +kernel
theorem dX8_layLetters_1 : decode cX8_layLetters 1 = .ok (.aload_n 0, 1) := by decide +kernel
theorem dX8_layLetters_2 : decode cX8_layLetters 2 = .ok (.getfield 86, 3) := by decide +kernel
theorem dX8_layLetters_5 : decode cX8_layLetters 5 = .ok (.ishl, 1) := by decide +kernel
theorem dX8_layLetters_6 : decode cX8_layLetters 6 = .ok (.iconst 1, 1) := by decide +kernel
theorem dX8_layLetters_7 : decode cX8_layLetters 7 = .ok (.isub, 1) := by decide +kernel
theorem dX8_layLetters_8 : decode cX8_layLetters 8 = .ok (.istore_n 1, 1) := by decide +kernel
theorem dX8_layLetters_9 : decode cX8_layLetters 9 = .ok (.iload_n 1, 1) := by decide +kernel
theorem dX8_layLetters_10 : decode cX8_layLetters 10 = .ok (.istore_n 2, 1) := by decide +kernel
theorem dX8_layLetters_11 : decode cX8_layLetters 11 = .ok (.iload_n 2, 1) := by decide +kernel
theorem dX8_layLetters_12 : decode cX8_layLetters 12 = .ok (.ifCond .lt 150, 3) := by decide +kernel
theorem dX8_layLetters_15 : decode cX8_layLetters 15 = .ok (.iconst 0, 1) := by decide +kernel
theorem dX8_layLetters_16 : decode cX8_layLetters 16 = .ok (.istore_n 3, 1) := by decide +kernel
theorem dX8_layLetters_17 : decode cX8_layLetters 17 = .ok (.iload_n 3, 1) := by decide +kernel
theorem dX8_layLetters_18 : decode cX8_layLetters 18 = .ok (.aload_n 0, 1) := by decide +kernel
theorem dX8_layLetters_19 : decode cX8_layLetters 19 = .ok (.getfield 86, 3) := by decide +kernel
theorem dX8_layLetters_22 : decode cX8_layLetters 22 = .ok (.if_icmp .ge 18, 3) := by decide +kernel
theorem dX8_layLetters_25 : decode cX8_layLetters 25 = .ok (.iload_n 2, 1) := by decide +kernel
theorem dX8_layLetters_26 : decode cX8_layLetters 26 = .ok (.iload_n 3, 1) := by decide +kernel
theorem dX8_layLetters_27 : decode cX8_layLetters 27 = .ok (.ishr, 1) := by decide +kernel
theorem dX8_layLetters_28 : decode cX8_layLetters 28 = .ok (.iconst 1, 1) := by decide +kernel
theorem dX8_layLetters_29 : decode cX8_layLetters 29 = .ok (.iand, 1) := by decide +kernel
theorem dX8_layLetters_30 : decode cX8_layLetters 30 = .ok (.iconst 1, 1) := by decide +kernel
theorem dX8_layLetters_31 : decode cX8_layLetters 31 = .ok (.if_icmp .ne 9, 3) := by decide +kernel
theorem dX8_layLetters_34 : decode cX8_layLetters 34 = .ok (.iinc 3 1, 3) := by decide +kernel
theorem dX8_layLetters_37 : decode cX8_layLetters 37 = .ok (.goto (-20), 3) := by decide +kernel
theorem dX8_layLetters_40 : decode cX8_layLetters 40 = .ok (.aload_n 0, 1) := by decide +kernel
theorem dX8_layLetters_41 : decode cX8_layLetters 41 = .ok (.getfield 61, 3) := by decide +kernel
theorem dX8_layLetters_44 : decode cX8_layLetters 44 = .ok (.iload_n 2, 1) := by decide +kernel
theorem dX8_layLetters_45 : decode cX8_layLetters 45 = .ok (.iload_n 2, 1) := by decide +kernel
theorem dX8_layLetters_46 : decode cX8_layLetters 46 = .ok (.iload_n 1, 1) := by decide +kernel
theorem dX8_layLetters_47 : decode cX8_layLetters 47 = .ok (.if_icmp .ne 7, 3) := by decide +kernel
theorem dX8_layLetters_50 : decode cX8_layLetters 50 = .ok (.iconst 0, 1) := by decide +kernel
theorem dX8_layLetters_51 : decode cX8_layLetters 51 = .ok (.goto 6, 3) := by decide +kernel
theorem dX8_layLetters_54 : decode cX8_layLetters 54 = .ok (.sipush 1000, 3) := by decide +kernel
theorem dX8_layLetters_57 : decode cX8_layLetters 57 = .ok (.iastore, 1) := by decide +kernel
theorem dX8_layLetters_58 : decode cX8_layLetters 58 = .ok (.iload_n 3, 1) := by decide +kernel
theorem dX8_layLetters_59 : decode cX8_layLetters 59 = .ok (.iconst 1, 1) := by decide +kernel
theorem dX8_layLetters_60 : decode cX8_layLetters 60 = .ok (.iadd, 1) := by decide +kernel
theorem dX8_layLetters_61 : decode cX8_layLetters 61 = .ok (.istore 4, 2) := by decide +kernel
theorem dX8_layLetters_63 : decode cX8_layLetters 63 = .ok (.iload 4, 2) := by decide +kernel
theorem dX8_layLetters_65 : decode cX8_layLetters 65 = .ok (.aload_n 0, 1) := by decide +kernel
theorem dX8_layLetters_66 : decode cX8_layLetters 66 = .ok (.getfield 86, 3) := by decide +kernel
theorem dX8_layLetters_69 : decode cX8_layLetters 69 = .ok (.if_icmp .ge 87, 3) := by decide +kernel
theorem dX8_layLetters_72 : decode cX8_layLetters 72 = .ok (.iload_n 2, 1) := by decide +kernel
theorem dX8_layLetters_73 : decode cX8_layLetters 73 = .ok (.iload 4, 2) := by decide +kernel
theorem dX8_layLetters_75 : decode cX8_layLetters 75 = .ok (.ishr, 1) := by decide +kernel
theorem dX8_layLetters_76 : decode cX8_layLetters 76 = .ok (.iconst 1, 1) := by decide +kernel
theorem dX8_layLetters_77 : decode cX8_layLetters 77 = .ok (.iand, 1) := by decide +kernel
theorem dX8_layLetters_78 : decode cX8_layLetters 78 = .ok (.ifCond .ne 72, 3) := by decide +kernel
theorem dX8_layLetters_81 : decode cX8_layLetters 81 = .ok (.aload_n 0, 1) := by decide +kernel
theorem dX8_layLetters_82 : decode cX8_layLetters 82 = .ok (.getfield 28, 3) := by decide +kernel
theorem dX8_layLetters_85 : decode cX8_layLetters 85 = .ok (.iload_n 3, 1) := by decide +kernel
theorem dX8_layLetters_86 : decode cX8_layLetters 86 = .ok (.iaload, 1) := by decide +kernel
theorem dX8_layLetters_87 : decode cX8_layLetters 87 = .ok (.aload_n 0, 1) := by decide +kernel
theorem dX8_layLetters_88 : decode cX8_layLetters 88 = .ok (.getfield 28, 3) := by decide +kernel
theorem dX8_layLetters_91 : decode cX8_layLetters 91 = .ok (.iload 4, 2) := by decide +kernel
theorem dX8_layLetters_93 : decode cX8_layLetters 93 = .ok (.iaload, 1) := by decide +kernel
theorem dX8_layLetters_94 : decode cX8_layLetters 94 = .ok (.if_icmp .eq 56, 3) := by decide +kernel
theorem dX8_layLetters_97 : decode cX8_layLetters 97 = .ok (.aload_n 0, 1) := by decide +kernel
theorem dX8_layLetters_98 : decode cX8_layLetters 98 = .ok (.iload_n 3, 1) := by decide +kernel
theorem dX8_layLetters_99 : decode cX8_layLetters 99 = .ok (.iload 4, 2) := by decide +kernel
theorem dX8_layLetters_101 : decode cX8_layLetters 101 = .ok (.invokevirtual 199, 3) := by decide +kernel
theorem dX8_layLetters_104 : decode cX8_layLetters 104 = .ok (.aload_n 0, 1) := by decide +kernel
theorem dX8_layLetters_105 : decode cX8_layLetters 105 = .ok (.getfield 61, 3) := by decide +kernel
theorem dX8_layLetters_108 : decode cX8_layLetters 108 = .ok (.iload_n 2, 1) := by decide +kernel
theorem dX8_layLetters_109 : decode cX8_layLetters 109 = .ok (.iconst 1, 1) := by decide +kernel
theorem dX8_layLetters_110 : decode cX8_layLetters 110 = .ok (.iload_n 3, 1) := by decide +kernel
theorem dX8_layLetters_111 : decode cX8_layLetters 111 = .ok (.ishl, 1) := by decide +kernel
theorem dX8_layLetters_112 : decode cX8_layLetters 112 = .ok (.ior, 1) := by decide +kernel
theorem dX8_layLetters_113 : decode cX8_layLetters 113 = .ok (.iconst 1, 1) := by decide +kernel
theorem dX8_layLetters_114 : decode cX8_layLetters 114 = .ok (.iload 4, 2) := by decide +kernel
theorem dX8_layLetters_116 : decode cX8_layLetters 116 = .ok (.ishl, 1) := by decide +kernel
theorem dX8_layLetters_117 : decode cX8_layLetters 117 = .ok (.ior, 1) := by decide +kernel
theorem dX8_layLetters_118 : decode cX8_layLetters 118 = .ok (.iaload, 1) := by decide +kernel
theorem dX8_layLetters_119 : decode cX8_layLetters 119 = .ok (.iadd, 1) := by decide +kernel
theorem dX8_layLetters_120 : decode cX8_layLetters 120 = .ok (.istore 5, 2) := by decide +kernel
theorem dX8_layLetters_122 : decode cX8_layLetters 122 = .ok (.aload_n 0, 1) := by decide +kernel
theorem dX8_layLetters_123 : decode cX8_layLetters 123 = .ok (.getfield 61, 3) := by decide +kernel
theorem dX8_layLetters_126 : decode cX8_layLetters 126 = .ok (.iload_n 2, 1) := by decide +kernel
theorem dX8_layLetters_127 : decode cX8_layLetters 127 = .ok (.iload 5, 2) := by decide +kernel
theorem dX8_layLetters_129 : decode cX8_layLetters 129 = .ok (.aload_n 0, 1) := by decide +kernel
theorem dX8_layLetters_130 : decode cX8_layLetters 130 = .ok (.getfield 61, 3) := by decide +kernel
theorem dX8_layLetters_133 : decode cX8_layLetters 133 = .ok (.iload_n 2, 1) := by decide +kernel
theorem dX8_layLetters_134 : decode cX8_layLetters 134 = .ok (.iaload, 1) := by decide +kernel
theorem dX8_layLetters_135 : decode cX8_layLetters 135 = .ok (.if_icmp .ge 8, 3) := by decide +kernel
theorem dX8_layLetters_138 : decode cX8_layLetters 138 = .ok (.iload 5, 2) := by decide +kernel
theorem dX8_layLetters_140 : decode cX8_layLetters 140 = .ok (.goto 9, 3) := by decide +kernel
theorem dX8_layLetters_143 : decode cX8_layLetters 143 = .ok (.aload_n 0, 1) := by decide +kernel
theorem dX8_layLetters_144 : decode cX8_layLetters 144 = .ok (.getfield 61, 3) := by decide +kernel
theorem dX8_layLetters_147 : decode cX8_layLetters 147 = .ok (.iload_n 2, 1) := by decide +kernel
theorem dX8_layLetters_148 : decode cX8_layLetters 148 = .ok (.iaload, 1) := by decide +kernel
theorem dX8_layLetters_149 : decode cX8_layLetters 149 = .ok (.iastore, 1) := by decide +kernel
theorem dX8_layLetters_150 : decode cX8_layLetters 150 = .ok (.iinc 4 1, 3) := by decide +kernel
theorem dX8_layLetters_153 : decode cX8_layLetters 153 = .ok (.goto (-90), 3) := by decide +kernel
theorem dX8_layLetters_156 : decode cX8_layLetters 156 = .ok (.iinc 2 (-1), 3) := by decide +kernel
theorem dX8_layLetters_159 : decode cX8_layLetters 159 = .ok (.goto (-148), 3) := by decide +kernel
theorem dX8_layLetters_162 : decode cX8_layLetters 162 = .ok (.return_, 1) := by decide +kernel
theorem dX8_mateOf_0 : decode cX8_mateOf 0 = .ok (.iconst 0, 1) := by decide +kernel
theorem dX8_mateOf_1 : decode cX8_mateOf 1 = .ok (.istore_n 2, 1) := by decide +kernel
theorem dX8_mateOf_2 : decode cX8_mateOf 2 = .ok (.iconst 0, 1) := by decide +kernel
theorem dX8_mateOf_3 : decode cX8_mateOf 3 = .ok (.istore_n 3, 1) := by decide +kernel
theorem dX8_mateOf_4 : decode cX8_mateOf 4 = .ok (.iload_n 2, 1) := by decide +kernel
theorem dX8_mateOf_5 : decode cX8_mateOf 5 = .ok (.iload_n 3, 1) := by decide +kernel
theorem dX8_mateOf_6 : decode cX8_mateOf 6 = .ok (.ishr, 1) := by decide +kernel
theorem dX8_mateOf_7 : decode cX8_mateOf 7 = .ok (.iconst 1, 1) := by decide +kernel
theorem dX8_mateOf_8 : decode cX8_mateOf 8 = .ok (.iand, 1) := by decide +kernel
theorem dX8_mateOf_9 : decode cX8_mateOf 9 = .ok (.iconst 1, 1) := by decide +kernel
theorem dX8_mateOf_10 : decode cX8_mateOf 10 = .ok (.if_icmp .ne 9, 3) := by decide +kernel
theorem dX8_mateOf_13 : decode cX8_mateOf 13 = .ok (.iinc 3 1, 3) := by decide +kernel
theorem dX8_mateOf_16 : decode cX8_mateOf 16 = .ok (.goto (-12), 3) := by decide +kernel
theorem dX8_mateOf_19 : decode cX8_mateOf 19 = .ok (.iload_n 3, 1) := by decide +kernel
theorem dX8_mateOf_20 : decode cX8_mateOf 20 = .ok (.iconst 1, 1) := by decide +kernel
theorem dX8_mateOf_21 : decode cX8_mateOf 21 = .ok (.iadd, 1) := by decide +kernel
theorem dX8_mateOf_22 : decode cX8_mateOf 22 = .ok (.istore 4, 2) := by decide +kernel
theorem dX8_mateOf_24 : decode cX8_mateOf 24 = .ok (.iload_n 2, 1) := by decide +kernel
theorem dX8_mateOf_25 : decode cX8_mateOf 25 = .ok (.iload 4, 2) := by decide +kernel
theorem dX8_mateOf_27 : decode cX8_mateOf 27 = .ok (.ishr, 1) := by decide +kernel
theorem dX8_mateOf_28 : decode cX8_mateOf 28 = .ok (.iconst 1, 1) := by decide +kernel
theorem dX8_mateOf_29 : decode cX8_mateOf 29 = .ok (.iand, 1) := by decide +kernel
theorem dX8_mateOf_30 : decode cX8_mateOf 30 = .ok (.iconst 1, 1) := by decide +kernel
theorem dX8_mateOf_31 : decode cX8_mateOf 31 = .ok (.if_icmp .eq 51, 3) := by decide +kernel
theorem dX8_mateOf_34 : decode cX8_mateOf 34 = .ok (.aload_n 0, 1) := by decide +kernel
theorem dX8_mateOf_35 : decode cX8_mateOf 35 = .ok (.getfield 28, 3) := by decide +kernel
theorem dX8_mateOf_38 : decode cX8_mateOf 38 = .ok (.iload_n 3, 1) := by decide +kernel
theorem dX8_mateOf_39 : decode cX8_mateOf 39 = .ok (.iaload, 1) := by decide +kernel
theorem dX8_mateOf_40 : decode cX8_mateOf 40 = .ok (.aload_n 0, 1) := by decide +kernel
theorem dX8_mateOf_41 : decode cX8_mateOf 41 = .ok (.getfield 28, 3) := by decide +kernel
theorem dX8_mateOf_44 : decode cX8_mateOf 44 = .ok (.iload 4, 2) := by decide +kernel
theorem dX8_mateOf_46 : decode cX8_mateOf 46 = .ok (.iaload, 1) := by decide +kernel
theorem dX8_mateOf_47 : decode cX8_mateOf 47 = .ok (.if_icmp .eq 35, 3) := by decide +kernel
theorem dX8_mateOf_50 : decode cX8_mateOf 50 = .ok (.aload_n 0, 1) := by decide +kernel
theorem dX8_mateOf_51 : decode cX8_mateOf 51 = .ok (.iload_n 3, 1) := by decide +kernel
theorem dX8_mateOf_52 : decode cX8_mateOf 52 = .ok (.iload 4, 2) := by decide +kernel
theorem dX8_mateOf_54 : decode cX8_mateOf 54 = .ok (.invokevirtual 199, 3) := by decide +kernel
theorem dX8_mateOf_57 : decode cX8_mateOf 57 = .ok (.aload_n 0, 1) := by decide +kernel
theorem dX8_mateOf_58 : decode cX8_mateOf 58 = .ok (.getfield 61, 3) := by decide +kernel
theorem dX8_mateOf_61 : decode cX8_mateOf 61 = .ok (.iload_n 2, 1) := by decide +kernel
theorem dX8_mateOf_62 : decode cX8_mateOf 62 = .ok (.iconst 1, 1) := by decide +kernel
theorem dX8_mateOf_63 : decode cX8_mateOf 63 = .ok (.iload_n 3, 1) := by decide +kernel
theorem dX8_mateOf_64 : decode cX8_mateOf 64 = .ok (.ishl, 1) := by decide +kernel
theorem dX8_mateOf_65 : decode cX8_mateOf 65 = .ok (.ior, 1) := by decide +kernel
theorem dX8_mateOf_66 : decode cX8_mateOf 66 = .ok (.iconst 1, 1) := by decide +kernel
theorem dX8_mateOf_67 : decode cX8_mateOf 67 = .ok (.iload 4, 2) := by decide +kernel
theorem dX8_mateOf_69 : decode cX8_mateOf 69 = .ok (.ishl, 1) := by decide +kernel
theorem dX8_mateOf_70 : decode cX8_mateOf 70 = .ok (.ior, 1) := by decide +kernel
theorem dX8_mateOf_71 : decode cX8_mateOf 71 = .ok (.iaload, 1) := by decide +kernel
theorem dX8_mateOf_72 : decode cX8_mateOf 72 = .ok (.iadd, 1) := by decide +kernel
theorem dX8_mateOf_73 : decode cX8_mateOf 73 = .ok (.aload_n 0, 1) := by decide +kernel
theorem dX8_mateOf_74 : decode cX8_mateOf 74 = .ok (.getfield 61, 3) := by decide +kernel
theorem dX8_mateOf_77 : decode cX8_mateOf 77 = .ok (.iload_n 2, 1) := by decide +kernel
theorem dX8_mateOf_78 : decode cX8_mateOf 78 = .ok (.iaload, 1) := by decide +kernel
theorem dX8_mateOf_79 : decode cX8_mateOf 79 = .ok (.if_icmp .eq 9, 3) := by decide +kernel
theorem dX8_mateOf_82 : decode cX8_mateOf 82 = .ok (.iinc 4 1, 3) := by decide +kernel
theorem dX8_mateOf_85 : decode cX8_mateOf 85 = .ok (.goto (-61), 3) := by decide +kernel
theorem dX8_mateOf_88 : decode cX8_mateOf 88 = .ok (.iload_n 3, 1) := by decide +kernel
theorem dX8_mateOf_89 : decode cX8_mateOf 89 = .ok (.iload_n 1, 1) := by decide +kernel
theorem dX8_mateOf_90 : decode cX8_mateOf 90 = .ok (.if_icmp .eq 9, 3) := by decide +kernel
theorem dX8_mateOf_93 : decode cX8_mateOf 93 = .ok (.iload 4, 2) := by decide +kernel
theorem dX8_mateOf_95 : decode cX8_mateOf 95 = .ok (.iload_n 1, 1) := by decide +kernel
theorem dX8_mateOf_96 : decode cX8_mateOf 96 = .ok (.if_icmp .ne 15, 3) := by decide +kernel
theorem dX8_mateOf_99 : decode cX8_mateOf 99 = .ok (.iload_n 3, 1) := by decide +kernel
theorem dX8_mateOf_100 : decode cX8_mateOf 100 = .ok (.iload_n 1, 1) := by decide +kernel
theorem dX8_mateOf_101 : decode cX8_mateOf 101 = .ok (.if_icmp .ne 8, 3) := by decide +kernel
theorem dX8_mateOf_104 : decode cX8_mateOf 104 = .ok (.iload 4, 2) := by decide +kernel
theorem dX8_mateOf_106 : decode cX8_mateOf 106 = .ok (.goto 4, 3) := by decide +kernel
theorem dX8_mateOf_109 : decode cX8_mateOf 109 = .ok (.iload_n 3, 1) := by decide +kernel
theorem dX8_mateOf_110 : decode cX8_mateOf 110 = .ok (.ireturn, 1) := by decide +kernel
theorem dX8_mateOf_111 : decode cX8_mateOf 111 = .ok (.iload_n 2, 1) := by decide +kernel
theorem dX8_mateOf_112 : decode cX8_mateOf 112 = .ok (.iconst 1, 1) := by decide +kernel
theorem dX8_mateOf_113 : decode cX8_mateOf 113 = .ok (.iload_n 3, 1) := by decide +kernel
theorem dX8_mateOf_114 : decode cX8_mateOf 114 = .ok (.ishl, 1) := by decide +kernel
theorem dX8_mateOf_115 : decode cX8_mateOf 115 = .ok (.iconst 1, 1) := by decide +kernel
theorem dX8_mateOf_116 : decode cX8_mateOf 116 = .ok (.iload 4, 2) := by decide +kernel
theorem dX8_mateOf_118 : decode cX8_mateOf 118 = .ok (.ishl, 1) := by decide +kernel
theorem dX8_mateOf_119 : decode cX8_mateOf 119 = .ok (.ior, 1) := by decide +kernel
theorem dX8_mateOf_120 : decode cX8_mateOf 120 = .ok (.ior, 1) := by decide +kernel
theorem dX8_mateOf_121 : decode cX8_mateOf 121 = .ok (.istore_n 2, 1) := by decide +kernel
theorem dX8_mateOf_122 : decode cX8_mateOf 122 = .ok (.goto (-120), 3) := by decide +kernel
theorem dX8_letters_0 : decode cX8_letters 0 = .ok (.iload_n 1, 1) := by decide +kernel
theorem dX8_letters_1 : decode cX8_letters 1 = .ok (.iconst (-1), 1) := by decide +kernel
theorem dX8_letters_2 : decode cX8_letters 2 = .ok (.if_icmp .eq 13, 3) := by decide +kernel
theorem dX8_letters_5 : decode cX8_letters 5 = .ok (.aload_n 0, 1) := by decide +kernel
theorem dX8_letters_6 : decode cX8_letters 6 = .ok (.iload_n 1, 1) := by decide +kernel
theorem dX8_letters_7 : decode cX8_letters 7 = .ok (.invokevirtual 138, 3) := by decide +kernel
theorem dX8_letters_10 : decode cX8_letters 10 = .ok (.ifCond .ne 5, 3) := by decide +kernel
theorem dX8_letters_13 : decode cX8_letters 13 = .ok (.iconst (-1), 1) := by decide +kernel
theorem dX8_letters_14 : decode cX8_letters 14 = .ok (.ireturn, 1) := by decide +kernel
theorem dX8_letters_15 : decode cX8_letters 15 = .ok (.aload_n 0, 1) := by decide +kernel
theorem dX8_letters_16 : decode cX8_letters 16 = .ok (.getfield 86, 3) := by decide +kernel
theorem dX8_letters_19 : decode cX8_letters 19 = .ok (.ifCond .ne 6, 3) := by decide +kernel
theorem dX8_letters_22 : decode cX8_letters 22 = .ok (.bipush (-3), 2) := by decide +kernel
theorem dX8_letters_24 : decode cX8_letters 24 = .ok (.ireturn, 1) := by decide +kernel
theorem dX8_letters_25 : decode cX8_letters 25 = .ok (.aload_n 0, 1) := by decide +kernel
theorem dX8_letters_26 : decode cX8_letters 26 = .ok (.invokevirtual 202, 3) := by decide +kernel
theorem dX8_letters_29 : decode cX8_letters 29 = .ok (.aload_n 0, 1) := by decide +kernel
theorem dX8_letters_30 : decode cX8_letters 30 = .ok (.getfield 61, 3) := by decide +kernel
theorem dX8_letters_33 : decode cX8_letters 33 = .ok (.iconst 0, 1) := by decide +kernel
theorem dX8_letters_34 : decode cX8_letters 34 = .ok (.iaload, 1) := by decide +kernel
theorem dX8_letters_35 : decode cX8_letters 35 = .ok (.sipush 1000, 3) := by decide +kernel
theorem dX8_letters_38 : decode cX8_letters 38 = .ok (.if_icmp .lt 6, 3) := by decide +kernel
theorem dX8_letters_41 : decode cX8_letters 41 = .ok (.bipush (-9), 2) := by decide +kernel
theorem dX8_letters_43 : decode cX8_letters 43 = .ok (.ireturn, 1) := by decide +kernel
theorem dX8_letters_44 : decode cX8_letters 44 = .ok (.iload_n 1, 1) := by decide +kernel
theorem dX8_letters_45 : decode cX8_letters 45 = .ok (.iconst (-1), 1) := by decide +kernel
theorem dX8_letters_46 : decode cX8_letters 46 = .ok (.if_icmp .ne 12, 3) := by decide +kernel
theorem dX8_letters_49 : decode cX8_letters 49 = .ok (.aload_n 0, 1) := by decide +kernel
theorem dX8_letters_50 : decode cX8_letters 50 = .ok (.getfield 61, 3) := by decide +kernel
theorem dX8_letters_53 : decode cX8_letters 53 = .ok (.iconst 0, 1) := by decide +kernel
theorem dX8_letters_54 : decode cX8_letters 54 = .ok (.iaload, 1) := by decide +kernel
theorem dX8_letters_55 : decode cX8_letters 55 = .ok (.goto 8, 3) := by decide +kernel
theorem dX8_letters_58 : decode cX8_letters 58 = .ok (.aload_n 0, 1) := by decide +kernel
theorem dX8_letters_59 : decode cX8_letters 59 = .ok (.iload_n 1, 1) := by decide +kernel
theorem dX8_letters_60 : decode cX8_letters 60 = .ok (.invokevirtual 205, 3) := by decide +kernel
theorem dX8_letters_63 : decode cX8_letters 63 = .ok (.ireturn, 1) := by decide +kernel
theorem dX8_reached_0 : decode cX8_reached 0 = .ok (.iconst 1, 1) := by decide +kernel
theorem dX8_reached_1 : decode cX8_reached 1 = .ok (.iload_n 1, 1) := by decide +kernel
theorem dX8_reached_2 : decode cX8_reached 2 = .ok (.ishl, 1) := by decide +kernel
theorem dX8_reached_3 : decode cX8_reached 3 = .ok (.istore_n 3, 1) := by decide +kernel
theorem dX8_reached_4 : decode cX8_reached 4 = .ok (.iconst 0, 1) := by decide +kernel
theorem dX8_reached_5 : decode cX8_reached 5 = .ok (.istore 4, 2) := by decide +kernel
theorem dX8_reached_7 : decode cX8_reached 7 = .ok (.iload 4, 2) := by decide +kernel
theorem dX8_reached_9 : decode cX8_reached 9 = .ok (.aload_n 0, 1) := by decide +kernel
theorem dX8_reached_10 : decode cX8_reached 10 = .ok (.getfield 86, 3) := by decide +kernel
theorem dX8_reached_13 : decode cX8_reached 13 = .ok (.if_icmp .ge 68, 3) := by decide +kernel
theorem dX8_reached_16 : decode cX8_reached 16 = .ok (.iconst 0, 1) := by decide +kernel
theorem dX8_reached_17 : decode cX8_reached 17 = .ok (.istore 5, 2) := by decide +kernel
theorem dX8_reached_19 : decode cX8_reached 19 = .ok (.iload 5, 2) := by decide +kernel
theorem dX8_reached_21 : decode cX8_reached 21 = .ok (.aload_n 0, 1) := by decide +kernel
theorem dX8_reached_22 : decode cX8_reached 22 = .ok (.invokevirtual 93, 3) := by decide +kernel
theorem dX8_reached_25 : decode cX8_reached 25 = .ok (.if_icmp .ge 50, 3) := by decide +kernel
theorem dX8_reached_28 : decode cX8_reached 28 = .ok (.iconst 1, 1) := by decide +kernel
theorem dX8_reached_29 : decode cX8_reached 29 = .ok (.iload 5, 2) := by decide +kernel
theorem dX8_reached_31 : decode cX8_reached 31 = .ok (.ishl, 1) := by decide +kernel
theorem dX8_reached_32 : decode cX8_reached 32 = .ok (.iconst 1, 1) := by decide +kernel
theorem dX8_reached_33 : decode cX8_reached 33 = .ok (.aload_n 0, 1) := by decide +kernel
theorem dX8_reached_34 : decode cX8_reached 34 = .ok (.iload 5, 2) := by decide +kernel
theorem dX8_reached_36 : decode cX8_reached 36 = .ok (.invokevirtual 147, 3) := by decide +kernel
theorem dX8_reached_39 : decode cX8_reached 39 = .ok (.ishl, 1) := by decide +kernel
theorem dX8_reached_40 : decode cX8_reached 40 = .ok (.ior, 1) := by decide +kernel
theorem dX8_reached_41 : decode cX8_reached 41 = .ok (.istore 6, 2) := by decide +kernel
theorem dX8_reached_43 : decode cX8_reached 43 = .ok (.iload_n 3, 1) := by decide +kernel
theorem dX8_reached_44 : decode cX8_reached 44 = .ok (.iload_n 2, 1) := by decide +kernel
theorem dX8_reached_45 : decode cX8_reached 45 = .ok (.iload 5, 2) := by decide +kernel
theorem dX8_reached_47 : decode cX8_reached 47 = .ok (.ishr, 1) := by decide +kernel
theorem dX8_reached_48 : decode cX8_reached 48 = .ok (.iconst 1, 1) := by decide +kernel
theorem dX8_reached_49 : decode cX8_reached 49 = .ok (.iand, 1) := by decide +kernel
theorem dX8_reached_50 : decode cX8_reached 50 = .ok (.iconst 1, 1) := by decide +kernel
theorem dX8_reached_51 : decode cX8_reached 51 = .ok (.if_icmp .ne 15, 3) := by decide +kernel
theorem dX8_reached_54 : decode cX8_reached 54 = .ok (.iload_n 3, 1) := by decide +kernel
theorem dX8_reached_55 : decode cX8_reached 55 = .ok (.iload 6, 2) := by decide +kernel
theorem dX8_reached_57 : decode cX8_reached 57 = .ok (.iand, 1) := by decide +kernel
theorem dX8_reached_58 : decode cX8_reached 58 = .ok (.ifCond .eq 8, 3) := by decide +kernel
theorem dX8_reached_61 : decode cX8_reached 61 = .ok (.iload 6, 2) := by decide +kernel
theorem dX8_reached_63 : decode cX8_reached 63 = .ok (.goto 4, 3) := by decide +kernel
theorem dX8_reached_66 : decode cX8_reached 66 = .ok (.iconst 0, 1) := by decide +kernel
theorem dX8_reached_67 : decode cX8_reached 67 = .ok (.ior, 1) := by decide +kernel
theorem dX8_reached_68 : decode cX8_reached 68 = .ok (.istore_n 3, 1) := by decide +kernel
theorem dX8_reached_69 : decode cX8_reached 69 = .ok (.iinc 5 1, 3) := by decide +kernel
theorem dX8_reached_72 : decode cX8_reached 72 = .ok (.goto (-53), 3) := by decide +kernel
theorem dX8_reached_75 : decode cX8_reached 75 = .ok (.iinc 4 1, 3) := by decide +kernel
theorem dX8_reached_78 : decode cX8_reached 78 = .ok (.goto (-71), 3) := by decide +kernel
theorem dX8_reached_81 : decode cX8_reached 81 = .ok (.iconst 0, 1) := by decide +kernel
theorem dX8_reached_82 : decode cX8_reached 82 = .ok (.istore 4, 2) := by decide +kernel
theorem dX8_reached_84 : decode cX8_reached 84 = .ok (.iload_n 3, 1) := by decide +kernel
theorem dX8_reached_85 : decode cX8_reached 85 = .ok (.istore 5, 2) := by decide +kernel
theorem dX8_reached_87 : decode cX8_reached 87 = .ok (.iload 5, 2) := by decide +kernel
theorem dX8_reached_89 : decode cX8_reached 89 = .ok (.ifCond .le 21, 3) := by decide +kernel
theorem dX8_reached_92 : decode cX8_reached 92 = .ok (.iload 4, 2) := by decide +kernel
theorem dX8_reached_94 : decode cX8_reached 94 = .ok (.iload 5, 2) := by decide +kernel
theorem dX8_reached_96 : decode cX8_reached 96 = .ok (.iconst 1, 1) := by decide +kernel
theorem dX8_reached_97 : decode cX8_reached 97 = .ok (.iand, 1) := by decide +kernel
theorem dX8_reached_98 : decode cX8_reached 98 = .ok (.iadd, 1) := by decide +kernel
theorem dX8_reached_99 : decode cX8_reached 99 = .ok (.istore 4, 2) := by decide +kernel
theorem dX8_reached_101 : decode cX8_reached 101 = .ok (.iload 5, 2) := by decide +kernel
theorem dX8_reached_103 : decode cX8_reached 103 = .ok (.iconst 1, 1) := by decide +kernel
theorem dX8_reached_104 : decode cX8_reached 104 = .ok (.ishr, 1) := by decide +kernel
theorem dX8_reached_105 : decode cX8_reached 105 = .ok (.istore 5, 2) := by decide +kernel
theorem dX8_reached_107 : decode cX8_reached 107 = .ok (.goto (-20), 3) := by decide +kernel
theorem dX8_reached_110 : decode cX8_reached 110 = .ok (.iload 4, 2) := by decide +kernel
theorem dX8_reached_112 : decode cX8_reached 112 = .ok (.ireturn, 1) := by decide +kernel
theorem dX8_hearing_0 : decode cX8_hearing 0 = .ok (.lconst 0, 1) := by decide +kernel
theorem dX8_hearing_1 : decode cX8_hearing 1 = .ok (.lstore_n 3, 1) := by decide +kernel
theorem dX8_hearing_2 : decode cX8_hearing 2 = .ok (.iconst 0, 1) := by decide +kernel
theorem dX8_hearing_3 : decode cX8_hearing 3 = .ok (.istore 5, 2) := by decide +kernel
theorem dX8_hearing_5 : decode cX8_hearing 5 = .ok (.iload 5, 2) := by decide +kernel
theorem dX8_hearing_7 : decode cX8_hearing 7 = .ok (.iconst 1, 1) := by decide +kernel
theorem dX8_hearing_8 : decode cX8_hearing 8 = .ok (.aload_n 0, 1) := by decide +kernel
theorem dX8_hearing_9 : decode cX8_hearing 9 = .ok (.invokevirtual 93, 3) := by decide +kernel
theorem dX8_hearing_12 : decode cX8_hearing 12 = .ok (.ishl, 1) := by decide +kernel
theorem dX8_hearing_13 : decode cX8_hearing 13 = .ok (.if_icmp .ge 102, 3) := by decide +kernel
theorem dX8_hearing_16 : decode cX8_hearing 16 = .ok (.iload 5, 2) := by decide +kernel
theorem dX8_hearing_18 : decode cX8_hearing 18 = .ok (.aload_n 0, 1) := by decide +kernel
theorem dX8_hearing_19 : decode cX8_hearing 19 = .ok (.getfield 97, 3) := by decide +kernel
theorem dX8_hearing_22 : decode cX8_hearing 22 = .ok (.iand, 1) := by decide +kernel
theorem dX8_hearing_23 : decode cX8_hearing 23 = .ok (.ifCond .ne 7, 3) := by decide +kernel
theorem dX8_hearing_26 : decode cX8_hearing 26 = .ok (.lconst 1, 1) := by decide +kernel
theorem dX8_hearing_27 : decode cX8_hearing 27 = .ok (.goto 4, 3) := by decide +kernel
theorem dX8_hearing_30 : decode cX8_hearing 30 = .ok (.lconst 0, 1) := by decide +kernel
theorem dX8_hearing_31 : decode cX8_hearing 31 = .ok (.lstore 6, 2) := by decide +kernel
theorem dX8_hearing_33 : decode cX8_hearing 33 = .ok (.iconst 0, 1) := by decide +kernel
theorem dX8_hearing_34 : decode cX8_hearing 34 = .ok (.istore 8, 2) := by decide +kernel
theorem dX8_hearing_36 : decode cX8_hearing 36 = .ok (.iload 8, 2) := by decide +kernel
theorem dX8_hearing_38 : decode cX8_hearing 38 = .ok (.aload_n 0, 1) := by decide +kernel
theorem dX8_hearing_39 : decode cX8_hearing 39 = .ok (.invokevirtual 93, 3) := by decide +kernel
theorem dX8_hearing_42 : decode cX8_hearing 42 = .ok (.if_icmp .ge 51, 3) := by decide +kernel
theorem dX8_hearing_45 : decode cX8_hearing 45 = .ok (.iload 5, 2) := by decide +kernel
theorem dX8_hearing_47 : decode cX8_hearing 47 = .ok (.iload 8, 2) := by decide +kernel
theorem dX8_hearing_49 : decode cX8_hearing 49 = .ok (.ishr, 1) := by decide +kernel
theorem dX8_hearing_50 : decode cX8_hearing 50 = .ok (.iconst 1, 1) := by decide +kernel
theorem dX8_hearing_51 : decode cX8_hearing 51 = .ok (.iand, 1) := by decide +kernel
theorem dX8_hearing_52 : decode cX8_hearing 52 = .ok (.iconst 1, 1) := by decide +kernel
theorem dX8_hearing_53 : decode cX8_hearing 53 = .ok (.if_icmp .ne 10, 3) := by decide +kernel
theorem dX8_hearing_56 : decode cX8_hearing 56 = .ok (.bipush 10, 2) := by decide +kernel
theorem dX8_hearing_58 : decode cX8_hearing 58 = .ok (.iload_n 2, 1) := by decide +kernel
theorem dX8_hearing_59 : decode cX8_hearing 59 = .ok (.isub, 1) := by decide +kernel
theorem dX8_hearing_60 : decode cX8_hearing 60 = .ok (.goto 4, 3) := by decide +kernel
theorem dX8_hearing_63 : decode cX8_hearing 63 = .ok (.iload_n 2, 1) := by decide +kernel
theorem dX8_hearing_64 : decode cX8_hearing 64 = .ok (.istore 9, 2) := by decide +kernel
theorem dX8_hearing_66 : decode cX8_hearing 66 = .ok (.lload 6, 2) := by decide +kernel
theorem dX8_hearing_68 : decode cX8_hearing 68 = .ok (.aload_n 0, 1) := by decide +kernel
theorem dX8_hearing_69 : decode cX8_hearing 69 = .ok (.iload 8, 2) := by decide +kernel
theorem dX8_hearing_71 : decode cX8_hearing 71 = .ok (.invokevirtual 144, 3) := by decide +kernel
theorem dX8_hearing_74 : decode cX8_hearing 74 = .ok (.ifCond .eq 9, 3) := by decide +kernel
theorem dX8_hearing_77 : decode cX8_hearing 77 = .ok (.iload 9, 2) := by decide +kernel
theorem dX8_hearing_79 : decode cX8_hearing 79 = .ok (.i2l, 1) := by decide +kernel
theorem dX8_hearing_80 : decode cX8_hearing 80 = .ok (.goto 4, 3) := by decide +kernel
theorem dX8_hearing_83 : decode cX8_hearing 83 = .ok (.lconst 1, 1) := by decide +kernel
theorem dX8_hearing_84 : decode cX8_hearing 84 = .ok (.lmul, 1) := by decide +kernel
theorem dX8_hearing_85 : decode cX8_hearing 85 = .ok (.lstore 6, 2) := by decide +kernel
theorem dX8_hearing_87 : decode cX8_hearing 87 = .ok (.iinc 8 1, 3) := by decide +kernel
theorem dX8_hearing_90 : decode cX8_hearing 90 = .ok (.goto (-54), 3) := by decide +kernel
theorem dX8_hearing_93 : decode cX8_hearing 93 = .ok (.lload_n 3, 1) := by decide +kernel
theorem dX8_hearing_94 : decode cX8_hearing 94 = .ok (.lload 6, 2) := by decide +kernel
theorem dX8_hearing_96 : decode cX8_hearing 96 = .ok (.aload_n 0, 1) := by decide +kernel
theorem dX8_hearing_97 : decode cX8_hearing 97 = .ok (.iload_n 1, 1) := by decide +kernel
theorem dX8_hearing_98 : decode cX8_hearing 98 = .ok (.iload 5, 2) := by decide +kernel
theorem dX8_hearing_100 : decode cX8_hearing 100 = .ok (.invokevirtual 208, 3) := by decide +kernel
theorem dX8_hearing_103 : decode cX8_hearing 103 = .ok (.iconst 1, 1) := by decide +kernel
theorem dX8_hearing_104 : decode cX8_hearing 104 = .ok (.isub, 1) := by decide +kernel
theorem dX8_hearing_105 : decode cX8_hearing 105 = .ok (.i2l, 1) := by decide +kernel
theorem dX8_hearing_106 : decode cX8_hearing 106 = .ok (.lmul, 1) := by decide +kernel
theorem dX8_hearing_107 : decode cX8_hearing 107 = .ok (.ladd, 1) := by decide +kernel
theorem dX8_hearing_108 : decode cX8_hearing 108 = .ok (.lstore_n 3, 1) := by decide +kernel
theorem dX8_hearing_109 : decode cX8_hearing 109 = .ok (.iinc 5 1, 3) := by decide +kernel
theorem dX8_hearing_112 : decode cX8_hearing 112 = .ok (.goto (-107), 3) := by decide +kernel
theorem dX8_hearing_115 : decode cX8_hearing 115 = .ok (.lload_n 3, 1) := by decide +kernel
theorem dX8_hearing_116 : decode cX8_hearing 116 = .ok (.lreturn, 1) := by decide +kernel
theorem dX8_inLeastTerms_0 : decode cX8_inLeastTerms 0 = .ok (.lload_n 0, 1) := by decide +kernel
theorem dX8_inLeastTerms_1 : decode cX8_inLeastTerms 1 = .ok (.lstore 5, 2) := by decide +kernel
theorem dX8_inLeastTerms_3 : decode cX8_inLeastTerms 3 = .ok (.lload_n 2, 1) := by decide +kernel
theorem dX8_inLeastTerms_4 : decode cX8_inLeastTerms 4 = .ok (.lstore 7, 2) := by decide +kernel
theorem dX8_inLeastTerms_6 : decode cX8_inLeastTerms 6 = .ok (.lload 7, 2) := by decide +kernel
theorem dX8_inLeastTerms_8 : decode cX8_inLeastTerms 8 = .ok (.lconst 0, 1) := by decide +kernel
theorem dX8_inLeastTerms_9 : decode cX8_inLeastTerms 9 = .ok (.lcmp, 1) := by decide +kernel
theorem dX8_inLeastTerms_10 : decode cX8_inLeastTerms 10 = .ok (.ifCond .eq 21, 3) := by decide +kernel
theorem dX8_inLeastTerms_13 : decode cX8_inLeastTerms 13 = .ok (.lload 5, 2) := by decide +kernel
theorem dX8_inLeastTerms_15 : decode cX8_inLeastTerms 15 = .ok (.lload 7, 2) := by decide +kernel
theorem dX8_inLeastTerms_17 : decode cX8_inLeastTerms 17 = .ok (.lrem, 1) := by decide +kernel
theorem dX8_inLeastTerms_18 : decode cX8_inLeastTerms 18 = .ok (.lstore 9, 2) := by decide +kernel
theorem dX8_inLeastTerms_20 : decode cX8_inLeastTerms 20 = .ok (.lload 7, 2) := by decide +kernel
theorem dX8_inLeastTerms_22 : decode cX8_inLeastTerms 22 = .ok (.lstore 5, 2) := by decide +kernel
theorem dX8_inLeastTerms_24 : decode cX8_inLeastTerms 24 = .ok (.lload 9, 2) := by decide +kernel
theorem dX8_inLeastTerms_26 : decode cX8_inLeastTerms 26 = .ok (.lstore 7, 2) := by decide +kernel
theorem dX8_inLeastTerms_28 : decode cX8_inLeastTerms 28 = .ok (.goto (-22), 3) := by decide +kernel
theorem dX8_inLeastTerms_31 : decode cX8_inLeastTerms 31 = .ok (.iload 4, 2) := by decide +kernel
theorem dX8_inLeastTerms_33 : decode cX8_inLeastTerms 33 = .ok (.ifCond .ne 10, 3) := by decide +kernel
theorem dX8_inLeastTerms_36 : decode cX8_inLeastTerms 36 = .ok (.lload_n 0, 1) := by decide +kernel
theorem dX8_inLeastTerms_37 : decode cX8_inLeastTerms 37 = .ok (.lload 5, 2) := by decide +kernel
theorem dX8_inLeastTerms_39 : decode cX8_inLeastTerms 39 = .ok (.ldiv, 1) := by decide +kernel
theorem dX8_inLeastTerms_40 : decode cX8_inLeastTerms 40 = .ok (.goto 7, 3) := by decide +kernel
theorem dX8_inLeastTerms_43 : decode cX8_inLeastTerms 43 = .ok (.lload_n 2, 1) := by decide +kernel
theorem dX8_inLeastTerms_44 : decode cX8_inLeastTerms 44 = .ok (.lload 5, 2) := by decide +kernel
theorem dX8_inLeastTerms_46 : decode cX8_inLeastTerms 46 = .ok (.ldiv, 1) := by decide +kernel
theorem dX8_inLeastTerms_47 : decode cX8_inLeastTerms 47 = .ok (.lreturn, 1) := by decide +kernel
theorem dX8_heard_0 : decode cX8_heard 0 = .ok (.aload_n 0, 1) := by decide +kernel
theorem dX8_heard_1 : decode cX8_heard 1 = .ok (.iload_n 1, 1) := by decide +kernel
theorem dX8_heard_2 : decode cX8_heard 2 = .ok (.invokevirtual 138, 3) := by decide +kernel
theorem dX8_heard_5 : decode cX8_heard 5 = .ok (.ifCond .eq 22, 3) := by decide +kernel
theorem dX8_heard_8 : decode cX8_heard 8 = .ok (.iload_n 2, 1) := by decide +kernel
theorem dX8_heard_9 : decode cX8_heard 9 = .ok (.iconst 0, 1) := by decide +kernel
theorem dX8_heard_10 : decode cX8_heard 10 = .ok (.bipush 10, 2) := by decide +kernel
theorem dX8_heard_12 : decode cX8_heard 12 = .ok (.invokestatic 82, 3) := by decide +kernel
theorem dX8_heard_15 : decode cX8_heard 15 = .ok (.ifCond .eq 12, 3) := by decide +kernel
theorem dX8_heard_18 : decode cX8_heard 18 = .ok (.iload_n 3, 1) := by decide +kernel
theorem dX8_heard_19 : decode cX8_heard 19 = .ok (.iconst 0, 1) := by decide +kernel
theorem dX8_heard_20 : decode cX8_heard 20 = .ok (.iconst 1, 1) := by decide +kernel
theorem dX8_heard_21 : decode cX8_heard 21 = .ok (.invokestatic 82, 3) := by decide +kernel
theorem dX8_heard_24 : decode cX8_heard 24 = .ok (.ifCond .ne 7, 3) := by decide +kernel
theorem dX8_heard_27 : decode cX8_heard 27 = .ok (.ldc2_w 80, 3) := by decide +kernel
theorem dX8_heard_30 : decode cX8_heard 30 = .ok (.lreturn, 1) := by decide +kernel
theorem dX8_heard_31 : decode cX8_heard 31 = .ok (.lconst 1, 1) := by decide +kernel
theorem dX8_heard_32 : decode cX8_heard 32 = .ok (.lstore 4, 2) := by decide +kernel
theorem dX8_heard_34 : decode cX8_heard 34 = .ok (.iconst 0, 1) := by decide +kernel
theorem dX8_heard_35 : decode cX8_heard 35 = .ok (.istore 6, 2) := by decide +kernel
theorem dX8_heard_37 : decode cX8_heard 37 = .ok (.iload 6, 2) := by decide +kernel
theorem dX8_heard_39 : decode cX8_heard 39 = .ok (.aload_n 0, 1) := by decide +kernel
theorem dX8_heard_40 : decode cX8_heard 40 = .ok (.invokevirtual 93, 3) := by decide +kernel
theorem dX8_heard_43 : decode cX8_heard 43 = .ok (.if_icmp .ge 30, 3) := by decide +kernel
theorem dX8_heard_46 : decode cX8_heard 46 = .ok (.lload 4, 2) := by decide +kernel
theorem dX8_heard_48 : decode cX8_heard 48 = .ok (.aload_n 0, 1) := by decide +kernel
theorem dX8_heard_49 : decode cX8_heard 49 = .ok (.iload 6, 2) := by decide +kernel
theorem dX8_heard_51 : decode cX8_heard 51 = .ok (.invokevirtual 144, 3) := by decide +kernel
theorem dX8_heard_54 : decode cX8_heard 54 = .ok (.ifCond .eq 9, 3) := by decide +kernel
theorem dX8_heard_57 : decode cX8_heard 57 = .ok (.ldc2_w 211, 3) := by decide +kernel
theorem dX8_heard_60 : decode cX8_heard 60 = .ok (.goto 4, 3) := by decide +kernel
theorem dX8_heard_63 : decode cX8_heard 63 = .ok (.lconst 1, 1) := by decide +kernel
theorem dX8_heard_64 : decode cX8_heard 64 = .ok (.lmul, 1) := by decide +kernel
theorem dX8_heard_65 : decode cX8_heard 65 = .ok (.lstore 4, 2) := by decide +kernel
theorem dX8_heard_67 : decode cX8_heard 67 = .ok (.iinc 6 1, 3) := by decide +kernel
theorem dX8_heard_70 : decode cX8_heard 70 = .ok (.goto (-33), 3) := by decide +kernel
theorem dX8_heard_73 : decode cX8_heard 73 = .ok (.aload_n 0, 1) := by decide +kernel
theorem dX8_heard_74 : decode cX8_heard 74 = .ok (.iload_n 1, 1) := by decide +kernel
theorem dX8_heard_75 : decode cX8_heard 75 = .ok (.iload_n 2, 1) := by decide +kernel
theorem dX8_heard_76 : decode cX8_heard 76 = .ok (.invokevirtual 213, 3) := by decide +kernel
theorem dX8_heard_79 : decode cX8_heard 79 = .ok (.lload 4, 2) := by decide +kernel
theorem dX8_heard_81 : decode cX8_heard 81 = .ok (.iload_n 3, 1) := by decide +kernel
theorem dX8_heard_82 : decode cX8_heard 82 = .ok (.invokestatic 217, 3) := by decide +kernel
theorem dX8_heard_85 : decode cX8_heard 85 = .ok (.lreturn, 1) := by decide +kernel
theorem dX8_stand_0 : decode cX8_stand 0 = .ok (.iload_n 1, 1) := by decide +kernel
theorem dX8_stand_1 : decode cX8_stand 1 = .ok (.iconst 0, 1) := by decide +kernel
theorem dX8_stand_2 : decode cX8_stand 2 = .ok (.bipush 10, 2) := by decide +kernel
theorem dX8_stand_4 : decode cX8_stand 4 = .ok (.invokestatic 82, 3) := by decide +kernel
theorem dX8_stand_7 : decode cX8_stand 7 = .ok (.ifCond .ne 6, 3) := by decide +kernel
theorem dX8_stand_10 : decode cX8_stand 10 = .ok (.bipush (-2), 2) := by decide +kernel
theorem dX8_stand_12 : decode cX8_stand 12 = .ok (.ireturn, 1) := by decide +kernel
theorem dX8_stand_13 : decode cX8_stand 13 = .ok (.aload_n 0, 1) := by decide +kernel
theorem dX8_stand_14 : decode cX8_stand 14 = .ok (.getfield 86, 3) := by decide +kernel
theorem dX8_stand_17 : decode cX8_stand 17 = .ok (.ifCond .ne 6, 3) := by decide +kernel
theorem dX8_stand_20 : decode cX8_stand 20 = .ok (.bipush (-3), 2) := by decide +kernel
theorem dX8_stand_22 : decode cX8_stand 22 = .ok (.ireturn, 1) := by decide +kernel
theorem dX8_stand_23 : decode cX8_stand 23 = .ok (.bipush (-9), 2) := by decide +kernel
theorem dX8_stand_25 : decode cX8_stand 25 = .ok (.istore_n 2, 1) := by decide +kernel
theorem dX8_stand_26 : decode cX8_stand 26 = .ok (.lconst 0, 1) := by decide +kernel
theorem dX8_stand_27 : decode cX8_stand 27 = .ok (.lstore_n 3, 1) := by decide +kernel
theorem dX8_stand_28 : decode cX8_stand 28 = .ok (.iconst 0, 1) := by decide +kernel
theorem dX8_stand_29 : decode cX8_stand 29 = .ok (.istore 5, 2) := by decide +kernel
theorem dX8_stand_31 : decode cX8_stand 31 = .ok (.iload 5, 2) := by decide +kernel
theorem dX8_stand_33 : decode cX8_stand 33 = .ok (.aload_n 0, 1) := by decide +kernel
theorem dX8_stand_34 : decode cX8_stand 34 = .ok (.getfield 86, 3) := by decide +kernel
theorem dX8_stand_37 : decode cX8_stand 37 = .ok (.if_icmp .ge 37, 3) := by decide +kernel
theorem dX8_stand_40 : decode cX8_stand 40 = .ok (.aload_n 0, 1) := by decide +kernel
theorem dX8_stand_41 : decode cX8_stand 41 = .ok (.iload 5, 2) := by decide +kernel
theorem dX8_stand_43 : decode cX8_stand 43 = .ok (.iload_n 1, 1) := by decide +kernel
theorem dX8_stand_44 : decode cX8_stand 44 = .ok (.invokevirtual 213, 3) := by decide +kernel
theorem dX8_stand_47 : decode cX8_stand 47 = .ok (.lstore 6, 2) := by decide +kernel
theorem dX8_stand_49 : decode cX8_stand 49 = .ok (.iload_n 2, 1) := by decide +kernel
theorem dX8_stand_50 : decode cX8_stand 50 = .ok (.bipush (-9), 2) := by decide +kernel
theorem dX8_stand_52 : decode cX8_stand 52 = .ok (.if_icmp .eq 10, 3) := by decide +kernel
theorem dX8_stand_55 : decode cX8_stand 55 = .ok (.lload 6, 2) := by decide +kernel
theorem dX8_stand_57 : decode cX8_stand 57 = .ok (.lload_n 3, 1) := by decide +kernel
theorem dX8_stand_58 : decode cX8_stand 58 = .ok (.lcmp, 1) := by decide +kernel
theorem dX8_stand_59 : decode cX8_stand 59 = .ok (.ifCond .le 9, 3) := by decide +kernel
theorem dX8_stand_62 : decode cX8_stand 62 = .ok (.iload 5, 2) := by decide +kernel
theorem dX8_stand_64 : decode cX8_stand 64 = .ok (.istore_n 2, 1) := by decide +kernel
theorem dX8_stand_65 : decode cX8_stand 65 = .ok (.lload 6, 2) := by decide +kernel
theorem dX8_stand_67 : decode cX8_stand 67 = .ok (.lstore_n 3, 1) := by decide +kernel
theorem dX8_stand_68 : decode cX8_stand 68 = .ok (.iinc 5 1, 3) := by decide +kernel
theorem dX8_stand_71 : decode cX8_stand 71 = .ok (.goto (-40), 3) := by decide +kernel
theorem dX8_stand_74 : decode cX8_stand 74 = .ok (.iload_n 2, 1) := by decide +kernel
theorem dX8_stand_75 : decode cX8_stand 75 = .ok (.ireturn, 1) := by decide +kernel
theorem dX8_reading_0 : decode cX8_reading 0 = .ok (.aload_n 0, 1) := by decide +kernel
theorem dX8_reading_1 : decode cX8_reading 1 = .ok (.iload_n 1, 1) := by decide +kernel
theorem dX8_reading_2 : decode cX8_reading 2 = .ok (.invokevirtual 138, 3) := by decide +kernel
theorem dX8_reading_5 : decode cX8_reading 5 = .ok (.ifCond .eq 11, 3) := by decide +kernel
theorem dX8_reading_8 : decode cX8_reading 8 = .ok (.aload_n 0, 1) := by decide +kernel
theorem dX8_reading_9 : decode cX8_reading 9 = .ok (.iload_n 3, 1) := by decide +kernel
theorem dX8_reading_10 : decode cX8_reading 10 = .ok (.invokevirtual 138, 3) := by decide +kernel
theorem dX8_reading_13 : decode cX8_reading 13 = .ok (.ifCond .ne 5, 3) := by decide +kernel
theorem dX8_reading_16 : decode cX8_reading 16 = .ok (.iconst (-1), 1) := by decide +kernel
theorem dX8_reading_17 : decode cX8_reading 17 = .ok (.ireturn, 1) := by decide +kernel
theorem dX8_reading_18 : decode cX8_reading 18 = .ok (.iload_n 2, 1) := by decide +kernel
theorem dX8_reading_19 : decode cX8_reading 19 = .ok (.invokestatic 161, 3) := by decide +kernel
theorem dX8_reading_22 : decode cX8_reading 22 = .ok (.ifCond .eq 18, 3) := by decide +kernel
theorem dX8_reading_25 : decode cX8_reading 25 = .ok (.iload 4, 2) := by decide +kernel
theorem dX8_reading_27 : decode cX8_reading 27 = .ok (.invokestatic 161, 3) := by decide +kernel
theorem dX8_reading_30 : decode cX8_reading 30 = .ok (.ifCond .ne 13, 3) := by decide +kernel
theorem dX8_reading_33 : decode cX8_reading 33 = .ok (.iload 4, 2) := by decide +kernel
theorem dX8_reading_35 : decode cX8_reading 35 = .ok (.bipush (-9), 2) := by decide +kernel
theorem dX8_reading_37 : decode cX8_reading 37 = .ok (.if_icmp .eq 6, 3) := by decide +kernel
theorem dX8_reading_40 : decode cX8_reading 40 = .ok (.bipush (-2), 2) := by decide +kernel
theorem dX8_reading_42 : decode cX8_reading 42 = .ok (.ireturn, 1) := by decide +kernel
theorem dX8_reading_43 : decode cX8_reading 43 = .ok (.aload_n 0, 1) := by decide +kernel
theorem dX8_reading_44 : decode cX8_reading 44 = .ok (.getfield 127, 3) := by decide +kernel
theorem dX8_reading_47 : decode cX8_reading 47 = .ok (.bipush 8, 2) := by decide +kernel
theorem dX8_reading_49 : decode cX8_reading 49 = .ok (.if_icmp .ne 6, 3) := by decide +kernel
theorem dX8_reading_52 : decode cX8_reading 52 = .ok (.bipush (-4), 2) := by decide +kernel
theorem dX8_reading_54 : decode cX8_reading 54 = .ok (.ireturn, 1) := by decide +kernel
theorem dX8_reading_55 : decode cX8_reading 55 = .ok (.aload_n 0, 1) := by decide +kernel
theorem dX8_reading_56 : decode cX8_reading 56 = .ok (.getfield 64, 3) := by decide +kernel
theorem dX8_reading_59 : decode cX8_reading 59 = .ok (.aload_n 0, 1) := by decide +kernel
theorem dX8_reading_60 : decode cX8_reading 60 = .ok (.getfield 127, 3) := by decide +kernel
theorem dX8_reading_63 : decode cX8_reading 63 = .ok (.iload_n 1, 1) := by decide +kernel
theorem dX8_reading_64 : decode cX8_reading 64 = .ok (.iastore, 1) := by decide +kernel
theorem dX8_reading_65 : decode cX8_reading 65 = .ok (.aload_n 0, 1) := by decide +kernel
theorem dX8_reading_66 : decode cX8_reading 66 = .ok (.getfield 67, 3) := by decide +kernel
theorem dX8_reading_69 : decode cX8_reading 69 = .ok (.aload_n 0, 1) := by decide +kernel
theorem dX8_reading_70 : decode cX8_reading 70 = .ok (.getfield 127, 3) := by decide +kernel
theorem dX8_reading_73 : decode cX8_reading 73 = .ok (.iload_n 2, 1) := by decide +kernel
theorem dX8_reading_74 : decode cX8_reading 74 = .ok (.iastore, 1) := by decide +kernel
theorem dX8_reading_75 : decode cX8_reading 75 = .ok (.aload_n 0, 1) := by decide +kernel
theorem dX8_reading_76 : decode cX8_reading 76 = .ok (.getfield 70, 3) := by decide +kernel
theorem dX8_reading_79 : decode cX8_reading 79 = .ok (.aload_n 0, 1) := by decide +kernel
theorem dX8_reading_80 : decode cX8_reading 80 = .ok (.getfield 127, 3) := by decide +kernel
theorem dX8_reading_83 : decode cX8_reading 83 = .ok (.iload_n 3, 1) := by decide +kernel
theorem dX8_reading_84 : decode cX8_reading 84 = .ok (.iastore, 1) := by decide +kernel
theorem dX8_reading_85 : decode cX8_reading 85 = .ok (.aload_n 0, 1) := by decide +kernel
theorem dX8_reading_86 : decode cX8_reading 86 = .ok (.getfield 73, 3) := by decide +kernel
theorem dX8_reading_89 : decode cX8_reading 89 = .ok (.aload_n 0, 1) := by decide +kernel
theorem dX8_reading_90 : decode cX8_reading 90 = .ok (.getfield 127, 3) := by decide +kernel
theorem dX8_reading_93 : decode cX8_reading 93 = .ok (.iload 4, 2) := by decide +kernel
theorem dX8_reading_95 : decode cX8_reading 95 = .ok (.iastore, 1) := by decide +kernel
theorem dX8_reading_96 : decode cX8_reading 96 = .ok (.aload_n 0, 1) := by decide +kernel
theorem dX8_reading_97 : decode cX8_reading 97 = .ok (.dup, 1) := by decide +kernel
theorem dX8_reading_98 : decode cX8_reading 98 = .ok (.getfield 127, 3) := by decide +kernel
theorem dX8_reading_101 : decode cX8_reading 101 = .ok (.iconst 1, 1) := by decide +kernel
theorem dX8_reading_102 : decode cX8_reading 102 = .ok (.iadd, 1) := by decide +kernel
theorem dX8_reading_103 : decode cX8_reading 103 = .ok (.putfield 127, 3) := by decide +kernel
theorem dX8_reading_106 : decode cX8_reading 106 = .ok (.aload_n 0, 1) := by decide +kernel
theorem dX8_reading_107 : decode cX8_reading 107 = .ok (.getfield 127, 3) := by decide +kernel
theorem dX8_reading_110 : decode cX8_reading 110 = .ok (.iconst 1, 1) := by decide +kernel
theorem dX8_reading_111 : decode cX8_reading 111 = .ok (.isub, 1) := by decide +kernel
theorem dX8_reading_112 : decode cX8_reading 112 = .ok (.ireturn, 1) := by decide +kernel
theorem dX8_back_0 : decode cX8_back 0 = .ok (.iload_n 1, 1) := by decide +kernel
theorem dX8_back_1 : decode cX8_back 1 = .ok (.iconst 0, 1) := by decide +kernel
theorem dX8_back_2 : decode cX8_back 2 = .ok (.aload_n 0, 1) := by decide +kernel
theorem dX8_back_3 : decode cX8_back 3 = .ok (.getfield 127, 3) := by decide +kernel
theorem dX8_back_6 : decode cX8_back 6 = .ok (.invokestatic 82, 3) := by decide +kernel
theorem dX8_back_9 : decode cX8_back 9 = .ok (.ifCond .ne 6, 3) := by decide +kernel
theorem dX8_back_12 : decode cX8_back 12 = .ok (.bipush (-2), 2) := by decide +kernel
theorem dX8_back_14 : decode cX8_back 14 = .ok (.ireturn, 1) := by decide +kernel
theorem dX8_back_15 : decode cX8_back 15 = .ok (.aload_n 0, 1) := by decide +kernel
theorem dX8_back_16 : decode cX8_back 16 = .ok (.dup, 1) := by decide +kernel
theorem dX8_back_17 : decode cX8_back 17 = .ok (.getfield 127, 3) := by decide +kernel
theorem dX8_back_20 : decode cX8_back 20 = .ok (.iload_n 1, 1) := by decide +kernel
theorem dX8_back_21 : decode cX8_back 21 = .ok (.isub, 1) := by decide +kernel
theorem dX8_back_22 : decode cX8_back 22 = .ok (.putfield 127, 3) := by decide +kernel
theorem dX8_back_25 : decode cX8_back 25 = .ok (.aload_n 0, 1) := by decide +kernel
theorem dX8_back_26 : decode cX8_back 26 = .ok (.getfield 127, 3) := by decide +kernel
theorem dX8_back_29 : decode cX8_back 29 = .ok (.ireturn, 1) := by decide +kernel
theorem dX8_areSo_0 : decode cX8_areSo 0 = .ok (.iconst 0, 1) := by decide +kernel
theorem dX8_areSo_1 : decode cX8_areSo 1 = .ok (.istore_n 1, 1) := by decide +kernel
theorem dX8_areSo_2 : decode cX8_areSo 2 = .ok (.iload_n 1, 1) := by decide +kernel
theorem dX8_areSo_3 : decode cX8_areSo 3 = .ok (.aload_n 0, 1) := by decide +kernel
theorem dX8_areSo_4 : decode cX8_areSo 4 = .ok (.getfield 127, 3) := by decide +kernel
theorem dX8_areSo_7 : decode cX8_areSo 7 = .ok (.if_icmp .ge 67, 3) := by decide +kernel
theorem dX8_areSo_10 : decode cX8_areSo 10 = .ok (.aload_n 0, 1) := by decide +kernel
theorem dX8_areSo_11 : decode cX8_areSo 11 = .ok (.aload_n 0, 1) := by decide +kernel
theorem dX8_areSo_12 : decode cX8_areSo 12 = .ok (.getfield 64, 3) := by decide +kernel
theorem dX8_areSo_15 : decode cX8_areSo 15 = .ok (.iload_n 1, 1) := by decide +kernel
theorem dX8_areSo_16 : decode cX8_areSo 16 = .ok (.iaload, 1) := by decide +kernel
theorem dX8_areSo_17 : decode cX8_areSo 17 = .ok (.aload_n 0, 1) := by decide +kernel
theorem dX8_areSo_18 : decode cX8_areSo 18 = .ok (.getfield 67, 3) := by decide +kernel
theorem dX8_areSo_21 : decode cX8_areSo 21 = .ok (.iload_n 1, 1) := by decide +kernel
theorem dX8_areSo_22 : decode cX8_areSo 22 = .ok (.iaload, 1) := by decide +kernel
theorem dX8_areSo_23 : decode cX8_areSo 23 = .ok (.invokevirtual 164, 3) := by decide +kernel
theorem dX8_areSo_26 : decode cX8_areSo 26 = .ok (.aload_n 0, 1) := by decide +kernel
theorem dX8_areSo_27 : decode cX8_areSo 27 = .ok (.getfield 70, 3) := by decide +kernel
theorem dX8_areSo_30 : decode cX8_areSo 30 = .ok (.iload_n 1, 1) := by decide +kernel
theorem dX8_areSo_31 : decode cX8_areSo 31 = .ok (.iaload, 1) := by decide +kernel
theorem dX8_areSo_32 : decode cX8_areSo 32 = .ok (.istore_n 2, 1) := by decide +kernel
theorem dX8_areSo_33 : decode cX8_areSo 33 = .ok (.aload_n 0, 1) := by decide +kernel
theorem dX8_areSo_34 : decode cX8_areSo 34 = .ok (.getfield 46, 3) := by decide +kernel
theorem dX8_areSo_37 : decode cX8_areSo 37 = .ok (.iload_n 2, 1) := by decide +kernel
theorem dX8_areSo_38 : decode cX8_areSo 38 = .ok (.iaload, 1) := by decide +kernel
theorem dX8_areSo_39 : decode cX8_areSo 39 = .ok (.bipush (-9), 2) := by decide +kernel
theorem dX8_areSo_41 : decode cX8_areSo 41 = .ok (.if_icmp .ne 8, 3) := by decide +kernel
theorem dX8_areSo_44 : decode cX8_areSo 44 = .ok (.bipush (-9), 2) := by decide +kernel
theorem dX8_areSo_46 : decode cX8_areSo 46 = .ok (.goto 9, 3) := by decide +kernel
theorem dX8_areSo_49 : decode cX8_areSo 49 = .ok (.aload_n 0, 1) := by decide +kernel
theorem dX8_areSo_50 : decode cX8_areSo 50 = .ok (.getfield 43, 3) := by decide +kernel
theorem dX8_areSo_53 : decode cX8_areSo 53 = .ok (.iload_n 2, 1) := by decide +kernel
theorem dX8_areSo_54 : decode cX8_areSo 54 = .ok (.iaload, 1) := by decide +kernel
theorem dX8_areSo_55 : decode cX8_areSo 55 = .ok (.istore_n 3, 1) := by decide +kernel
theorem dX8_areSo_56 : decode cX8_areSo 56 = .ok (.iload_n 3, 1) := by decide +kernel
theorem dX8_areSo_57 : decode cX8_areSo 57 = .ok (.aload_n 0, 1) := by decide +kernel
theorem dX8_areSo_58 : decode cX8_areSo 58 = .ok (.getfield 73, 3) := by decide +kernel
theorem dX8_areSo_61 : decode cX8_areSo 61 = .ok (.iload_n 1, 1) := by decide +kernel
theorem dX8_areSo_62 : decode cX8_areSo 62 = .ok (.iaload, 1) := by decide +kernel
theorem dX8_areSo_63 : decode cX8_areSo 63 = .ok (.if_icmp .eq 5, 3) := by decide +kernel
theorem dX8_areSo_66 : decode cX8_areSo 66 = .ok (.iconst 0, 1) := by decide +kernel
theorem dX8_areSo_67 : decode cX8_areSo 67 = .ok (.ireturn, 1) := by decide +kernel
theorem dX8_areSo_68 : decode cX8_areSo 68 = .ok (.iinc 1 1, 3) := by decide +kernel
theorem dX8_areSo_71 : decode cX8_areSo 71 = .ok (.goto (-69), 3) := by decide +kernel
theorem dX8_areSo_74 : decode cX8_areSo 74 = .ok (.iconst 1, 1) := by decide +kernel
theorem dX8_areSo_75 : decode cX8_areSo 75 = .ok (.ireturn, 1) := by decide +kernel
theorem dX8_kinds_0 : decode cX8_kinds 0 = .ok (.aload_n 0, 1) := by decide +kernel
theorem dX8_kinds_1 : decode cX8_kinds 1 = .ok (.iload_n 1, 1) := by decide +kernel
theorem dX8_kinds_2 : decode cX8_kinds 2 = .ok (.invokevirtual 138, 3) := by decide +kernel
theorem dX8_kinds_5 : decode cX8_kinds 5 = .ok (.ifCond .ne 5, 3) := by decide +kernel
theorem dX8_kinds_8 : decode cX8_kinds 8 = .ok (.iconst (-1), 1) := by decide +kernel
theorem dX8_kinds_9 : decode cX8_kinds 9 = .ok (.ireturn, 1) := by decide +kernel
theorem dX8_kinds_10 : decode cX8_kinds 10 = .ok (.aload_n 0, 1) := by decide +kernel
theorem dX8_kinds_11 : decode cX8_kinds 11 = .ok (.getfield 19, 3) := by decide +kernel
theorem dX8_kinds_14 : decode cX8_kinds 14 = .ok (.iload_n 1, 1) := by decide +kernel
theorem dX8_kinds_15 : decode cX8_kinds 15 = .ok (.iaload, 1) := by decide +kernel
theorem dX8_kinds_16 : decode cX8_kinds 16 = .ok (.istore_n 2, 1) := by decide +kernel
theorem dX8_kinds_17 : decode cX8_kinds 17 = .ok (.iconst 0, 1) := by decide +kernel
theorem dX8_kinds_18 : decode cX8_kinds 18 = .ok (.istore_n 3, 1) := by decide +kernel
theorem dX8_kinds_19 : decode cX8_kinds 19 = .ok (.iconst 0, 1) := by decide +kernel
theorem dX8_kinds_20 : decode cX8_kinds 20 = .ok (.istore 4, 2) := by decide +kernel
theorem dX8_kinds_22 : decode cX8_kinds 22 = .ok (.iload 4, 2) := by decide +kernel
theorem dX8_kinds_24 : decode cX8_kinds 24 = .ok (.iconst 3, 1) := by decide +kernel
theorem dX8_kinds_25 : decode cX8_kinds 25 = .ok (.if_icmp .ge 35, 3) := by decide +kernel
theorem dX8_kinds_28 : decode cX8_kinds 28 = .ok (.aload_n 0, 1) := by decide +kernel
theorem dX8_kinds_29 : decode cX8_kinds 29 = .ok (.getfield 19, 3) := by decide +kernel
theorem dX8_kinds_32 : decode cX8_kinds 32 = .ok (.iload_n 1, 1) := by decide +kernel
theorem dX8_kinds_33 : decode cX8_kinds 33 = .ok (.iload 4, 2) := by decide +kernel
theorem dX8_kinds_35 : decode cX8_kinds 35 = .ok (.iastore, 1) := by decide +kernel
theorem dX8_kinds_36 : decode cX8_kinds 36 = .ok (.iload_n 3, 1) := by decide +kernel
theorem dX8_kinds_37 : decode cX8_kinds 37 = .ok (.aload_n 0, 1) := by decide +kernel
theorem dX8_kinds_38 : decode cX8_kinds 38 = .ok (.invokevirtual 221, 3) := by decide +kernel
theorem dX8_kinds_41 : decode cX8_kinds 41 = .ok (.ifCond .eq 10, 3) := by decide +kernel
theorem dX8_kinds_44 : decode cX8_kinds 44 = .ok (.iconst 1, 1) := by decide +kernel
theorem dX8_kinds_45 : decode cX8_kinds 45 = .ok (.iload 4, 2) := by decide +kernel
theorem dX8_kinds_47 : decode cX8_kinds 47 = .ok (.ishl, 1) := by decide +kernel
theorem dX8_kinds_48 : decode cX8_kinds 48 = .ok (.goto 4, 3) := by decide +kernel
theorem dX8_kinds_51 : decode cX8_kinds 51 = .ok (.iconst 0, 1) := by decide +kernel
theorem dX8_kinds_52 : decode cX8_kinds 52 = .ok (.ior, 1) := by decide +kernel
theorem dX8_kinds_53 : decode cX8_kinds 53 = .ok (.istore_n 3, 1) := by decide +kernel
theorem dX8_kinds_54 : decode cX8_kinds 54 = .ok (.iinc 4 1, 3) := by decide +kernel
theorem dX8_kinds_57 : decode cX8_kinds 57 = .ok (.goto (-35), 3) := by decide +kernel
theorem dX8_kinds_60 : decode cX8_kinds 60 = .ok (.aload_n 0, 1) := by decide +kernel
theorem dX8_kinds_61 : decode cX8_kinds 61 = .ok (.getfield 19, 3) := by decide +kernel
theorem dX8_kinds_64 : decode cX8_kinds 64 = .ok (.iload_n 1, 1) := by decide +kernel
theorem dX8_kinds_65 : decode cX8_kinds 65 = .ok (.iload_n 2, 1) := by decide +kernel
theorem dX8_kinds_66 : decode cX8_kinds 66 = .ok (.iastore, 1) := by decide +kernel
theorem dX8_kinds_67 : decode cX8_kinds 67 = .ok (.iload_n 3, 1) := by decide +kernel
theorem dX8_kinds_68 : decode cX8_kinds 68 = .ok (.ireturn, 1) := by decide +kernel
theorem dX8_walls_0 : decode cX8_walls 0 = .ok (.aload_n 0, 1) := by decide +kernel
theorem dX8_walls_1 : decode cX8_walls 1 = .ok (.getfield 86, 3) := by decide +kernel
theorem dX8_walls_4 : decode cX8_walls 4 = .ok (.ifCond .ne 6, 3) := by decide +kernel
theorem dX8_walls_7 : decode cX8_walls 7 = .ok (.bipush (-3), 2) := by decide +kernel
theorem dX8_walls_9 : decode cX8_walls 9 = .ok (.ireturn, 1) := by decide +kernel
theorem dX8_walls_10 : decode cX8_walls 10 = .ok (.aload_n 0, 1) := by decide +kernel
theorem dX8_walls_11 : decode cX8_walls 11 = .ok (.getfield 97, 3) := by decide +kernel
theorem dX8_walls_14 : decode cX8_walls 14 = .ok (.istore_n 1, 1) := by decide +kernel
theorem dX8_walls_15 : decode cX8_walls 15 = .ok (.iconst 0, 1) := by decide +kernel
theorem dX8_walls_16 : decode cX8_walls 16 = .ok (.istore_n 2, 1) := by decide +kernel
theorem dX8_walls_17 : decode cX8_walls 17 = .ok (.iconst 0, 1) := by decide +kernel
theorem dX8_walls_18 : decode cX8_walls 18 = .ok (.istore_n 3, 1) := by decide +kernel
theorem dX8_walls_19 : decode cX8_walls 19 = .ok (.iload_n 3, 1) := by decide +kernel
theorem dX8_walls_20 : decode cX8_walls 20 = .ok (.aload_n 0, 1) := by decide +kernel
theorem dX8_walls_21 : decode cX8_walls 21 = .ok (.invokevirtual 93, 3) := by decide +kernel
theorem dX8_walls_24 : decode cX8_walls 24 = .ok (.if_icmp .ge 35, 3) := by decide +kernel
theorem dX8_walls_27 : decode cX8_walls 27 = .ok (.aload_n 0, 1) := by decide +kernel
theorem dX8_walls_28 : decode cX8_walls 28 = .ok (.iload_n 1, 1) := by decide +kernel
theorem dX8_walls_29 : decode cX8_walls 29 = .ok (.iconst 1, 1) := by decide +kernel
theorem dX8_walls_30 : decode cX8_walls 30 = .ok (.iload_n 3, 1) := by decide +kernel
theorem dX8_walls_31 : decode cX8_walls 31 = .ok (.ishl, 1) := by decide +kernel
theorem dX8_walls_32 : decode cX8_walls 32 = .ok (.ior, 1) := by decide +kernel
theorem dX8_walls_33 : decode cX8_walls 33 = .ok (.putfield 97, 3) := by decide +kernel
theorem dX8_walls_36 : decode cX8_walls 36 = .ok (.iload_n 2, 1) := by decide +kernel
theorem dX8_walls_37 : decode cX8_walls 37 = .ok (.aload_n 0, 1) := by decide +kernel
theorem dX8_walls_38 : decode cX8_walls 38 = .ok (.invokevirtual 221, 3) := by decide +kernel
theorem dX8_walls_41 : decode cX8_walls 41 = .ok (.ifCond .eq 9, 3) := by decide +kernel
theorem dX8_walls_44 : decode cX8_walls 44 = .ok (.iconst 1, 1) := by decide +kernel
theorem dX8_walls_45 : decode cX8_walls 45 = .ok (.iload_n 3, 1) := by decide +kernel
theorem dX8_walls_46 : decode cX8_walls 46 = .ok (.ishl, 1) := by decide +kernel
theorem dX8_walls_47 : decode cX8_walls 47 = .ok (.goto 4, 3) := by decide +kernel
theorem dX8_walls_50 : decode cX8_walls 50 = .ok (.iconst 0, 1) := by decide +kernel
theorem dX8_walls_51 : decode cX8_walls 51 = .ok (.ior, 1) := by decide +kernel
theorem dX8_walls_52 : decode cX8_walls 52 = .ok (.istore_n 2, 1) := by decide +kernel
theorem dX8_walls_53 : decode cX8_walls 53 = .ok (.iinc 3 1, 3) := by decide +kernel
theorem dX8_walls_56 : decode cX8_walls 56 = .ok (.goto (-37), 3) := by decide +kernel
theorem dX8_walls_59 : decode cX8_walls 59 = .ok (.aload_n 0, 1) := by decide +kernel
theorem dX8_walls_60 : decode cX8_walls 60 = .ok (.iload_n 1, 1) := by decide +kernel
theorem dX8_walls_61 : decode cX8_walls 61 = .ok (.putfield 97, 3) := by decide +kernel
theorem dX8_walls_64 : decode cX8_walls 64 = .ok (.iload_n 2, 1) := by decide +kernel
theorem dX8_walls_65 : decode cX8_walls 65 = .ok (.ireturn, 1) := by decide +kernel
theorem dX8_sheet_0 : decode cX8_sheet 0 = .ok (.aload_n 0, 1) := by decide +kernel
theorem dX8_sheet_1 : decode cX8_sheet 1 = .ok (.iconst 0, 1) := by decide +kernel
theorem dX8_sheet_2 : decode cX8_sheet 2 = .ok (.putfield 76, 3) := by decide +kernel
theorem dX8_sheet_5 : decode cX8_sheet 5 = .ok (.iload_n 1, 1) := by decide +kernel
theorem dX8_sheet_6 : decode cX8_sheet 6 = .ok (.invokestatic 103, 3) := by decide +kernel
theorem dX8_sheet_9 : decode cX8_sheet 9 = .ok (.ifCond .ne 5, 3) := by decide +kernel
theorem dX8_sheet_12 : decode cX8_sheet 12 = .ok (.iconst (-1), 1) := by decide +kernel
theorem dX8_sheet_13 : decode cX8_sheet 13 = .ok (.ireturn, 1) := by decide +kernel
theorem dX8_sheet_14 : decode cX8_sheet 14 = .ok (.iload_n 2, 1) := by decide +kernel
theorem dX8_sheet_15 : decode cX8_sheet 15 = .ok (.invokestatic 107, 3) := by decide +kernel
theorem dX8_sheet_18 : decode cX8_sheet 18 = .ok (.ifCond .eq 9, 3) := by decide +kernel
theorem dX8_sheet_21 : decode cX8_sheet 21 = .ok (.iload_n 3, 1) := by decide +kernel
theorem dX8_sheet_22 : decode cX8_sheet 22 = .ok (.bipush 50, 2) := by decide +kernel
theorem dX8_sheet_24 : decode cX8_sheet 24 = .ok (.if_icmp .le 6, 3) := by decide +kernel
theorem dX8_sheet_27 : decode cX8_sheet 27 = .ok (.bipush (-2), 2) := by decide +kernel
theorem dX8_sheet_29 : decode cX8_sheet 29 = .ok (.ireturn, 1) := by decide +kernel
theorem dX8_sheet_30 : decode cX8_sheet 30 = .ok (.iload_n 3, 1) := by decide +kernel
theorem dX8_sheet_31 : decode cX8_sheet 31 = .ok (.ifCond .ge 9, 3) := by decide +kernel
theorem dX8_sheet_34 : decode cX8_sheet 34 = .ok (.aload_n 0, 1) := by decide +kernel
theorem dX8_sheet_35 : decode cX8_sheet 35 = .ok (.iconst 4, 1) := by decide +kernel
theorem dX8_sheet_36 : decode cX8_sheet 36 = .ok (.invokevirtual 114, 3) := by decide +kernel
theorem dX8_sheet_39 : decode cX8_sheet 39 = .ok (.ireturn, 1) := by decide +kernel
theorem dX8_sheet_40 : decode cX8_sheet 40 = .ok (.aload_n 0, 1) := by decide +kernel
theorem dX8_sheet_41 : decode cX8_sheet 41 = .ok (.getfield 9, 3) := by decide +kernel
theorem dX8_sheet_44 : decode cX8_sheet 44 = .ok (.iload_n 1, 1) := by decide +kernel
theorem dX8_sheet_45 : decode cX8_sheet 45 = .ok (.iload_n 2, 1) := by decide +kernel
theorem dX8_sheet_46 : decode cX8_sheet 46 = .ok (.iastore, 1) := by decide +kernel
theorem dX8_sheet_47 : decode cX8_sheet 47 = .ok (.aload_n 0, 1) := by decide +kernel
theorem dX8_sheet_48 : decode cX8_sheet 48 = .ok (.getfield 13, 3) := by decide +kernel
theorem dX8_sheet_51 : decode cX8_sheet 51 = .ok (.iload_n 1, 1) := by decide +kernel
theorem dX8_sheet_52 : decode cX8_sheet 52 = .ok (.iload_n 3, 1) := by decide +kernel
theorem dX8_sheet_53 : decode cX8_sheet 53 = .ok (.iastore, 1) := by decide +kernel
theorem dX8_sheet_54 : decode cX8_sheet 54 = .ok (.iconst 0, 1) := by decide +kernel
theorem dX8_sheet_55 : decode cX8_sheet 55 = .ok (.istore 4, 2) := by decide +kernel
theorem dX8_sheet_57 : decode cX8_sheet 57 = .ok (.iload 4, 2) := by decide +kernel
theorem dX8_sheet_59 : decode cX8_sheet 59 = .ok (.bipush 50, 2) := by decide +kernel
theorem dX8_sheet_61 : decode cX8_sheet 61 = .ok (.if_icmp .ge 22, 3) := by decide +kernel
theorem dX8_sheet_64 : decode cX8_sheet 64 = .ok (.aload_n 0, 1) := by decide +kernel
theorem dX8_sheet_65 : decode cX8_sheet 65 = .ok (.getfield 16, 3) := by decide +kernel
theorem dX8_sheet_68 : decode cX8_sheet 68 = .ok (.bipush 50, 2) := by decide +kernel
theorem dX8_sheet_70 : decode cX8_sheet 70 = .ok (.iload_n 1, 1) := by decide +kernel
theorem dX8_sheet_71 : decode cX8_sheet 71 = .ok (.imul, 1) := by decide +kernel
theorem dX8_sheet_72 : decode cX8_sheet 72 = .ok (.iload 4, 2) := by decide +kernel
theorem dX8_sheet_74 : decode cX8_sheet 74 = .ok (.iadd, 1) := by decide +kernel
theorem dX8_sheet_75 : decode cX8_sheet 75 = .ok (.iconst 0, 1) := by decide +kernel
theorem dX8_sheet_76 : decode cX8_sheet 76 = .ok (.iastore, 1) := by decide +kernel
theorem dX8_sheet_77 : decode cX8_sheet 77 = .ok (.iinc 4 1, 3) := by decide +kernel
theorem dX8_sheet_80 : decode cX8_sheet 80 = .ok (.goto (-23), 3) := by decide +kernel
theorem dX8_sheet_83 : decode cX8_sheet 83 = .ok (.iconst 1, 1) := by decide +kernel
theorem dX8_sheet_84 : decode cX8_sheet 84 = .ok (.ireturn, 1) := by decide +kernel
theorem dX8_lose_0 : decode cX8_lose 0 = .ok (.iload_n 1, 1) := by decide +kernel
theorem dX8_lose_1 : decode cX8_lose 1 = .ok (.invokestatic 103, 3) := by decide +kernel
theorem dX8_lose_4 : decode cX8_lose 4 = .ok (.ifCond .ne 5, 3) := by decide +kernel
theorem dX8_lose_7 : decode cX8_lose 7 = .ok (.iconst (-1), 1) := by decide +kernel
theorem dX8_lose_8 : decode cX8_lose 8 = .ok (.ireturn, 1) := by decide +kernel
theorem dX8_lose_9 : decode cX8_lose 9 = .ok (.aload_n 0, 1) := by decide +kernel
theorem dX8_lose_10 : decode cX8_lose 10 = .ok (.getfield 9, 3) := by decide +kernel
theorem dX8_lose_13 : decode cX8_lose 13 = .ok (.iload_n 1, 1) := by decide +kernel
theorem dX8_lose_14 : decode cX8_lose 14 = .ok (.iaload, 1) := by decide +kernel
theorem dX8_lose_15 : decode cX8_lose 15 = .ok (.bipush (-9), 2) := by decide +kernel
theorem dX8_lose_17 : decode cX8_lose 17 = .ok (.if_icmp .ne 7, 3) := by decide +kernel
theorem dX8_lose_20 : decode cX8_lose 20 = .ok (.iconst 0, 1) := by decide +kernel
theorem dX8_lose_21 : decode cX8_lose 21 = .ok (.goto 4, 3) := by decide +kernel
theorem dX8_lose_24 : decode cX8_lose 24 = .ok (.iconst 1, 1) := by decide +kernel
theorem dX8_lose_25 : decode cX8_lose 25 = .ok (.istore_n 2, 1) := by decide +kernel
theorem dX8_lose_26 : decode cX8_lose 26 = .ok (.aload_n 0, 1) := by decide +kernel
theorem dX8_lose_27 : decode cX8_lose 27 = .ok (.getfield 9, 3) := by decide +kernel
theorem dX8_lose_30 : decode cX8_lose 30 = .ok (.iload_n 1, 1) := by decide +kernel
theorem dX8_lose_31 : decode cX8_lose 31 = .ok (.bipush (-9), 2) := by decide +kernel
theorem dX8_lose_33 : decode cX8_lose 33 = .ok (.iastore, 1) := by decide +kernel
theorem dX8_lose_34 : decode cX8_lose 34 = .ok (.iload_n 2, 1) := by decide +kernel
theorem dX8_lose_35 : decode cX8_lose 35 = .ok (.ireturn, 1) := by decide +kernel
theorem dX8_put_0 : decode cX8_put 0 = .ok (.aload_n 0, 1) := by decide +kernel
theorem dX8_put_1 : decode cX8_put 1 = .ok (.iconst 0, 1) := by decide +kernel
theorem dX8_put_2 : decode cX8_put 2 = .ok (.putfield 76, 3) := by decide +kernel
theorem dX8_put_5 : decode cX8_put 5 = .ok (.iload_n 1, 1) := by decide +kernel
theorem dX8_put_6 : decode cX8_put 6 = .ok (.invokestatic 103, 3) := by decide +kernel
theorem dX8_put_9 : decode cX8_put 9 = .ok (.ifCond .ne 5, 3) := by decide +kernel
theorem dX8_put_12 : decode cX8_put 12 = .ok (.iconst (-1), 1) := by decide +kernel
theorem dX8_put_13 : decode cX8_put 13 = .ok (.ireturn, 1) := by decide +kernel
theorem dX8_put_14 : decode cX8_put 14 = .ok (.aload_n 0, 1) := by decide +kernel
theorem dX8_put_15 : decode cX8_put 15 = .ok (.getfield 9, 3) := by decide +kernel
theorem dX8_put_18 : decode cX8_put 18 = .ok (.iload_n 1, 1) := by decide +kernel
theorem dX8_put_19 : decode cX8_put 19 = .ok (.iaload, 1) := by decide +kernel
theorem dX8_put_20 : decode cX8_put 20 = .ok (.bipush (-9), 2) := by decide +kernel
theorem dX8_put_22 : decode cX8_put 22 = .ok (.if_icmp .ne 9, 3) := by decide +kernel
theorem dX8_put_25 : decode cX8_put 25 = .ok (.aload_n 0, 1) := by decide +kernel
theorem dX8_put_26 : decode cX8_put 26 = .ok (.iconst 1, 1) := by decide +kernel
theorem dX8_put_27 : decode cX8_put 27 = .ok (.invokevirtual 114, 3) := by decide +kernel
theorem dX8_put_30 : decode cX8_put 30 = .ok (.ireturn, 1) := by decide +kernel
theorem dX8_put_31 : decode cX8_put 31 = .ok (.iload_n 2, 1) := by decide +kernel
theorem dX8_put_32 : decode cX8_put 32 = .ok (.iconst 0, 1) := by decide +kernel
theorem dX8_put_33 : decode cX8_put 33 = .ok (.aload_n 0, 1) := by decide +kernel
theorem dX8_put_34 : decode cX8_put 34 = .ok (.getfield 13, 3) := by decide +kernel
theorem dX8_put_37 : decode cX8_put 37 = .ok (.iload_n 1, 1) := by decide +kernel
theorem dX8_put_38 : decode cX8_put 38 = .ok (.iaload, 1) := by decide +kernel
theorem dX8_put_39 : decode cX8_put 39 = .ok (.iconst 1, 1) := by decide +kernel
theorem dX8_put_40 : decode cX8_put 40 = .ok (.isub, 1) := by decide +kernel
theorem dX8_put_41 : decode cX8_put 41 = .ok (.invokestatic 82, 3) := by decide +kernel
theorem dX8_put_44 : decode cX8_put 44 = .ok (.ifCond .ne 9, 3) := by decide +kernel
theorem dX8_put_47 : decode cX8_put 47 = .ok (.aload_n 0, 1) := by decide +kernel
theorem dX8_put_48 : decode cX8_put 48 = .ok (.iconst 3, 1) := by decide +kernel
theorem dX8_put_49 : decode cX8_put 49 = .ok (.invokevirtual 114, 3) := by decide +kernel
theorem dX8_put_52 : decode cX8_put 52 = .ok (.ireturn, 1) := by decide +kernel
theorem dX8_put_53 : decode cX8_put 53 = .ok (.aload_n 0, 1) := by decide +kernel
theorem dX8_put_54 : decode cX8_put 54 = .ok (.getfield 16, 3) := by decide +kernel
theorem dX8_put_57 : decode cX8_put 57 = .ok (.bipush 50, 2) := by decide +kernel
theorem dX8_put_59 : decode cX8_put 59 = .ok (.iload_n 1, 1) := by decide +kernel
theorem dX8_put_60 : decode cX8_put 60 = .ok (.imul, 1) := by decide +kernel
theorem dX8_put_61 : decode cX8_put 61 = .ok (.iload_n 2, 1) := by decide +kernel
theorem dX8_put_62 : decode cX8_put 62 = .ok (.iadd, 1) := by decide +kernel
theorem dX8_put_63 : decode cX8_put 63 = .ok (.aload_n 0, 1) := by decide +kernel
theorem dX8_put_64 : decode cX8_put 64 = .ok (.getfield 9, 3) := by decide +kernel
theorem dX8_put_67 : decode cX8_put 67 = .ok (.iload_n 1, 1) := by decide +kernel
theorem dX8_put_68 : decode cX8_put 68 = .ok (.iaload, 1) := by decide +kernel
theorem dX8_put_69 : decode cX8_put 69 = .ok (.ifCond .ne 8, 3) := by decide +kernel
theorem dX8_put_72 : decode cX8_put 72 = .ok (.iload_n 3, 1) := by decide +kernel
theorem dX8_put_73 : decode cX8_put 73 = .ok (.i2b, 1) := by decide +kernel
theorem dX8_put_74 : decode cX8_put 74 = .ok (.goto 19, 3) := by decide +kernel
theorem dX8_put_77 : decode cX8_put 77 = .ok (.aload_n 0, 1) := by decide +kernel
theorem dX8_put_78 : decode cX8_put 78 = .ok (.getfield 9, 3) := by decide +kernel
theorem dX8_put_81 : decode cX8_put 81 = .ok (.iload_n 1, 1) := by decide +kernel
theorem dX8_put_82 : decode cX8_put 82 = .ok (.iaload, 1) := by decide +kernel
theorem dX8_put_83 : decode cX8_put 83 = .ok (.iconst 1, 1) := by decide +kernel
theorem dX8_put_84 : decode cX8_put 84 = .ok (.if_icmp .ne 8, 3) := by decide +kernel
theorem dX8_put_87 : decode cX8_put 87 = .ok (.iload_n 3, 1) := by decide +kernel
theorem dX8_put_88 : decode cX8_put 88 = .ok (.i2s, 1) := by decide +kernel
theorem dX8_put_89 : decode cX8_put 89 = .ok (.goto 4, 3) := by decide +kernel
theorem dX8_put_92 : decode cX8_put 92 = .ok (.iload_n 3, 1) := by decide +kernel
theorem dX8_put_93 : decode cX8_put 93 = .ok (.iastore, 1) := by decide +kernel
theorem dX8_put_94 : decode cX8_put 94 = .ok (.iconst 1, 1) := by decide +kernel
theorem dX8_put_95 : decode cX8_put 95 = .ok (.ireturn, 1) := by decide +kernel
theorem dX8_cell_0 : decode cX8_cell 0 = .ok (.aload_n 0, 1) := by decide +kernel
theorem dX8_cell_1 : decode cX8_cell 1 = .ok (.iconst 0, 1) := by decide +kernel
theorem dX8_cell_2 : decode cX8_cell 2 = .ok (.putfield 76, 3) := by decide +kernel
theorem dX8_cell_5 : decode cX8_cell 5 = .ok (.iload_n 1, 1) := by decide +kernel
theorem dX8_cell_6 : decode cX8_cell 6 = .ok (.invokestatic 103, 3) := by decide +kernel
theorem dX8_cell_9 : decode cX8_cell 9 = .ok (.ifCond .eq 10, 3) := by decide +kernel
theorem dX8_cell_12 : decode cX8_cell 12 = .ok (.iload_n 3, 1) := by decide +kernel
theorem dX8_cell_13 : decode cX8_cell 13 = .ok (.invokestatic 107, 3) := by decide +kernel
theorem dX8_cell_16 : decode cX8_cell 16 = .ok (.ifCond .ne 7, 3) := by decide +kernel
theorem dX8_cell_19 : decode cX8_cell 19 = .ok (.ldc2_w 80, 3) := by decide +kernel
theorem dX8_cell_22 : decode cX8_cell 22 = .ok (.lreturn, 1) := by decide +kernel
theorem dX8_cell_23 : decode cX8_cell 23 = .ok (.aload_n 0, 1) := by decide +kernel
theorem dX8_cell_24 : decode cX8_cell 24 = .ok (.getfield 9, 3) := by decide +kernel
theorem dX8_cell_27 : decode cX8_cell 27 = .ok (.iload_n 1, 1) := by decide +kernel
theorem dX8_cell_28 : decode cX8_cell 28 = .ok (.iaload, 1) := by decide +kernel
theorem dX8_cell_29 : decode cX8_cell 29 = .ok (.bipush (-9), 2) := by decide +kernel
theorem dX8_cell_31 : decode cX8_cell 31 = .ok (.if_icmp .eq 19, 3) := by decide +kernel
theorem dX8_cell_34 : decode cX8_cell 34 = .ok (.aload_n 0, 1) := by decide +kernel
theorem dX8_cell_35 : decode cX8_cell 35 = .ok (.getfield 9, 3) := by decide +kernel
theorem dX8_cell_38 : decode cX8_cell 38 = .ok (.iload_n 1, 1) := by decide +kernel
theorem dX8_cell_39 : decode cX8_cell 39 = .ok (.iaload, 1) := by decide +kernel
theorem dX8_cell_40 : decode cX8_cell 40 = .ok (.iload_n 3, 1) := by decide +kernel
theorem dX8_cell_41 : decode cX8_cell 41 = .ok (.if_icmp .eq 9, 3) := by decide +kernel
theorem dX8_cell_44 : decode cX8_cell 44 = .ok (.aload_n 0, 1) := by decide +kernel
theorem dX8_cell_45 : decode cX8_cell 45 = .ok (.iconst 2, 1) := by decide +kernel
theorem dX8_cell_46 : decode cX8_cell 46 = .ok (.invokevirtual 225, 3) := by decide +kernel
theorem dX8_cell_49 : decode cX8_cell 49 = .ok (.lreturn, 1) := by decide +kernel
theorem dX8_cell_50 : decode cX8_cell 50 = .ok (.aload_n 0, 1) := by decide +kernel
theorem dX8_cell_51 : decode cX8_cell 51 = .ok (.getfield 9, 3) := by decide +kernel
theorem dX8_cell_54 : decode cX8_cell 54 = .ok (.iload_n 1, 1) := by decide +kernel
theorem dX8_cell_55 : decode cX8_cell 55 = .ok (.iaload, 1) := by decide +kernel
theorem dX8_cell_56 : decode cX8_cell 56 = .ok (.bipush (-9), 2) := by decide +kernel
theorem dX8_cell_58 : decode cX8_cell 58 = .ok (.if_icmp .ne 9, 3) := by decide +kernel
theorem dX8_cell_61 : decode cX8_cell 61 = .ok (.aload_n 0, 1) := by decide +kernel
theorem dX8_cell_62 : decode cX8_cell 62 = .ok (.iconst 1, 1) := by decide +kernel
theorem dX8_cell_63 : decode cX8_cell 63 = .ok (.invokevirtual 225, 3) := by decide +kernel
theorem dX8_cell_66 : decode cX8_cell 66 = .ok (.lreturn, 1) := by decide +kernel
theorem dX8_cell_67 : decode cX8_cell 67 = .ok (.iload_n 2, 1) := by decide +kernel
theorem dX8_cell_68 : decode cX8_cell 68 = .ok (.iconst 0, 1) := by decide +kernel
theorem dX8_cell_69 : decode cX8_cell 69 = .ok (.aload_n 0, 1) := by decide +kernel
theorem dX8_cell_70 : decode cX8_cell 70 = .ok (.getfield 13, 3) := by decide +kernel
theorem dX8_cell_73 : decode cX8_cell 73 = .ok (.iload_n 1, 1) := by decide +kernel
theorem dX8_cell_74 : decode cX8_cell 74 = .ok (.iaload, 1) := by decide +kernel
theorem dX8_cell_75 : decode cX8_cell 75 = .ok (.iconst 1, 1) := by decide +kernel
theorem dX8_cell_76 : decode cX8_cell 76 = .ok (.isub, 1) := by decide +kernel
theorem dX8_cell_77 : decode cX8_cell 77 = .ok (.invokestatic 82, 3) := by decide +kernel
theorem dX8_cell_80 : decode cX8_cell 80 = .ok (.ifCond .ne 9, 3) := by decide +kernel
theorem dX8_cell_83 : decode cX8_cell 83 = .ok (.aload_n 0, 1) := by decide +kernel
theorem dX8_cell_84 : decode cX8_cell 84 = .ok (.iconst 3, 1) := by decide +kernel
theorem dX8_cell_85 : decode cX8_cell 85 = .ok (.invokevirtual 225, 3) := by decide +kernel
theorem dX8_cell_88 : decode cX8_cell 88 = .ok (.lreturn, 1) := by decide +kernel
theorem dX8_cell_89 : decode cX8_cell 89 = .ok (.aload_n 0, 1) := by decide +kernel
theorem dX8_cell_90 : decode cX8_cell 90 = .ok (.getfield 16, 3) := by decide +kernel
theorem dX8_cell_93 : decode cX8_cell 93 = .ok (.bipush 50, 2) := by decide +kernel
theorem dX8_cell_95 : decode cX8_cell 95 = .ok (.iload_n 1, 1) := by decide +kernel
theorem dX8_cell_96 : decode cX8_cell 96 = .ok (.imul, 1) := by decide +kernel
theorem dX8_cell_97 : decode cX8_cell 97 = .ok (.iload_n 2, 1) := by decide +kernel
theorem dX8_cell_98 : decode cX8_cell 98 = .ok (.iadd, 1) := by decide +kernel
theorem dX8_cell_99 : decode cX8_cell 99 = .ok (.iaload, 1) := by decide +kernel
theorem dX8_cell_100 : decode cX8_cell 100 = .ok (.i2l, 1) := by decide +kernel
theorem dX8_cell_101 : decode cX8_cell 101 = .ok (.lreturn, 1) := by decide +kernel
theorem dX8_copy_0 : decode cX8_copy 0 = .ok (.aload_n 0, 1) := by decide +kernel
theorem dX8_copy_1 : decode cX8_copy 1 = .ok (.iconst 0, 1) := by decide +kernel
theorem dX8_copy_2 : decode cX8_copy 2 = .ok (.putfield 76, 3) := by decide +kernel
theorem dX8_copy_5 : decode cX8_copy 5 = .ok (.iload_n 1, 1) := by decide +kernel
theorem dX8_copy_6 : decode cX8_copy 6 = .ok (.invokestatic 103, 3) := by decide +kernel
theorem dX8_copy_9 : decode cX8_copy 9 = .ok (.ifCond .eq 10, 3) := by decide +kernel
theorem dX8_copy_12 : decode cX8_copy 12 = .ok (.iload_n 3, 1) := by decide +kernel
theorem dX8_copy_13 : decode cX8_copy 13 = .ok (.invokestatic 103, 3) := by decide +kernel
theorem dX8_copy_16 : decode cX8_copy 16 = .ok (.ifCond .ne 5, 3) := by decide +kernel
theorem dX8_copy_19 : decode cX8_copy 19 = .ok (.iconst (-1), 1) := by decide +kernel
theorem dX8_copy_20 : decode cX8_copy 20 = .ok (.ireturn, 1) := by decide +kernel
theorem dX8_copy_21 : decode cX8_copy 21 = .ok (.aload_n 0, 1) := by decide +kernel
theorem dX8_copy_22 : decode cX8_copy 22 = .ok (.getfield 9, 3) := by decide +kernel
theorem dX8_copy_25 : decode cX8_copy 25 = .ok (.iload_n 1, 1) := by decide +kernel
theorem dX8_copy_26 : decode cX8_copy 26 = .ok (.iaload, 1) := by decide +kernel
theorem dX8_copy_27 : decode cX8_copy 27 = .ok (.bipush (-9), 2) := by decide +kernel
theorem dX8_copy_29 : decode cX8_copy 29 = .ok (.if_icmp .eq 14, 3) := by decide +kernel
theorem dX8_copy_32 : decode cX8_copy 32 = .ok (.aload_n 0, 1) := by decide +kernel
theorem dX8_copy_33 : decode cX8_copy 33 = .ok (.getfield 9, 3) := by decide +kernel
theorem dX8_copy_36 : decode cX8_copy 36 = .ok (.iload_n 3, 1) := by decide +kernel
theorem dX8_copy_37 : decode cX8_copy 37 = .ok (.iaload, 1) := by decide +kernel
theorem dX8_copy_38 : decode cX8_copy 38 = .ok (.bipush (-9), 2) := by decide +kernel
theorem dX8_copy_40 : decode cX8_copy 40 = .ok (.if_icmp .ne 9, 3) := by decide +kernel
theorem dX8_copy_43 : decode cX8_copy 43 = .ok (.aload_n 0, 1) := by decide +kernel
theorem dX8_copy_44 : decode cX8_copy 44 = .ok (.iconst 1, 1) := by decide +kernel
theorem dX8_copy_45 : decode cX8_copy 45 = .ok (.invokevirtual 114, 3) := by decide +kernel
theorem dX8_copy_48 : decode cX8_copy 48 = .ok (.ireturn, 1) := by decide +kernel
theorem dX8_copy_49 : decode cX8_copy 49 = .ok (.aload_n 0, 1) := by decide +kernel
theorem dX8_copy_50 : decode cX8_copy 50 = .ok (.getfield 9, 3) := by decide +kernel
theorem dX8_copy_53 : decode cX8_copy 53 = .ok (.iload_n 1, 1) := by decide +kernel
theorem dX8_copy_54 : decode cX8_copy 54 = .ok (.iaload, 1) := by decide +kernel
theorem dX8_copy_55 : decode cX8_copy 55 = .ok (.aload_n 0, 1) := by decide +kernel
theorem dX8_copy_56 : decode cX8_copy 56 = .ok (.getfield 9, 3) := by decide +kernel
theorem dX8_copy_59 : decode cX8_copy 59 = .ok (.iload_n 3, 1) := by decide +kernel
theorem dX8_copy_60 : decode cX8_copy 60 = .ok (.iaload, 1) := by decide +kernel
theorem dX8_copy_61 : decode cX8_copy 61 = .ok (.if_icmp .eq 9, 3) := by decide +kernel
theorem dX8_copy_64 : decode cX8_copy 64 = .ok (.aload_n 0, 1) := by decide +kernel
theorem dX8_copy_65 : decode cX8_copy 65 = .ok (.iconst 2, 1) := by decide +kernel
theorem dX8_copy_66 : decode cX8_copy 66 = .ok (.invokevirtual 114, 3) := by decide +kernel
theorem dX8_copy_69 : decode cX8_copy 69 = .ok (.ireturn, 1) := by decide +kernel
theorem dX8_copy_70 : decode cX8_copy 70 = .ok (.iload_n 2, 1) := by decide +kernel
theorem dX8_copy_71 : decode cX8_copy 71 = .ok (.ifCond .lt 38, 3) := by decide +kernel
theorem dX8_copy_74 : decode cX8_copy 74 = .ok (.iload 4, 2) := by decide +kernel
theorem dX8_copy_76 : decode cX8_copy 76 = .ok (.ifCond .lt 33, 3) := by decide +kernel
theorem dX8_copy_79 : decode cX8_copy 79 = .ok (.iload 5, 2) := by decide +kernel
theorem dX8_copy_81 : decode cX8_copy 81 = .ok (.ifCond .lt 28, 3) := by decide +kernel
theorem dX8_copy_84 : decode cX8_copy 84 = .ok (.iload_n 2, 1) := by decide +kernel
theorem dX8_copy_85 : decode cX8_copy 85 = .ok (.aload_n 0, 1) := by decide +kernel
theorem dX8_copy_86 : decode cX8_copy 86 = .ok (.getfield 13, 3) := by decide +kernel
theorem dX8_copy_89 : decode cX8_copy 89 = .ok (.iload_n 1, 1) := by decide +kernel
theorem dX8_copy_90 : decode cX8_copy 90 = .ok (.iaload, 1) := by decide +kernel
theorem dX8_copy_91 : decode cX8_copy 91 = .ok (.if_icmp .gt 18, 3) := by decide +kernel
theorem dX8_copy_94 : decode cX8_copy 94 = .ok (.iload 4, 2) := by decide +kernel
theorem dX8_copy_96 : decode cX8_copy 96 = .ok (.aload_n 0, 1) := by decide +kernel
theorem dX8_copy_97 : decode cX8_copy 97 = .ok (.getfield 13, 3) := by decide +kernel
theorem dX8_copy_100 : decode cX8_copy 100 = .ok (.iload_n 3, 1) := by decide +kernel
theorem dX8_copy_101 : decode cX8_copy 101 = .ok (.iaload, 1) := by decide +kernel
theorem dX8_copy_102 : decode cX8_copy 102 = .ok (.if_icmp .gt 7, 3) := by decide +kernel
theorem dX8_copy_105 : decode cX8_copy 105 = .ok (.iconst 1, 1) := by decide +kernel
theorem dX8_copy_106 : decode cX8_copy 106 = .ok (.goto 4, 3) := by decide +kernel
theorem dX8_copy_109 : decode cX8_copy 109 = .ok (.iconst 0, 1) := by decide +kernel
theorem dX8_copy_110 : decode cX8_copy 110 = .ok (.istore 6, 2) := by decide +kernel
theorem dX8_copy_112 : decode cX8_copy 112 = .ok (.iload 6, 2) := by decide +kernel
theorem dX8_copy_114 : decode cX8_copy 114 = .ok (.ifCond .eq 30, 3) := by decide +kernel
theorem dX8_copy_117 : decode cX8_copy 117 = .ok (.iload 5, 2) := by decide +kernel
theorem dX8_copy_119 : decode cX8_copy 119 = .ok (.aload_n 0, 1) := by decide +kernel
theorem dX8_copy_120 : decode cX8_copy 120 = .ok (.getfield 13, 3) := by decide +kernel
theorem dX8_copy_123 : decode cX8_copy 123 = .ok (.iload_n 1, 1) := by decide +kernel
theorem dX8_copy_124 : decode cX8_copy 124 = .ok (.iaload, 1) := by decide +kernel
theorem dX8_copy_125 : decode cX8_copy 125 = .ok (.iload_n 2, 1) := by decide +kernel
theorem dX8_copy_126 : decode cX8_copy 126 = .ok (.isub, 1) := by decide +kernel
theorem dX8_copy_127 : decode cX8_copy 127 = .ok (.if_icmp .gt 17, 3) := by decide +kernel
theorem dX8_copy_130 : decode cX8_copy 130 = .ok (.iload 5, 2) := by decide +kernel
theorem dX8_copy_132 : decode cX8_copy 132 = .ok (.aload_n 0, 1) := by decide +kernel
theorem dX8_copy_133 : decode cX8_copy 133 = .ok (.getfield 13, 3) := by decide +kernel
theorem dX8_copy_136 : decode cX8_copy 136 = .ok (.iload_n 3, 1) := by decide +kernel
theorem dX8_copy_137 : decode cX8_copy 137 = .ok (.iaload, 1) := by decide +kernel
theorem dX8_copy_138 : decode cX8_copy 138 = .ok (.iload 4, 2) := by decide +kernel
theorem dX8_copy_140 : decode cX8_copy 140 = .ok (.isub, 1) := by decide +kernel
theorem dX8_copy_141 : decode cX8_copy 141 = .ok (.if_icmp .le 9, 3) := by decide +kernel
theorem dX8_copy_144 : decode cX8_copy 144 = .ok (.aload_n 0, 1) := by decide +kernel
theorem dX8_copy_145 : decode cX8_copy 145 = .ok (.iconst 3, 1) := by decide +kernel
theorem dX8_copy_146 : decode cX8_copy 146 = .ok (.invokevirtual 114, 3) := by decide +kernel
theorem dX8_copy_149 : decode cX8_copy 149 = .ok (.ireturn, 1) := by decide +kernel
theorem dX8_copy_150 : decode cX8_copy 150 = .ok (.iload_n 2, 1) := by decide +kernel
theorem dX8_copy_151 : decode cX8_copy 151 = .ok (.iload 4, 2) := by decide +kernel
theorem dX8_copy_153 : decode cX8_copy 153 = .ok (.if_icmp .ge 7, 3) := by decide +kernel
theorem dX8_copy_156 : decode cX8_copy 156 = .ok (.iconst 1, 1) := by decide +kernel
theorem dX8_copy_157 : decode cX8_copy 157 = .ok (.goto 4, 3) := by decide +kernel
theorem dX8_copy_160 : decode cX8_copy 160 = .ok (.iconst 0, 1) := by decide +kernel
theorem dX8_copy_161 : decode cX8_copy 161 = .ok (.istore 7, 2) := by decide +kernel
theorem dX8_copy_163 : decode cX8_copy 163 = .ok (.iconst 0, 1) := by decide +kernel
theorem dX8_copy_164 : decode cX8_copy 164 = .ok (.istore 8, 2) := by decide +kernel
theorem dX8_copy_166 : decode cX8_copy 166 = .ok (.iload 8, 2) := by decide +kernel
theorem dX8_copy_168 : decode cX8_copy 168 = .ok (.iload 5, 2) := by decide +kernel
theorem dX8_copy_170 : decode cX8_copy 170 = .ok (.if_icmp .ge 57, 3) := by decide +kernel
theorem dX8_copy_173 : decode cX8_copy 173 = .ok (.iload 7, 2) := by decide +kernel
theorem dX8_copy_175 : decode cX8_copy 175 = .ok (.ifCond .eq 13, 3) := by decide +kernel
theorem dX8_copy_178 : decode cX8_copy 178 = .ok (.iload 5, 2) := by decide +kernel
theorem dX8_copy_180 : decode cX8_copy 180 = .ok (.iconst 1, 1) := by decide +kernel
theorem dX8_copy_181 : decode cX8_copy 181 = .ok (.isub, 1) := by decide +kernel
theorem dX8_copy_182 : decode cX8_copy 182 = .ok (.iload 8, 2) := by decide +kernel
theorem dX8_copy_184 : decode cX8_copy 184 = .ok (.isub, 1) := by decide +kernel
theorem dX8_copy_185 : decode cX8_copy 185 = .ok (.goto 5, 3) := by decide +kernel
theorem dX8_copy_188 : decode cX8_copy 188 = .ok (.iload 8, 2) := by decide +kernel
theorem dX8_copy_190 : decode cX8_copy 190 = .ok (.istore 9, 2) := by decide +kernel
theorem dX8_copy_192 : decode cX8_copy 192 = .ok (.aload_n 0, 1) := by decide +kernel
theorem dX8_copy_193 : decode cX8_copy 193 = .ok (.getfield 16, 3) := by decide +kernel
theorem dX8_copy_196 : decode cX8_copy 196 = .ok (.bipush 50, 2) := by decide +kernel
theorem dX8_copy_198 : decode cX8_copy 198 = .ok (.iload_n 3, 1) := by decide +kernel
theorem dX8_copy_199 : decode cX8_copy 199 = .ok (.imul, 1) := by decide +kernel
theorem dX8_copy_200 : decode cX8_copy 200 = .ok (.iload 4, 2) := by decide +kernel
theorem dX8_copy_202 : decode cX8_copy 202 = .ok (.iadd, 1) := by decide +kernel
theorem dX8_copy_203 : decode cX8_copy 203 = .ok (.iload 9, 2) := by decide +kernel
theorem dX8_copy_205 : decode cX8_copy 205 = .ok (.iadd, 1) := by decide +kernel
theorem dX8_copy_206 : decode cX8_copy 206 = .ok (.aload_n 0, 1) := by decide +kernel
theorem dX8_copy_207 : decode cX8_copy 207 = .ok (.getfield 16, 3) := by decide +kernel
theorem dX8_copy_210 : decode cX8_copy 210 = .ok (.bipush 50, 2) := by decide +kernel
theorem dX8_copy_212 : decode cX8_copy 212 = .ok (.iload_n 1, 1) := by decide +kernel
theorem dX8_copy_213 : decode cX8_copy 213 = .ok (.imul, 1) := by decide +kernel
theorem dX8_copy_214 : decode cX8_copy 214 = .ok (.iload_n 2, 1) := by decide +kernel
theorem dX8_copy_215 : decode cX8_copy 215 = .ok (.iadd, 1) := by decide +kernel
theorem dX8_copy_216 : decode cX8_copy 216 = .ok (.iload 9, 2) := by decide +kernel
theorem dX8_copy_218 : decode cX8_copy 218 = .ok (.iadd, 1) := by decide +kernel
theorem dX8_copy_219 : decode cX8_copy 219 = .ok (.iaload, 1) := by decide +kernel
theorem dX8_copy_220 : decode cX8_copy 220 = .ok (.iastore, 1) := by decide +kernel
theorem dX8_copy_221 : decode cX8_copy 221 = .ok (.iinc 8 1, 3) := by decide +kernel
theorem dX8_copy_224 : decode cX8_copy 224 = .ok (.goto (-58), 3) := by decide +kernel
theorem dX8_copy_227 : decode cX8_copy 227 = .ok (.iload 5, 2) := by decide +kernel
theorem dX8_copy_229 : decode cX8_copy 229 = .ok (.ireturn, 1) := by decide +kernel
theorem dX8_begins_0 : decode cX8_begins 0 = .ok (.aload_n 0, 1) := by decide +kernel
theorem dX8_begins_1 : decode cX8_begins 1 = .ok (.bipush 31, 2) := by decide +kernel
theorem dX8_begins_3 : decode cX8_begins 3 = .ok (.aload_n 0, 1) := by decide +kernel
theorem dX8_begins_4 : decode cX8_begins 4 = .ok (.getfield 229, 3) := by decide +kernel
theorem dX8_begins_7 : decode cX8_begins 7 = .ok (.imul, 1) := by decide +kernel
theorem dX8_begins_8 : decode cX8_begins 8 = .ok (.iload_n 1, 1) := by decide +kernel
theorem dX8_begins_9 : decode cX8_begins 9 = .ok (.iadd, 1) := by decide +kernel
theorem dX8_begins_10 : decode cX8_begins 10 = .ok (.putfield 229, 3) := by decide +kernel
theorem dX8_begins_13 : decode cX8_begins 13 = .ok (.return_, 1) := by decide +kernel
theorem dX8_tell_0 : decode cX8_tell 0 = .ok (.aload_n 0, 1) := by decide +kernel
theorem dX8_tell_1 : decode cX8_tell 1 = .ok (.iload_n 1, 1) := by decide +kernel
theorem dX8_tell_2 : decode cX8_tell 2 = .ok (.invokevirtual 138, 3) := by decide +kernel
theorem dX8_tell_5 : decode cX8_tell 5 = .ok (.ifCond .ne 5, 3) := by decide +kernel
theorem dX8_tell_8 : decode cX8_tell 8 = .ok (.iconst (-1), 1) := by decide +kernel
theorem dX8_tell_9 : decode cX8_tell 9 = .ok (.ireturn, 1) := by decide +kernel
theorem dX8_tell_10 : decode cX8_tell 10 = .ok (.aload_n 0, 1) := by decide +kernel
theorem dX8_tell_11 : decode cX8_tell 11 = .ok (.getfield 22, 3) := by decide +kernel
theorem dX8_tell_14 : decode cX8_tell 14 = .ok (.iload_n 1, 1) := by decide +kernel
theorem dX8_tell_15 : decode cX8_tell 15 = .ok (.iaload, 1) := by decide +kernel
theorem dX8_tell_16 : decode cX8_tell 16 = .ok (.istore_n 2, 1) := by decide +kernel
theorem dX8_tell_17 : decode cX8_tell 17 = .ok (.aload_n 0, 1) := by decide +kernel
theorem dX8_tell_18 : decode cX8_tell 18 = .ok (.getfield 19, 3) := by decide +kernel
theorem dX8_tell_21 : decode cX8_tell 21 = .ok (.iload_n 1, 1) := by decide +kernel
theorem dX8_tell_22 : decode cX8_tell 22 = .ok (.iaload, 1) := by decide +kernel
theorem dX8_tell_23 : decode cX8_tell 23 = .ok (.lookupswitch 67 #[(1, 25), (2, 40)], 25) := by decide +kernel
theorem dX8_tell_48 : decode cX8_tell 48 = .ok (.aload_n 0, 1) := by decide +kernel
theorem dX8_tell_49 : decode cX8_tell 49 = .ok (.iconst 2, 1) := by decide +kernel
theorem dX8_tell_50 : decode cX8_tell 50 = .ok (.invokevirtual 232, 3) := by decide +kernel
theorem dX8_tell_53 : decode cX8_tell 53 = .ok (.aload_n 0, 1) := by decide +kernel
theorem dX8_tell_54 : decode cX8_tell 54 = .ok (.iconst 1, 1) := by decide +kernel
theorem dX8_tell_55 : decode cX8_tell 55 = .ok (.invokevirtual 232, 3) := by decide +kernel
theorem dX8_tell_58 : decode cX8_tell 58 = .ok (.iload_n 2, 1) := by decide +kernel
theorem dX8_tell_59 : decode cX8_tell 59 = .ok (.bipush 100, 2) := by decide +kernel
theorem dX8_tell_61 : decode cX8_tell 61 = .ok (.iadd, 1) := by decide +kernel
theorem dX8_tell_62 : decode cX8_tell 62 = .ok (.ireturn, 1) := by decide +kernel
theorem dX8_tell_63 : decode cX8_tell 63 = .ok (.aload_n 0, 1) := by decide +kernel
theorem dX8_tell_64 : decode cX8_tell 64 = .ok (.iconst 3, 1) := by decide +kernel
theorem dX8_tell_65 : decode cX8_tell 65 = .ok (.invokevirtual 232, 3) := by decide +kernel
theorem dX8_tell_68 : decode cX8_tell 68 = .ok (.aload_n 0, 1) := by decide +kernel
theorem dX8_tell_69 : decode cX8_tell 69 = .ok (.iconst 2, 1) := by decide +kernel
theorem dX8_tell_70 : decode cX8_tell 70 = .ok (.invokevirtual 232, 3) := by decide +kernel
theorem dX8_tell_73 : decode cX8_tell 73 = .ok (.aload_n 0, 1) := by decide +kernel
theorem dX8_tell_74 : decode cX8_tell 74 = .ok (.iconst 1, 1) := by decide +kernel
theorem dX8_tell_75 : decode cX8_tell 75 = .ok (.invokevirtual 232, 3) := by decide +kernel
theorem dX8_tell_78 : decode cX8_tell 78 = .ok (.aload_n 0, 1) := by decide +kernel
theorem dX8_tell_79 : decode cX8_tell 79 = .ok (.iconst 1, 1) := by decide +kernel
theorem dX8_tell_80 : decode cX8_tell 80 = .ok (.invokevirtual 232, 3) := by decide +kernel
theorem dX8_tell_83 : decode cX8_tell 83 = .ok (.iconst 2, 1) := by decide +kernel
theorem dX8_tell_84 : decode cX8_tell 84 = .ok (.iload_n 2, 1) := by decide +kernel
theorem dX8_tell_85 : decode cX8_tell 85 = .ok (.imul, 1) := by decide +kernel
theorem dX8_tell_86 : decode cX8_tell 86 = .ok (.bipush 100, 2) := by decide +kernel
theorem dX8_tell_88 : decode cX8_tell 88 = .ok (.iadd, 1) := by decide +kernel
theorem dX8_tell_89 : decode cX8_tell 89 = .ok (.ireturn, 1) := by decide +kernel
theorem dX8_tell_90 : decode cX8_tell 90 = .ok (.aload_n 0, 1) := by decide +kernel
theorem dX8_tell_91 : decode cX8_tell 91 = .ok (.iconst 1, 1) := by decide +kernel
theorem dX8_tell_92 : decode cX8_tell 92 = .ok (.invokevirtual 232, 3) := by decide +kernel
theorem dX8_tell_95 : decode cX8_tell 95 = .ok (.iload_n 2, 1) := by decide +kernel
theorem dX8_tell_96 : decode cX8_tell 96 = .ok (.ireturn, 1) := by decide +kernel
theorem dX8_lean_0 : decode cX8_lean 0 = .ok (.aload_n 0, 1) := by decide +kernel
theorem dX8_lean_1 : decode cX8_lean 1 = .ok (.iload_n 1, 1) := by decide +kernel
theorem dX8_lean_2 : decode cX8_lean 2 = .ok (.invokevirtual 138, 3) := by decide +kernel
theorem dX8_lean_5 : decode cX8_lean 5 = .ok (.ifCond .ne 5, 3) := by decide +kernel
theorem dX8_lean_8 : decode cX8_lean 8 = .ok (.iconst (-1), 1) := by decide +kernel
theorem dX8_lean_9 : decode cX8_lean 9 = .ok (.ireturn, 1) := by decide +kernel
theorem dX8_lean_10 : decode cX8_lean 10 = .ok (.aload_n 0, 1) := by decide +kernel
theorem dX8_lean_11 : decode cX8_lean 11 = .ok (.aload_n 0, 1) := by decide +kernel
theorem dX8_lean_12 : decode cX8_lean 12 = .ok (.getfield 19, 3) := by decide +kernel
theorem dX8_lean_15 : decode cX8_lean 15 = .ok (.iload_n 1, 1) := by decide +kernel
theorem dX8_lean_16 : decode cX8_lean 16 = .ok (.iaload, 1) := by decide +kernel
theorem dX8_lean_17 : decode cX8_lean 17 = .ok (.iconst 2, 1) := by decide +kernel
theorem dX8_lean_18 : decode cX8_lean 18 = .ok (.if_icmp .ne 7, 3) := by decide +kernel
theorem dX8_lean_21 : decode cX8_lean 21 = .ok (.iconst 5, 1) := by decide +kernel
theorem dX8_lean_22 : decode cX8_lean 22 = .ok (.goto 4, 3) := by decide +kernel
theorem dX8_lean_25 : decode cX8_lean 25 = .ok (.iconst 4, 1) := by decide +kernel
theorem dX8_lean_26 : decode cX8_lean 26 = .ok (.invokevirtual 232, 3) := by decide +kernel
theorem dX8_lean_29 : decode cX8_lean 29 = .ok (.aload_n 0, 1) := by decide +kernel
theorem dX8_lean_30 : decode cX8_lean 30 = .ok (.getfield 19, 3) := by decide +kernel
theorem dX8_lean_33 : decode cX8_lean 33 = .ok (.iload_n 1, 1) := by decide +kernel
theorem dX8_lean_34 : decode cX8_lean 34 = .ok (.iaload, 1) := by decide +kernel
theorem dX8_lean_35 : decode cX8_lean 35 = .ok (.iconst 2, 1) := by decide +kernel
theorem dX8_lean_36 : decode cX8_lean 36 = .ok (.if_icmp .ne 8, 3) := by decide +kernel
theorem dX8_lean_39 : decode cX8_lean 39 = .ok (.bipush 70, 2) := by decide +kernel
theorem dX8_lean_41 : decode cX8_lean 41 = .ok (.goto 4, 3) := by decide +kernel
theorem dX8_lean_44 : decode cX8_lean 44 = .ok (.iload_n 1, 1) := by decide +kernel
theorem dX8_lean_45 : decode cX8_lean 45 = .ok (.ireturn, 1) := by decide +kernel
theorem dX8_as_0 : decode cX8_as 0 = .ok (.aload_n 0, 1) := by decide +kernel
theorem dX8_as_1 : decode cX8_as 1 = .ok (.iconst 0, 1) := by decide +kernel
theorem dX8_as_2 : decode cX8_as 2 = .ok (.putfield 76, 3) := by decide +kernel
theorem dX8_as_5 : decode cX8_as 5 = .ok (.aload_n 0, 1) := by decide +kernel
theorem dX8_as_6 : decode cX8_as 6 = .ok (.iload_n 1, 1) := by decide +kernel
theorem dX8_as_7 : decode cX8_as 7 = .ok (.invokevirtual 138, 3) := by decide +kernel
theorem dX8_as_10 : decode cX8_as 10 = .ok (.ifCond .ne 5, 3) := by decide +kernel
theorem dX8_as_13 : decode cX8_as 13 = .ok (.iconst (-1), 1) := by decide +kernel
theorem dX8_as_14 : decode cX8_as 14 = .ok (.ireturn, 1) := by decide +kernel
theorem dX8_as_15 : decode cX8_as 15 = .ok (.iload_n 2, 1) := by decide +kernel
theorem dX8_as_16 : decode cX8_as 16 = .ok (.iconst 0, 1) := by decide +kernel
theorem dX8_as_17 : decode cX8_as 17 = .ok (.iconst 2, 1) := by decide +kernel
theorem dX8_as_18 : decode cX8_as 18 = .ok (.invokestatic 82, 3) := by decide +kernel
theorem dX8_as_21 : decode cX8_as 21 = .ok (.ifCond .ne 6, 3) := by decide +kernel
theorem dX8_as_24 : decode cX8_as 24 = .ok (.bipush (-2), 2) := by decide +kernel
theorem dX8_as_26 : decode cX8_as 26 = .ok (.ireturn, 1) := by decide +kernel
theorem dX8_as_27 : decode cX8_as 27 = .ok (.aload_n 0, 1) := by decide +kernel
theorem dX8_as_28 : decode cX8_as 28 = .ok (.getfield 19, 3) := by decide +kernel
theorem dX8_as_31 : decode cX8_as 31 = .ok (.iload_n 1, 1) := by decide +kernel
theorem dX8_as_32 : decode cX8_as 32 = .ok (.iaload, 1) := by decide +kernel
theorem dX8_as_33 : decode cX8_as 33 = .ok (.iload_n 2, 1) := by decide +kernel
theorem dX8_as_34 : decode cX8_as 34 = .ok (.if_icmp .lt 7, 3) := by decide +kernel
theorem dX8_as_37 : decode cX8_as 37 = .ok (.iconst 1, 1) := by decide +kernel
theorem dX8_as_38 : decode cX8_as 38 = .ok (.goto 8, 3) := by decide +kernel
theorem dX8_as_41 : decode cX8_as 41 = .ok (.aload_n 0, 1) := by decide +kernel
theorem dX8_as_42 : decode cX8_as 42 = .ok (.iconst 2, 1) := by decide +kernel
theorem dX8_as_43 : decode cX8_as 43 = .ok (.invokevirtual 114, 3) := by decide +kernel
theorem dX8_as_46 : decode cX8_as 46 = .ok (.ireturn, 1) := by decide +kernel
theorem dX8_trace_0 : decode cX8_trace 0 = .ok (.aload_n 0, 1) := by decide +kernel
theorem dX8_trace_1 : decode cX8_trace 1 = .ok (.getfield 229, 3) := by decide +kernel
theorem dX8_trace_4 : decode cX8_trace 4 = .ok (.ireturn, 1) := by decide +kernel
theorem dX8_fault_0 : decode cX8_fault 0 = .ok (.aload_n 0, 1) := by decide +kernel
theorem dX8_fault_1 : decode cX8_fault 1 = .ok (.getfield 76, 3) := by decide +kernel
theorem dX8_fault_4 : decode cX8_fault 4 = .ok (.ireturn, 1) := by decide +kernel
theorem dX8_many_0 : decode cX8_many 0 = .ok (.iload_n 1, 1) := by decide +kernel
theorem dX8_many_1 : decode cX8_many 1 = .ok (.tableswitch 68 0 4 #[35, 40, 45, 50, 55], 35) := by decide +kernel
theorem dX8_many_36 : decode cX8_many 36 = .ok (.aload_n 0, 1) := by decide +kernel
theorem dX8_many_37 : decode cX8_many 37 = .ok (.getfield 86, 3) := by decide +kernel
theorem dX8_many_40 : decode cX8_many 40 = .ok (.ireturn, 1) := by decide +kernel
theorem dX8_many_41 : decode cX8_many 41 = .ok (.aload_n 0, 1) := by decide +kernel
theorem dX8_many_42 : decode cX8_many 42 = .ok (.invokevirtual 93, 3) := by decide +kernel
theorem dX8_many_45 : decode cX8_many 45 = .ok (.ireturn, 1) := by decide +kernel
theorem dX8_many_46 : decode cX8_many 46 = .ok (.aload_n 0, 1) := by decide +kernel
theorem dX8_many_47 : decode cX8_many 47 = .ok (.invokevirtual 236, 3) := by decide +kernel
theorem dX8_many_50 : decode cX8_many 50 = .ok (.ireturn, 1) := by decide +kernel
theorem dX8_many_51 : decode cX8_many 51 = .ok (.aload_n 0, 1) := by decide +kernel
theorem dX8_many_52 : decode cX8_many 52 = .ok (.getfield 127, 3) := by decide +kernel
theorem dX8_many_55 : decode cX8_many 55 = .ok (.ireturn, 1) := by decide +kernel
theorem dX8_many_56 : decode cX8_many 56 = .ok (.aload_n 0, 1) := by decide +kernel
theorem dX8_many_57 : decode cX8_many 57 = .ok (.getfield 89, 3) := by decide +kernel
theorem dX8_many_60 : decode cX8_many 60 = .ok (.ifCond .eq 7, 3) := by decide +kernel
theorem dX8_many_63 : decode cX8_many 63 = .ok (.iconst 1, 1) := by decide +kernel
theorem dX8_many_64 : decode cX8_many 64 = .ok (.goto 4, 3) := by decide +kernel
theorem dX8_many_67 : decode cX8_many 67 = .ok (.iconst 0, 1) := by decide +kernel
theorem dX8_many_68 : decode cX8_many 68 = .ok (.ireturn, 1) := by decide +kernel
theorem dX8_many_69 : decode cX8_many 69 = .ok (.bipush (-2), 2) := by decide +kernel
theorem dX8_many_71 : decode cX8_many 71 = .ok (.ireturn, 1) := by decide +kernel
theorem dX8_walled_0 : decode cX8_walled 0 = .ok (.iconst 0, 1) := by decide +kernel
theorem dX8_walled_1 : decode cX8_walled 1 = .ok (.istore_n 1, 1) := by decide +kernel
theorem dX8_walled_2 : decode cX8_walled 2 = .ok (.aload_n 0, 1) := by decide +kernel
theorem dX8_walled_3 : decode cX8_walled 3 = .ok (.getfield 97, 3) := by decide +kernel
theorem dX8_walled_6 : decode cX8_walled 6 = .ok (.istore_n 2, 1) := by decide +kernel
theorem dX8_walled_7 : decode cX8_walled 7 = .ok (.iload_n 2, 1) := by decide +kernel
theorem dX8_walled_8 : decode cX8_walled 8 = .ok (.ifCond .le 16, 3) := by decide +kernel
theorem dX8_walled_11 : decode cX8_walled 11 = .ok (.iload_n 1, 1) := by decide +kernel
theorem dX8_walled_12 : decode cX8_walled 12 = .ok (.iload_n 2, 1) := by decide +kernel
theorem dX8_walled_13 : decode cX8_walled 13 = .ok (.iconst 1, 1) := by decide +kernel
theorem dX8_walled_14 : decode cX8_walled 14 = .ok (.iand, 1) := by decide +kernel
theorem dX8_walled_15 : decode cX8_walled 15 = .ok (.iadd, 1) := by decide +kernel
theorem dX8_walled_16 : decode cX8_walled 16 = .ok (.istore_n 1, 1) := by decide +kernel
theorem dX8_walled_17 : decode cX8_walled 17 = .ok (.iload_n 2, 1) := by decide +kernel
theorem dX8_walled_18 : decode cX8_walled 18 = .ok (.iconst 1, 1) := by decide +kernel
theorem dX8_walled_19 : decode cX8_walled 19 = .ok (.ishr, 1) := by decide +kernel
theorem dX8_walled_20 : decode cX8_walled 20 = .ok (.istore_n 2, 1) := by decide +kernel
theorem dX8_walled_21 : decode cX8_walled 21 = .ok (.goto (-14), 3) := by decide +kernel
theorem dX8_walled_24 : decode cX8_walled 24 = .ok (.iload_n 1, 1) := by decide +kernel
theorem dX8_walled_25 : decode cX8_walled 25 = .ok (.ireturn, 1) := by decide +kernel
theorem dJ9_max_7cf53_0 : decode cJ9_max_7cf53 0 = .ok (.iload_n 0, 1) := by decide +kernel
theorem dJ9_max_7cf53_1 : decode cJ9_max_7cf53 1 = .ok (.iload_n 1, 1) := by decide +kernel
theorem dJ9_max_7cf53_2 : decode cJ9_max_7cf53 2 = .ok (.if_icmp .lt 7, 3) := by decide +kernel
theorem dJ9_max_7cf53_5 : decode cJ9_max_7cf53 5 = .ok (.iload_n 0, 1) := by decide +kernel
theorem dJ9_max_7cf53_6 : decode cJ9_max_7cf53 6 = .ok (.goto 4, 3) := by decide +kernel
theorem dJ9_max_7cf53_9 : decode cJ9_max_7cf53 9 = .ok (.iload_n 1, 1) := by decide +kernel
theorem dJ9_max_7cf53_10 : decode cJ9_max_7cf53 10 = .ok (.ireturn, 1) := by decide +kernel
theorem dJ9_min_7cf53_0 : decode cJ9_min_7cf53 0 = .ok (.iload_n 0, 1) := by decide +kernel
theorem dJ9_min_7cf53_1 : decode cJ9_min_7cf53 1 = .ok (.iload_n 1, 1) := by decide +kernel
theorem dJ9_min_7cf53_2 : decode cJ9_min_7cf53 2 = .ok (.if_icmp .gt 7, 3) := by decide +kernel
theorem dJ9_min_7cf53_5 : decode cJ9_min_7cf53 5 = .ok (.iload_n 0, 1) := by decide +kernel
theorem dJ9_min_7cf53_6 : decode cJ9_min_7cf53 6 = .ok (.goto 4, 3) := by decide +kernel
theorem dJ9_min_7cf53_9 : decode cJ9_min_7cf53 9 = .ok (.iload_n 1, 1) := by decide +kernel
theorem dJ9_min_7cf53_10 : decode cJ9_min_7cf53 10 = .ok (.ireturn, 1) := by decide +kernel
theorem dJ7_fill_d0a16_0 : decode cJ7_fill_d0a16 0 = .ok (.iconst 0, 1) := by decide +kernel
theorem dJ7_fill_d0a16_1 : decode cJ7_fill_d0a16 1 = .ok (.istore_n 3, 1) := by decide +kernel
theorem dJ7_fill_d0a16_2 : decode cJ7_fill_d0a16 2 = .ok (.aload_n 0, 1) := by decide +kernel
theorem dJ7_fill_d0a16_3 : decode cJ7_fill_d0a16 3 = .ok (.arraylength, 1) := by decide +kernel
theorem dJ7_fill_d0a16_4 : decode cJ7_fill_d0a16 4 = .ok (.istore 4, 2) := by decide +kernel
theorem dJ7_fill_d0a16_6 : decode cJ7_fill_d0a16 6 = .ok (.iload_n 3, 1) := by decide +kernel
theorem dJ7_fill_d0a16_7 : decode cJ7_fill_d0a16 7 = .ok (.iload 4, 2) := by decide +kernel
theorem dJ7_fill_d0a16_9 : decode cJ7_fill_d0a16 9 = .ok (.if_icmp .ge 13, 3) := by decide +kernel
theorem dJ7_fill_d0a16_12 : decode cJ7_fill_d0a16 12 = .ok (.aload_n 0, 1) := by decide +kernel
theorem dJ7_fill_d0a16_13 : decode cJ7_fill_d0a16 13 = .ok (.iload_n 3, 1) := by decide +kernel
theorem dJ7_fill_d0a16_14 : decode cJ7_fill_d0a16 14 = .ok (.lload_n 1, 1) := by decide +kernel
theorem dJ7_fill_d0a16_15 : decode cJ7_fill_d0a16 15 = .ok (.lastore, 1) := by decide +kernel
theorem dJ7_fill_d0a16_16 : decode cJ7_fill_d0a16 16 = .ok (.iinc 3 1, 3) := by decide +kernel
theorem dJ7_fill_d0a16_19 : decode cJ7_fill_d0a16 19 = .ok (.goto (-13), 3) := by decide +kernel
theorem dJ7_fill_d0a16_22 : decode cJ7_fill_d0a16 22 = .ok (.return_, 1) := by decide +kernel
theorem dJ7_fill_53178_0 : decode cJ7_fill_53178 0 = .ok (.iconst 0, 1) := by decide +kernel
theorem dJ7_fill_53178_1 : decode cJ7_fill_53178 1 = .ok (.istore_n 2, 1) := by decide +kernel
theorem dJ7_fill_53178_2 : decode cJ7_fill_53178 2 = .ok (.aload_n 0, 1) := by decide +kernel
theorem dJ7_fill_53178_3 : decode cJ7_fill_53178 3 = .ok (.arraylength, 1) := by decide +kernel
theorem dJ7_fill_53178_4 : decode cJ7_fill_53178 4 = .ok (.istore_n 3, 1) := by decide +kernel
theorem dJ7_fill_53178_5 : decode cJ7_fill_53178 5 = .ok (.iload_n 2, 1) := by decide +kernel
theorem dJ7_fill_53178_6 : decode cJ7_fill_53178 6 = .ok (.iload_n 3, 1) := by decide +kernel
theorem dJ7_fill_53178_7 : decode cJ7_fill_53178 7 = .ok (.if_icmp .ge 13, 3) := by decide +kernel
theorem dJ7_fill_53178_10 : decode cJ7_fill_53178 10 = .ok (.aload_n 0, 1) := by decide +kernel
theorem dJ7_fill_53178_11 : decode cJ7_fill_53178 11 = .ok (.iload_n 2, 1) := by decide +kernel
theorem dJ7_fill_53178_12 : decode cJ7_fill_53178 12 = .ok (.iload_n 1, 1) := by decide +kernel
theorem dJ7_fill_53178_13 : decode cJ7_fill_53178 13 = .ok (.iastore, 1) := by decide +kernel
theorem dJ7_fill_53178_14 : decode cJ7_fill_53178 14 = .ok (.iinc 2 1, 3) := by decide +kernel
theorem dJ7_fill_53178_17 : decode cJ7_fill_53178 17 = .ok (.goto (-12), 3) := by decide +kernel
theorem dJ7_fill_53178_20 : decode cJ7_fill_53178 20 = .ok (.return_, 1) := by decide +kernel
theorem dL_law_0 : decode cL_law 0 = .ok (.new 7, 3) := by decide +kernel
theorem dL_law_3 : decode cL_law 3 = .ok (.dup, 1) := by decide +kernel
theorem dL_law_4 : decode cL_law 4 = .ok (.invokespecial 9, 3) := by decide +kernel
theorem dL_law_7 : decode cL_law 7 = .ok (.astore_n 1, 1) := by decide +kernel
theorem dL_law_8 : decode cL_law 8 = .ok (.new 10, 3) := by decide +kernel
theorem dL_law_11 : decode cL_law 11 = .ok (.dup, 1) := by decide +kernel
theorem dL_law_12 : decode cL_law 12 = .ok (.invokespecial 12, 3) := by decide +kernel
theorem dL_law_15 : decode cL_law 15 = .ok (.astore_n 2, 1) := by decide +kernel
theorem dL_law_16 : decode cL_law 16 = .ok (.iconst 0, 1) := by decide +kernel
theorem dL_law_17 : decode cL_law 17 = .ok (.istore_n 3, 1) := by decide +kernel
theorem dL_law_18 : decode cL_law 18 = .ok (.iload_n 3, 1) := by decide +kernel
theorem dL_law_19 : decode cL_law 19 = .ok (.aload_n 0, 1) := by decide +kernel
theorem dL_law_20 : decode cL_law 20 = .ok (.arraylength, 1) := by decide +kernel
theorem dL_law_21 : decode cL_law 21 = .ok (.bipush 6, 2) := by decide +kernel
theorem dL_law_23 : decode cL_law 23 = .ok (.isub, 1) := by decide +kernel
theorem dL_law_24 : decode cL_law 24 = .ok (.if_icmp .gt 1118, 3) := by decide +kernel
theorem dL_law_27 : decode cL_law 27 = .ok (.aload_n 0, 1) := by decide +kernel
theorem dL_law_28 : decode cL_law 28 = .ok (.iload_n 3, 1) := by decide +kernel
theorem dL_law_29 : decode cL_law 29 = .ok (.iaload, 1) := by decide +kernel
theorem dL_law_30 : decode cL_law 30 = .ok (.bipush 31, 2) := by decide +kernel
theorem dL_law_32 : decode cL_law 32 = .ok (.iand, 1) := by decide +kernel
theorem dL_law_33 : decode cL_law 33 = .ok (.tableswitch 1103 0 29 #[135, 188, 221, 270, 293, 326, 379, 432, 445, 458, 481, 544, 557, 580, 624, 647, 700, 723, 746, 759, 802, 825, 868, 912, 975, 998, 1021, 1054, 1067, 1080], 135) := by decide +kernel
theorem dL_law_168 : decode cL_law 168 = .ok (.aload_n 1, 1) := by decide +kernel
theorem dL_law_169 : decode cL_law 169 = .ok (.aload_n 0, 1) := by decide +kernel
theorem dL_law_170 : decode cL_law 170 = .ok (.iload_n 3, 1) := by decide +kernel
theorem dL_law_171 : decode cL_law 171 = .ok (.iconst 1, 1) := by decide +kernel
theorem dL_law_172 : decode cL_law 172 = .ok (.iadd, 1) := by decide +kernel
theorem dL_law_173 : decode cL_law 173 = .ok (.iaload, 1) := by decide +kernel
theorem dL_law_174 : decode cL_law 174 = .ok (.aload_n 0, 1) := by decide +kernel
theorem dL_law_175 : decode cL_law 175 = .ok (.iload_n 3, 1) := by decide +kernel
theorem dL_law_176 : decode cL_law 176 = .ok (.iconst 2, 1) := by decide +kernel
theorem dL_law_177 : decode cL_law 177 = .ok (.iadd, 1) := by decide +kernel
theorem dL_law_178 : decode cL_law 178 = .ok (.iaload, 1) := by decide +kernel
theorem dL_law_179 : decode cL_law 179 = .ok (.aload_n 0, 1) := by decide +kernel
theorem dL_law_180 : decode cL_law 180 = .ok (.iload_n 3, 1) := by decide +kernel
theorem dL_law_181 : decode cL_law 181 = .ok (.iconst 3, 1) := by decide +kernel
theorem dL_law_182 : decode cL_law 182 = .ok (.iadd, 1) := by decide +kernel
theorem dL_law_183 : decode cL_law 183 = .ok (.iaload, 1) := by decide +kernel
theorem dL_law_184 : decode cL_law 184 = .ok (.aload_n 0, 1) := by decide +kernel
theorem dL_law_185 : decode cL_law 185 = .ok (.iload_n 3, 1) := by decide +kernel
theorem dL_law_186 : decode cL_law 186 = .ok (.iconst 4, 1) := by decide +kernel
theorem dL_law_187 : decode cL_law 187 = .ok (.iadd, 1) := by decide +kernel
theorem dL_law_188 : decode cL_law 188 = .ok (.iaload, 1) := by decide +kernel
theorem dL_law_189 : decode cL_law 189 = .ok (.invokevirtual 13, 3) := by decide +kernel
theorem dL_law_192 : decode cL_law 192 = .ok (.aload_n 2, 1) := by decide +kernel
theorem dL_law_193 : decode cL_law 193 = .ok (.aload_n 0, 1) := by decide +kernel
theorem dL_law_194 : decode cL_law 194 = .ok (.iload_n 3, 1) := by decide +kernel
theorem dL_law_195 : decode cL_law 195 = .ok (.iconst 1, 1) := by decide +kernel
theorem dL_law_196 : decode cL_law 196 = .ok (.iadd, 1) := by decide +kernel
theorem dL_law_197 : decode cL_law 197 = .ok (.iaload, 1) := by decide +kernel
theorem dL_law_198 : decode cL_law 198 = .ok (.aload_n 0, 1) := by decide +kernel
theorem dL_law_199 : decode cL_law 199 = .ok (.iload_n 3, 1) := by decide +kernel
theorem dL_law_200 : decode cL_law 200 = .ok (.iconst 2, 1) := by decide +kernel
theorem dL_law_201 : decode cL_law 201 = .ok (.iadd, 1) := by decide +kernel
theorem dL_law_202 : decode cL_law 202 = .ok (.iaload, 1) := by decide +kernel
theorem dL_law_203 : decode cL_law 203 = .ok (.aload_n 0, 1) := by decide +kernel
theorem dL_law_204 : decode cL_law 204 = .ok (.iload_n 3, 1) := by decide +kernel
theorem dL_law_205 : decode cL_law 205 = .ok (.iconst 3, 1) := by decide +kernel
theorem dL_law_206 : decode cL_law 206 = .ok (.iadd, 1) := by decide +kernel
theorem dL_law_207 : decode cL_law 207 = .ok (.iaload, 1) := by decide +kernel
theorem dL_law_208 : decode cL_law 208 = .ok (.aload_n 0, 1) := by decide +kernel
theorem dL_law_209 : decode cL_law 209 = .ok (.iload_n 3, 1) := by decide +kernel
theorem dL_law_210 : decode cL_law 210 = .ok (.iconst 4, 1) := by decide +kernel
theorem dL_law_211 : decode cL_law 211 = .ok (.iadd, 1) := by decide +kernel
theorem dL_law_212 : decode cL_law 212 = .ok (.iaload, 1) := by decide +kernel
theorem dL_law_213 : decode cL_law 213 = .ok (.invokevirtual 17, 3) := by decide +kernel
theorem dL_law_216 : decode cL_law 216 = .ok (.if_icmp .eq 920, 3) := by decide +kernel
theorem dL_law_219 : decode cL_law 219 = .ok (.iconst 0, 1) := by decide +kernel
theorem dL_law_220 : decode cL_law 220 = .ok (.ireturn, 1) := by decide +kernel
theorem dL_law_221 : decode cL_law 221 = .ok (.aload_n 1, 1) := by decide +kernel
theorem dL_law_222 : decode cL_law 222 = .ok (.aload_n 0, 1) := by decide +kernel
theorem dL_law_223 : decode cL_law 223 = .ok (.iload_n 3, 1) := by decide +kernel
theorem dL_law_224 : decode cL_law 224 = .ok (.iconst 1, 1) := by decide +kernel
theorem dL_law_225 : decode cL_law 225 = .ok (.iadd, 1) := by decide +kernel
theorem dL_law_226 : decode cL_law 226 = .ok (.iaload, 1) := by decide +kernel
theorem dL_law_227 : decode cL_law 227 = .ok (.aload_n 0, 1) := by decide +kernel
theorem dL_law_228 : decode cL_law 228 = .ok (.iload_n 3, 1) := by decide +kernel
theorem dL_law_229 : decode cL_law 229 = .ok (.iconst 2, 1) := by decide +kernel
theorem dL_law_230 : decode cL_law 230 = .ok (.iadd, 1) := by decide +kernel
theorem dL_law_231 : decode cL_law 231 = .ok (.iaload, 1) := by decide +kernel
theorem dL_law_232 : decode cL_law 232 = .ok (.invokevirtual 18, 3) := by decide +kernel
theorem dL_law_235 : decode cL_law 235 = .ok (.aload_n 2, 1) := by decide +kernel
theorem dL_law_236 : decode cL_law 236 = .ok (.aload_n 0, 1) := by decide +kernel
theorem dL_law_237 : decode cL_law 237 = .ok (.iload_n 3, 1) := by decide +kernel
theorem dL_law_238 : decode cL_law 238 = .ok (.iconst 1, 1) := by decide +kernel
theorem dL_law_239 : decode cL_law 239 = .ok (.iadd, 1) := by decide +kernel
theorem dL_law_240 : decode cL_law 240 = .ok (.iaload, 1) := by decide +kernel
theorem dL_law_241 : decode cL_law 241 = .ok (.aload_n 0, 1) := by decide +kernel
theorem dL_law_242 : decode cL_law 242 = .ok (.iload_n 3, 1) := by decide +kernel
theorem dL_law_243 : decode cL_law 243 = .ok (.iconst 2, 1) := by decide +kernel
theorem dL_law_244 : decode cL_law 244 = .ok (.iadd, 1) := by decide +kernel
theorem dL_law_245 : decode cL_law 245 = .ok (.iaload, 1) := by decide +kernel
theorem dL_law_246 : decode cL_law 246 = .ok (.invokevirtual 22, 3) := by decide +kernel
theorem dL_law_249 : decode cL_law 249 = .ok (.if_icmp .eq 887, 3) := by decide +kernel
theorem dL_law_252 : decode cL_law 252 = .ok (.iconst 0, 1) := by decide +kernel
theorem dL_law_253 : decode cL_law 253 = .ok (.ireturn, 1) := by decide +kernel
theorem dL_law_254 : decode cL_law 254 = .ok (.aload_n 1, 1) := by decide +kernel
theorem dL_law_255 : decode cL_law 255 = .ok (.aload_n 0, 1) := by decide +kernel
theorem dL_law_256 : decode cL_law 256 = .ok (.iload_n 3, 1) := by decide +kernel
theorem dL_law_257 : decode cL_law 257 = .ok (.iconst 1, 1) := by decide +kernel
theorem dL_law_258 : decode cL_law 258 = .ok (.iadd, 1) := by decide +kernel
theorem dL_law_259 : decode cL_law 259 = .ok (.iaload, 1) := by decide +kernel
theorem dL_law_260 : decode cL_law 260 = .ok (.aload_n 0, 1) := by decide +kernel
theorem dL_law_261 : decode cL_law 261 = .ok (.iload_n 3, 1) := by decide +kernel
theorem dL_law_262 : decode cL_law 262 = .ok (.iconst 2, 1) := by decide +kernel
theorem dL_law_263 : decode cL_law 263 = .ok (.iadd, 1) := by decide +kernel
theorem dL_law_264 : decode cL_law 264 = .ok (.iaload, 1) := by decide +kernel
theorem dL_law_265 : decode cL_law 265 = .ok (.ifCond .eq 7, 3) := by decide +kernel
theorem dL_law_268 : decode cL_law 268 = .ok (.iconst 1, 1) := by decide +kernel
theorem dL_law_269 : decode cL_law 269 = .ok (.goto 4, 3) := by decide +kernel
theorem dL_law_272 : decode cL_law 272 = .ok (.iconst 0, 1) := by decide +kernel
theorem dL_law_273 : decode cL_law 273 = .ok (.invokevirtual 23, 3) := by decide +kernel
theorem dL_law_276 : decode cL_law 276 = .ok (.aload_n 2, 1) := by decide +kernel
theorem dL_law_277 : decode cL_law 277 = .ok (.aload_n 0, 1) := by decide +kernel
theorem dL_law_278 : decode cL_law 278 = .ok (.iload_n 3, 1) := by decide +kernel
theorem dL_law_279 : decode cL_law 279 = .ok (.iconst 1, 1) := by decide +kernel
theorem dL_law_280 : decode cL_law 280 = .ok (.iadd, 1) := by decide +kernel
theorem dL_law_281 : decode cL_law 281 = .ok (.iaload, 1) := by decide +kernel
theorem dL_law_282 : decode cL_law 282 = .ok (.aload_n 0, 1) := by decide +kernel
theorem dL_law_283 : decode cL_law 283 = .ok (.iload_n 3, 1) := by decide +kernel
theorem dL_law_284 : decode cL_law 284 = .ok (.iconst 2, 1) := by decide +kernel
theorem dL_law_285 : decode cL_law 285 = .ok (.iadd, 1) := by decide +kernel
theorem dL_law_286 : decode cL_law 286 = .ok (.iaload, 1) := by decide +kernel
theorem dL_law_287 : decode cL_law 287 = .ok (.ifCond .eq 7, 3) := by decide +kernel
theorem dL_law_290 : decode cL_law 290 = .ok (.iconst 1, 1) := by decide +kernel
theorem dL_law_291 : decode cL_law 291 = .ok (.goto 4, 3) := by decide +kernel
theorem dL_law_294 : decode cL_law 294 = .ok (.iconst 0, 1) := by decide +kernel
theorem dL_law_295 : decode cL_law 295 = .ok (.invokevirtual 27, 3) := by decide +kernel
theorem dL_law_298 : decode cL_law 298 = .ok (.if_icmp .eq 838, 3) := by decide +kernel
theorem dL_law_301 : decode cL_law 301 = .ok (.iconst 0, 1) := by decide +kernel
theorem dL_law_302 : decode cL_law 302 = .ok (.ireturn, 1) := by decide +kernel
theorem dL_law_303 : decode cL_law 303 = .ok (.aload_n 1, 1) := by decide +kernel
theorem dL_law_304 : decode cL_law 304 = .ok (.aload_n 0, 1) := by decide +kernel
theorem dL_law_305 : decode cL_law 305 = .ok (.iload_n 3, 1) := by decide +kernel
theorem dL_law_306 : decode cL_law 306 = .ok (.iconst 1, 1) := by decide +kernel
theorem dL_law_307 : decode cL_law 307 = .ok (.iadd, 1) := by decide +kernel
theorem dL_law_308 : decode cL_law 308 = .ok (.iaload, 1) := by decide +kernel
theorem dL_law_309 : decode cL_law 309 = .ok (.invokevirtual 28, 3) := by decide +kernel
theorem dL_law_312 : decode cL_law 312 = .ok (.aload_n 2, 1) := by decide +kernel
theorem dL_law_313 : decode cL_law 313 = .ok (.aload_n 0, 1) := by decide +kernel
theorem dL_law_314 : decode cL_law 314 = .ok (.iload_n 3, 1) := by decide +kernel
theorem dL_law_315 : decode cL_law 315 = .ok (.iconst 1, 1) := by decide +kernel
theorem dL_law_316 : decode cL_law 316 = .ok (.iadd, 1) := by decide +kernel
theorem dL_law_317 : decode cL_law 317 = .ok (.iaload, 1) := by decide +kernel
theorem dL_law_318 : decode cL_law 318 = .ok (.invokevirtual 32, 3) := by decide +kernel
theorem dL_law_321 : decode cL_law 321 = .ok (.if_icmp .eq 815, 3) := by decide +kernel
theorem dL_law_324 : decode cL_law 324 = .ok (.iconst 0, 1) := by decide +kernel
theorem dL_law_325 : decode cL_law 325 = .ok (.ireturn, 1) := by decide +kernel
theorem dL_law_326 : decode cL_law 326 = .ok (.aload_n 1, 1) := by decide +kernel
theorem dL_law_327 : decode cL_law 327 = .ok (.aload_n 0, 1) := by decide +kernel
theorem dL_law_328 : decode cL_law 328 = .ok (.iload_n 3, 1) := by decide +kernel
theorem dL_law_329 : decode cL_law 329 = .ok (.iconst 1, 1) := by decide +kernel
theorem dL_law_330 : decode cL_law 330 = .ok (.iadd, 1) := by decide +kernel
theorem dL_law_331 : decode cL_law 331 = .ok (.iaload, 1) := by decide +kernel
theorem dL_law_332 : decode cL_law 332 = .ok (.aload_n 0, 1) := by decide +kernel
theorem dL_law_333 : decode cL_law 333 = .ok (.iload_n 3, 1) := by decide +kernel
theorem dL_law_334 : decode cL_law 334 = .ok (.iconst 2, 1) := by decide +kernel
theorem dL_law_335 : decode cL_law 335 = .ok (.iadd, 1) := by decide +kernel
theorem dL_law_336 : decode cL_law 336 = .ok (.iaload, 1) := by decide +kernel
theorem dL_law_337 : decode cL_law 337 = .ok (.invokevirtual 33, 3) := by decide +kernel
theorem dL_law_340 : decode cL_law 340 = .ok (.aload_n 2, 1) := by decide +kernel
theorem dL_law_341 : decode cL_law 341 = .ok (.aload_n 0, 1) := by decide +kernel
theorem dL_law_342 : decode cL_law 342 = .ok (.iload_n 3, 1) := by decide +kernel
theorem dL_law_343 : decode cL_law 343 = .ok (.iconst 1, 1) := by decide +kernel
theorem dL_law_344 : decode cL_law 344 = .ok (.iadd, 1) := by decide +kernel
theorem dL_law_345 : decode cL_law 345 = .ok (.iaload, 1) := by decide +kernel
theorem dL_law_346 : decode cL_law 346 = .ok (.aload_n 0, 1) := by decide +kernel
theorem dL_law_347 : decode cL_law 347 = .ok (.iload_n 3, 1) := by decide +kernel
theorem dL_law_348 : decode cL_law 348 = .ok (.iconst 2, 1) := by decide +kernel
theorem dL_law_349 : decode cL_law 349 = .ok (.iadd, 1) := by decide +kernel
theorem dL_law_350 : decode cL_law 350 = .ok (.iaload, 1) := by decide +kernel
theorem dL_law_351 : decode cL_law 351 = .ok (.invokevirtual 36, 3) := by decide +kernel
theorem dL_law_354 : decode cL_law 354 = .ok (.if_icmp .eq 782, 3) := by decide +kernel
theorem dL_law_357 : decode cL_law 357 = .ok (.iconst 0, 1) := by decide +kernel
theorem dL_law_358 : decode cL_law 358 = .ok (.ireturn, 1) := by decide +kernel
theorem dL_law_359 : decode cL_law 359 = .ok (.aload_n 1, 1) := by decide +kernel
theorem dL_law_360 : decode cL_law 360 = .ok (.aload_n 0, 1) := by decide +kernel
theorem dL_law_361 : decode cL_law 361 = .ok (.iload_n 3, 1) := by decide +kernel
theorem dL_law_362 : decode cL_law 362 = .ok (.iconst 1, 1) := by decide +kernel
theorem dL_law_363 : decode cL_law 363 = .ok (.iadd, 1) := by decide +kernel
theorem dL_law_364 : decode cL_law 364 = .ok (.iaload, 1) := by decide +kernel
theorem dL_law_365 : decode cL_law 365 = .ok (.aload_n 0, 1) := by decide +kernel
theorem dL_law_366 : decode cL_law 366 = .ok (.iload_n 3, 1) := by decide +kernel
theorem dL_law_367 : decode cL_law 367 = .ok (.iconst 2, 1) := by decide +kernel
theorem dL_law_368 : decode cL_law 368 = .ok (.iadd, 1) := by decide +kernel
theorem dL_law_369 : decode cL_law 369 = .ok (.iaload, 1) := by decide +kernel
theorem dL_law_370 : decode cL_law 370 = .ok (.aload_n 0, 1) := by decide +kernel
theorem dL_law_371 : decode cL_law 371 = .ok (.iload_n 3, 1) := by decide +kernel
theorem dL_law_372 : decode cL_law 372 = .ok (.iconst 3, 1) := by decide +kernel
theorem dL_law_373 : decode cL_law 373 = .ok (.iadd, 1) := by decide +kernel
theorem dL_law_374 : decode cL_law 374 = .ok (.iaload, 1) := by decide +kernel
theorem dL_law_375 : decode cL_law 375 = .ok (.aload_n 0, 1) := by decide +kernel
theorem dL_law_376 : decode cL_law 376 = .ok (.iload_n 3, 1) := by decide +kernel
theorem dL_law_377 : decode cL_law 377 = .ok (.iconst 4, 1) := by decide +kernel
theorem dL_law_378 : decode cL_law 378 = .ok (.iadd, 1) := by decide +kernel
theorem dL_law_379 : decode cL_law 379 = .ok (.iaload, 1) := by decide +kernel
theorem dL_law_380 : decode cL_law 380 = .ok (.invokevirtual 37, 3) := by decide +kernel
theorem dL_law_383 : decode cL_law 383 = .ok (.aload_n 2, 1) := by decide +kernel
theorem dL_law_384 : decode cL_law 384 = .ok (.aload_n 0, 1) := by decide +kernel
theorem dL_law_385 : decode cL_law 385 = .ok (.iload_n 3, 1) := by decide +kernel
theorem dL_law_386 : decode cL_law 386 = .ok (.iconst 1, 1) := by decide +kernel
theorem dL_law_387 : decode cL_law 387 = .ok (.iadd, 1) := by decide +kernel
theorem dL_law_388 : decode cL_law 388 = .ok (.iaload, 1) := by decide +kernel
theorem dL_law_389 : decode cL_law 389 = .ok (.aload_n 0, 1) := by decide +kernel
theorem dL_law_390 : decode cL_law 390 = .ok (.iload_n 3, 1) := by decide +kernel
theorem dL_law_391 : decode cL_law 391 = .ok (.iconst 2, 1) := by decide +kernel
theorem dL_law_392 : decode cL_law 392 = .ok (.iadd, 1) := by decide +kernel
theorem dL_law_393 : decode cL_law 393 = .ok (.iaload, 1) := by decide +kernel
theorem dL_law_394 : decode cL_law 394 = .ok (.aload_n 0, 1) := by decide +kernel
theorem dL_law_395 : decode cL_law 395 = .ok (.iload_n 3, 1) := by decide +kernel
theorem dL_law_396 : decode cL_law 396 = .ok (.iconst 3, 1) := by decide +kernel
theorem dL_law_397 : decode cL_law 397 = .ok (.iadd, 1) := by decide +kernel
theorem dL_law_398 : decode cL_law 398 = .ok (.iaload, 1) := by decide +kernel
theorem dL_law_399 : decode cL_law 399 = .ok (.aload_n 0, 1) := by decide +kernel
theorem dL_law_400 : decode cL_law 400 = .ok (.iload_n 3, 1) := by decide +kernel
theorem dL_law_401 : decode cL_law 401 = .ok (.iconst 4, 1) := by decide +kernel
theorem dL_law_402 : decode cL_law 402 = .ok (.iadd, 1) := by decide +kernel
theorem dL_law_403 : decode cL_law 403 = .ok (.iaload, 1) := by decide +kernel
theorem dL_law_404 : decode cL_law 404 = .ok (.invokevirtual 40, 3) := by decide +kernel
theorem dL_law_407 : decode cL_law 407 = .ok (.if_icmp .eq 729, 3) := by decide +kernel
theorem dL_law_410 : decode cL_law 410 = .ok (.iconst 0, 1) := by decide +kernel
theorem dL_law_411 : decode cL_law 411 = .ok (.ireturn, 1) := by decide +kernel
theorem dL_law_412 : decode cL_law 412 = .ok (.aload_n 1, 1) := by decide +kernel
theorem dL_law_413 : decode cL_law 413 = .ok (.aload_n 0, 1) := by decide +kernel
theorem dL_law_414 : decode cL_law 414 = .ok (.iload_n 3, 1) := by decide +kernel
theorem dL_law_415 : decode cL_law 415 = .ok (.iconst 1, 1) := by decide +kernel
theorem dL_law_416 : decode cL_law 416 = .ok (.iadd, 1) := by decide +kernel
theorem dL_law_417 : decode cL_law 417 = .ok (.iaload, 1) := by decide +kernel
theorem dL_law_418 : decode cL_law 418 = .ok (.aload_n 0, 1) := by decide +kernel
theorem dL_law_419 : decode cL_law 419 = .ok (.iload_n 3, 1) := by decide +kernel
theorem dL_law_420 : decode cL_law 420 = .ok (.iconst 2, 1) := by decide +kernel
theorem dL_law_421 : decode cL_law 421 = .ok (.iadd, 1) := by decide +kernel
theorem dL_law_422 : decode cL_law 422 = .ok (.iaload, 1) := by decide +kernel
theorem dL_law_423 : decode cL_law 423 = .ok (.aload_n 0, 1) := by decide +kernel
theorem dL_law_424 : decode cL_law 424 = .ok (.iload_n 3, 1) := by decide +kernel
theorem dL_law_425 : decode cL_law 425 = .ok (.iconst 3, 1) := by decide +kernel
theorem dL_law_426 : decode cL_law 426 = .ok (.iadd, 1) := by decide +kernel
theorem dL_law_427 : decode cL_law 427 = .ok (.iaload, 1) := by decide +kernel
theorem dL_law_428 : decode cL_law 428 = .ok (.aload_n 0, 1) := by decide +kernel
theorem dL_law_429 : decode cL_law 429 = .ok (.iload_n 3, 1) := by decide +kernel
theorem dL_law_430 : decode cL_law 430 = .ok (.iconst 4, 1) := by decide +kernel
theorem dL_law_431 : decode cL_law 431 = .ok (.iadd, 1) := by decide +kernel
theorem dL_law_432 : decode cL_law 432 = .ok (.iaload, 1) := by decide +kernel
theorem dL_law_433 : decode cL_law 433 = .ok (.invokevirtual 41, 3) := by decide +kernel
theorem dL_law_436 : decode cL_law 436 = .ok (.aload_n 2, 1) := by decide +kernel
theorem dL_law_437 : decode cL_law 437 = .ok (.aload_n 0, 1) := by decide +kernel
theorem dL_law_438 : decode cL_law 438 = .ok (.iload_n 3, 1) := by decide +kernel
theorem dL_law_439 : decode cL_law 439 = .ok (.iconst 1, 1) := by decide +kernel
theorem dL_law_440 : decode cL_law 440 = .ok (.iadd, 1) := by decide +kernel
theorem dL_law_441 : decode cL_law 441 = .ok (.iaload, 1) := by decide +kernel
theorem dL_law_442 : decode cL_law 442 = .ok (.aload_n 0, 1) := by decide +kernel
theorem dL_law_443 : decode cL_law 443 = .ok (.iload_n 3, 1) := by decide +kernel
theorem dL_law_444 : decode cL_law 444 = .ok (.iconst 2, 1) := by decide +kernel
theorem dL_law_445 : decode cL_law 445 = .ok (.iadd, 1) := by decide +kernel
theorem dL_law_446 : decode cL_law 446 = .ok (.iaload, 1) := by decide +kernel
theorem dL_law_447 : decode cL_law 447 = .ok (.aload_n 0, 1) := by decide +kernel
theorem dL_law_448 : decode cL_law 448 = .ok (.iload_n 3, 1) := by decide +kernel
theorem dL_law_449 : decode cL_law 449 = .ok (.iconst 3, 1) := by decide +kernel
theorem dL_law_450 : decode cL_law 450 = .ok (.iadd, 1) := by decide +kernel
theorem dL_law_451 : decode cL_law 451 = .ok (.iaload, 1) := by decide +kernel
theorem dL_law_452 : decode cL_law 452 = .ok (.aload_n 0, 1) := by decide +kernel
theorem dL_law_453 : decode cL_law 453 = .ok (.iload_n 3, 1) := by decide +kernel
theorem dL_law_454 : decode cL_law 454 = .ok (.iconst 4, 1) := by decide +kernel
theorem dL_law_455 : decode cL_law 455 = .ok (.iadd, 1) := by decide +kernel
theorem dL_law_456 : decode cL_law 456 = .ok (.iaload, 1) := by decide +kernel
theorem dL_law_457 : decode cL_law 457 = .ok (.invokevirtual 44, 3) := by decide +kernel
theorem dL_law_460 : decode cL_law 460 = .ok (.if_icmp .eq 676, 3) := by decide +kernel
theorem dL_law_463 : decode cL_law 463 = .ok (.iconst 0, 1) := by decide +kernel
theorem dL_law_464 : decode cL_law 464 = .ok (.ireturn, 1) := by decide +kernel
theorem dL_law_465 : decode cL_law 465 = .ok (.aload_n 1, 1) := by decide +kernel
theorem dL_law_466 : decode cL_law 466 = .ok (.invokevirtual 45, 3) := by decide +kernel
theorem dL_law_469 : decode cL_law 469 = .ok (.aload_n 2, 1) := by decide +kernel
theorem dL_law_470 : decode cL_law 470 = .ok (.invokevirtual 49, 3) := by decide +kernel
theorem dL_law_473 : decode cL_law 473 = .ok (.if_icmp .eq 663, 3) := by decide +kernel
theorem dL_law_476 : decode cL_law 476 = .ok (.iconst 0, 1) := by decide +kernel
theorem dL_law_477 : decode cL_law 477 = .ok (.ireturn, 1) := by decide +kernel
theorem dL_law_478 : decode cL_law 478 = .ok (.aload_n 1, 1) := by decide +kernel
theorem dL_law_479 : decode cL_law 479 = .ok (.invokevirtual 50, 3) := by decide +kernel
theorem dL_law_482 : decode cL_law 482 = .ok (.aload_n 2, 1) := by decide +kernel
theorem dL_law_483 : decode cL_law 483 = .ok (.invokevirtual 53, 3) := by decide +kernel
theorem dL_law_486 : decode cL_law 486 = .ok (.if_icmp .eq 650, 3) := by decide +kernel
theorem dL_law_489 : decode cL_law 489 = .ok (.iconst 0, 1) := by decide +kernel
theorem dL_law_490 : decode cL_law 490 = .ok (.ireturn, 1) := by decide +kernel
theorem dL_law_491 : decode cL_law 491 = .ok (.aload_n 1, 1) := by decide +kernel
theorem dL_law_492 : decode cL_law 492 = .ok (.aload_n 0, 1) := by decide +kernel
theorem dL_law_493 : decode cL_law 493 = .ok (.iload_n 3, 1) := by decide +kernel
theorem dL_law_494 : decode cL_law 494 = .ok (.iconst 1, 1) := by decide +kernel
theorem dL_law_495 : decode cL_law 495 = .ok (.iadd, 1) := by decide +kernel
theorem dL_law_496 : decode cL_law 496 = .ok (.iaload, 1) := by decide +kernel
theorem dL_law_497 : decode cL_law 497 = .ok (.invokevirtual 54, 3) := by decide +kernel
theorem dL_law_500 : decode cL_law 500 = .ok (.aload_n 2, 1) := by decide +kernel
theorem dL_law_501 : decode cL_law 501 = .ok (.aload_n 0, 1) := by decide +kernel
theorem dL_law_502 : decode cL_law 502 = .ok (.iload_n 3, 1) := by decide +kernel
theorem dL_law_503 : decode cL_law 503 = .ok (.iconst 1, 1) := by decide +kernel
theorem dL_law_504 : decode cL_law 504 = .ok (.iadd, 1) := by decide +kernel
theorem dL_law_505 : decode cL_law 505 = .ok (.iaload, 1) := by decide +kernel
theorem dL_law_506 : decode cL_law 506 = .ok (.invokevirtual 57, 3) := by decide +kernel
theorem dL_law_509 : decode cL_law 509 = .ok (.if_icmp .eq 627, 3) := by decide +kernel
theorem dL_law_512 : decode cL_law 512 = .ok (.iconst 0, 1) := by decide +kernel
theorem dL_law_513 : decode cL_law 513 = .ok (.ireturn, 1) := by decide +kernel
theorem dL_law_514 : decode cL_law 514 = .ok (.aload_n 1, 1) := by decide +kernel
theorem dL_law_515 : decode cL_law 515 = .ok (.aload_n 0, 1) := by decide +kernel
theorem dL_law_516 : decode cL_law 516 = .ok (.iload_n 3, 1) := by decide +kernel
theorem dL_law_517 : decode cL_law 517 = .ok (.iconst 1, 1) := by decide +kernel
theorem dL_law_518 : decode cL_law 518 = .ok (.iadd, 1) := by decide +kernel
theorem dL_law_519 : decode cL_law 519 = .ok (.iaload, 1) := by decide +kernel
theorem dL_law_520 : decode cL_law 520 = .ok (.aload_n 0, 1) := by decide +kernel
theorem dL_law_521 : decode cL_law 521 = .ok (.iload_n 3, 1) := by decide +kernel
theorem dL_law_522 : decode cL_law 522 = .ok (.iconst 2, 1) := by decide +kernel
theorem dL_law_523 : decode cL_law 523 = .ok (.iadd, 1) := by decide +kernel
theorem dL_law_524 : decode cL_law 524 = .ok (.iaload, 1) := by decide +kernel
theorem dL_law_525 : decode cL_law 525 = .ok (.aload_n 0, 1) := by decide +kernel
theorem dL_law_526 : decode cL_law 526 = .ok (.iload_n 3, 1) := by decide +kernel
theorem dL_law_527 : decode cL_law 527 = .ok (.iconst 3, 1) := by decide +kernel
theorem dL_law_528 : decode cL_law 528 = .ok (.iadd, 1) := by decide +kernel
theorem dL_law_529 : decode cL_law 529 = .ok (.iaload, 1) := by decide +kernel
theorem dL_law_530 : decode cL_law 530 = .ok (.aload_n 0, 1) := by decide +kernel
theorem dL_law_531 : decode cL_law 531 = .ok (.iload_n 3, 1) := by decide +kernel
theorem dL_law_532 : decode cL_law 532 = .ok (.iconst 4, 1) := by decide +kernel
theorem dL_law_533 : decode cL_law 533 = .ok (.iadd, 1) := by decide +kernel
theorem dL_law_534 : decode cL_law 534 = .ok (.iaload, 1) := by decide +kernel
theorem dL_law_535 : decode cL_law 535 = .ok (.aload_n 0, 1) := by decide +kernel
theorem dL_law_536 : decode cL_law 536 = .ok (.iload_n 3, 1) := by decide +kernel
theorem dL_law_537 : decode cL_law 537 = .ok (.iconst 5, 1) := by decide +kernel
theorem dL_law_538 : decode cL_law 538 = .ok (.iadd, 1) := by decide +kernel
theorem dL_law_539 : decode cL_law 539 = .ok (.iaload, 1) := by decide +kernel
theorem dL_law_540 : decode cL_law 540 = .ok (.invokevirtual 58, 3) := by decide +kernel
theorem dL_law_543 : decode cL_law 543 = .ok (.aload_n 2, 1) := by decide +kernel
theorem dL_law_544 : decode cL_law 544 = .ok (.aload_n 0, 1) := by decide +kernel
theorem dL_law_545 : decode cL_law 545 = .ok (.iload_n 3, 1) := by decide +kernel
theorem dL_law_546 : decode cL_law 546 = .ok (.iconst 1, 1) := by decide +kernel
theorem dL_law_547 : decode cL_law 547 = .ok (.iadd, 1) := by decide +kernel
theorem dL_law_548 : decode cL_law 548 = .ok (.iaload, 1) := by decide +kernel
theorem dL_law_549 : decode cL_law 549 = .ok (.aload_n 0, 1) := by decide +kernel
theorem dL_law_550 : decode cL_law 550 = .ok (.iload_n 3, 1) := by decide +kernel
theorem dL_law_551 : decode cL_law 551 = .ok (.iconst 2, 1) := by decide +kernel
theorem dL_law_552 : decode cL_law 552 = .ok (.iadd, 1) := by decide +kernel
theorem dL_law_553 : decode cL_law 553 = .ok (.iaload, 1) := by decide +kernel
theorem dL_law_554 : decode cL_law 554 = .ok (.aload_n 0, 1) := by decide +kernel
theorem dL_law_555 : decode cL_law 555 = .ok (.iload_n 3, 1) := by decide +kernel
theorem dL_law_556 : decode cL_law 556 = .ok (.iconst 3, 1) := by decide +kernel
theorem dL_law_557 : decode cL_law 557 = .ok (.iadd, 1) := by decide +kernel
theorem dL_law_558 : decode cL_law 558 = .ok (.iaload, 1) := by decide +kernel
theorem dL_law_559 : decode cL_law 559 = .ok (.aload_n 0, 1) := by decide +kernel
theorem dL_law_560 : decode cL_law 560 = .ok (.iload_n 3, 1) := by decide +kernel
theorem dL_law_561 : decode cL_law 561 = .ok (.iconst 4, 1) := by decide +kernel
theorem dL_law_562 : decode cL_law 562 = .ok (.iadd, 1) := by decide +kernel
theorem dL_law_563 : decode cL_law 563 = .ok (.iaload, 1) := by decide +kernel
theorem dL_law_564 : decode cL_law 564 = .ok (.aload_n 0, 1) := by decide +kernel
theorem dL_law_565 : decode cL_law 565 = .ok (.iload_n 3, 1) := by decide +kernel
theorem dL_law_566 : decode cL_law 566 = .ok (.iconst 5, 1) := by decide +kernel
theorem dL_law_567 : decode cL_law 567 = .ok (.iadd, 1) := by decide +kernel
theorem dL_law_568 : decode cL_law 568 = .ok (.iaload, 1) := by decide +kernel
theorem dL_law_569 : decode cL_law 569 = .ok (.invokevirtual 62, 3) := by decide +kernel
theorem dL_law_572 : decode cL_law 572 = .ok (.if_icmp .eq 564, 3) := by decide +kernel
theorem dL_law_575 : decode cL_law 575 = .ok (.iconst 0, 1) := by decide +kernel
theorem dL_law_576 : decode cL_law 576 = .ok (.ireturn, 1) := by decide +kernel
theorem dL_law_577 : decode cL_law 577 = .ok (.aload_n 1, 1) := by decide +kernel
theorem dL_law_578 : decode cL_law 578 = .ok (.invokevirtual 63, 3) := by decide +kernel
theorem dL_law_581 : decode cL_law 581 = .ok (.aload_n 2, 1) := by decide +kernel
theorem dL_law_582 : decode cL_law 582 = .ok (.invokevirtual 66, 3) := by decide +kernel
theorem dL_law_585 : decode cL_law 585 = .ok (.if_icmp .eq 551, 3) := by decide +kernel
theorem dL_law_588 : decode cL_law 588 = .ok (.iconst 0, 1) := by decide +kernel
theorem dL_law_589 : decode cL_law 589 = .ok (.ireturn, 1) := by decide +kernel
theorem dL_law_590 : decode cL_law 590 = .ok (.aload_n 1, 1) := by decide +kernel
theorem dL_law_591 : decode cL_law 591 = .ok (.aload_n 0, 1) := by decide +kernel
theorem dL_law_592 : decode cL_law 592 = .ok (.iload_n 3, 1) := by decide +kernel
theorem dL_law_593 : decode cL_law 593 = .ok (.iconst 1, 1) := by decide +kernel
theorem dL_law_594 : decode cL_law 594 = .ok (.iadd, 1) := by decide +kernel
theorem dL_law_595 : decode cL_law 595 = .ok (.iaload, 1) := by decide +kernel
theorem dL_law_596 : decode cL_law 596 = .ok (.invokevirtual 67, 3) := by decide +kernel
theorem dL_law_599 : decode cL_law 599 = .ok (.aload_n 2, 1) := by decide +kernel
theorem dL_law_600 : decode cL_law 600 = .ok (.aload_n 0, 1) := by decide +kernel
theorem dL_law_601 : decode cL_law 601 = .ok (.iload_n 3, 1) := by decide +kernel
theorem dL_law_602 : decode cL_law 602 = .ok (.iconst 1, 1) := by decide +kernel
theorem dL_law_603 : decode cL_law 603 = .ok (.iadd, 1) := by decide +kernel
theorem dL_law_604 : decode cL_law 604 = .ok (.iaload, 1) := by decide +kernel
theorem dL_law_605 : decode cL_law 605 = .ok (.invokevirtual 70, 3) := by decide +kernel
theorem dL_law_608 : decode cL_law 608 = .ok (.if_icmp .eq 528, 3) := by decide +kernel
theorem dL_law_611 : decode cL_law 611 = .ok (.iconst 0, 1) := by decide +kernel
theorem dL_law_612 : decode cL_law 612 = .ok (.ireturn, 1) := by decide +kernel
theorem dL_law_613 : decode cL_law 613 = .ok (.aload_n 1, 1) := by decide +kernel
theorem dL_law_614 : decode cL_law 614 = .ok (.aload_n 0, 1) := by decide +kernel
theorem dL_law_615 : decode cL_law 615 = .ok (.iload_n 3, 1) := by decide +kernel
theorem dL_law_616 : decode cL_law 616 = .ok (.iconst 1, 1) := by decide +kernel
theorem dL_law_617 : decode cL_law 617 = .ok (.iadd, 1) := by decide +kernel
theorem dL_law_618 : decode cL_law 618 = .ok (.iaload, 1) := by decide +kernel
theorem dL_law_619 : decode cL_law 619 = .ok (.aload_n 0, 1) := by decide +kernel
theorem dL_law_620 : decode cL_law 620 = .ok (.iload_n 3, 1) := by decide +kernel
theorem dL_law_621 : decode cL_law 621 = .ok (.iconst 2, 1) := by decide +kernel
theorem dL_law_622 : decode cL_law 622 = .ok (.iadd, 1) := by decide +kernel
theorem dL_law_623 : decode cL_law 623 = .ok (.iaload, 1) := by decide +kernel
theorem dL_law_624 : decode cL_law 624 = .ok (.aload_n 0, 1) := by decide +kernel
theorem dL_law_625 : decode cL_law 625 = .ok (.iload_n 3, 1) := by decide +kernel
theorem dL_law_626 : decode cL_law 626 = .ok (.iconst 3, 1) := by decide +kernel
theorem dL_law_627 : decode cL_law 627 = .ok (.iadd, 1) := by decide +kernel
theorem dL_law_628 : decode cL_law 628 = .ok (.iaload, 1) := by decide +kernel
theorem dL_law_629 : decode cL_law 629 = .ok (.invokevirtual 71, 3) := by decide +kernel
theorem dL_law_632 : decode cL_law 632 = .ok (.aload_n 2, 1) := by decide +kernel
theorem dL_law_633 : decode cL_law 633 = .ok (.aload_n 0, 1) := by decide +kernel
theorem dL_law_634 : decode cL_law 634 = .ok (.iload_n 3, 1) := by decide +kernel
theorem dL_law_635 : decode cL_law 635 = .ok (.iconst 1, 1) := by decide +kernel
theorem dL_law_636 : decode cL_law 636 = .ok (.iadd, 1) := by decide +kernel
theorem dL_law_637 : decode cL_law 637 = .ok (.iaload, 1) := by decide +kernel
theorem dL_law_638 : decode cL_law 638 = .ok (.aload_n 0, 1) := by decide +kernel
theorem dL_law_639 : decode cL_law 639 = .ok (.iload_n 3, 1) := by decide +kernel
theorem dL_law_640 : decode cL_law 640 = .ok (.iconst 2, 1) := by decide +kernel
theorem dL_law_641 : decode cL_law 641 = .ok (.iadd, 1) := by decide +kernel
theorem dL_law_642 : decode cL_law 642 = .ok (.iaload, 1) := by decide +kernel
theorem dL_law_643 : decode cL_law 643 = .ok (.aload_n 0, 1) := by decide +kernel
theorem dL_law_644 : decode cL_law 644 = .ok (.iload_n 3, 1) := by decide +kernel
theorem dL_law_645 : decode cL_law 645 = .ok (.iconst 3, 1) := by decide +kernel
theorem dL_law_646 : decode cL_law 646 = .ok (.iadd, 1) := by decide +kernel
theorem dL_law_647 : decode cL_law 647 = .ok (.iaload, 1) := by decide +kernel
theorem dL_law_648 : decode cL_law 648 = .ok (.invokevirtual 75, 3) := by decide +kernel
theorem dL_law_651 : decode cL_law 651 = .ok (.lcmp, 1) := by decide +kernel
theorem dL_law_652 : decode cL_law 652 = .ok (.ifCond .eq 484, 3) := by decide +kernel
theorem dL_law_655 : decode cL_law 655 = .ok (.iconst 0, 1) := by decide +kernel
theorem dL_law_656 : decode cL_law 656 = .ok (.ireturn, 1) := by decide +kernel
theorem dL_law_657 : decode cL_law 657 = .ok (.aload_n 1, 1) := by decide +kernel
theorem dL_law_658 : decode cL_law 658 = .ok (.aload_n 0, 1) := by decide +kernel
theorem dL_law_659 : decode cL_law 659 = .ok (.iload_n 3, 1) := by decide +kernel
theorem dL_law_660 : decode cL_law 660 = .ok (.iconst 1, 1) := by decide +kernel
theorem dL_law_661 : decode cL_law 661 = .ok (.iadd, 1) := by decide +kernel
theorem dL_law_662 : decode cL_law 662 = .ok (.iaload, 1) := by decide +kernel
theorem dL_law_663 : decode cL_law 663 = .ok (.invokevirtual 76, 3) := by decide +kernel
theorem dL_law_666 : decode cL_law 666 = .ok (.aload_n 2, 1) := by decide +kernel
theorem dL_law_667 : decode cL_law 667 = .ok (.aload_n 0, 1) := by decide +kernel
theorem dL_law_668 : decode cL_law 668 = .ok (.iload_n 3, 1) := by decide +kernel
theorem dL_law_669 : decode cL_law 669 = .ok (.iconst 1, 1) := by decide +kernel
theorem dL_law_670 : decode cL_law 670 = .ok (.iadd, 1) := by decide +kernel
theorem dL_law_671 : decode cL_law 671 = .ok (.iaload, 1) := by decide +kernel
theorem dL_law_672 : decode cL_law 672 = .ok (.invokevirtual 79, 3) := by decide +kernel
theorem dL_law_675 : decode cL_law 675 = .ok (.if_icmp .eq 461, 3) := by decide +kernel
theorem dL_law_678 : decode cL_law 678 = .ok (.iconst 0, 1) := by decide +kernel
theorem dL_law_679 : decode cL_law 679 = .ok (.ireturn, 1) := by decide +kernel
theorem dL_law_680 : decode cL_law 680 = .ok (.aload_n 1, 1) := by decide +kernel
theorem dL_law_681 : decode cL_law 681 = .ok (.aload_n 0, 1) := by decide +kernel
theorem dL_law_682 : decode cL_law 682 = .ok (.iload_n 3, 1) := by decide +kernel
theorem dL_law_683 : decode cL_law 683 = .ok (.iconst 1, 1) := by decide +kernel
theorem dL_law_684 : decode cL_law 684 = .ok (.iadd, 1) := by decide +kernel
theorem dL_law_685 : decode cL_law 685 = .ok (.iaload, 1) := by decide +kernel
theorem dL_law_686 : decode cL_law 686 = .ok (.aload_n 0, 1) := by decide +kernel
theorem dL_law_687 : decode cL_law 687 = .ok (.iload_n 3, 1) := by decide +kernel
theorem dL_law_688 : decode cL_law 688 = .ok (.iconst 2, 1) := by decide +kernel
theorem dL_law_689 : decode cL_law 689 = .ok (.iadd, 1) := by decide +kernel
theorem dL_law_690 : decode cL_law 690 = .ok (.iaload, 1) := by decide +kernel
theorem dL_law_691 : decode cL_law 691 = .ok (.aload_n 0, 1) := by decide +kernel
theorem dL_law_692 : decode cL_law 692 = .ok (.iload_n 3, 1) := by decide +kernel
theorem dL_law_693 : decode cL_law 693 = .ok (.iconst 3, 1) := by decide +kernel
theorem dL_law_694 : decode cL_law 694 = .ok (.iadd, 1) := by decide +kernel
theorem dL_law_695 : decode cL_law 695 = .ok (.iaload, 1) := by decide +kernel
theorem dL_law_696 : decode cL_law 696 = .ok (.aload_n 0, 1) := by decide +kernel
theorem dL_law_697 : decode cL_law 697 = .ok (.iload_n 3, 1) := by decide +kernel
theorem dL_law_698 : decode cL_law 698 = .ok (.iconst 4, 1) := by decide +kernel
theorem dL_law_699 : decode cL_law 699 = .ok (.iadd, 1) := by decide +kernel
theorem dL_law_700 : decode cL_law 700 = .ok (.iaload, 1) := by decide +kernel
theorem dL_law_701 : decode cL_law 701 = .ok (.invokevirtual 80, 3) := by decide +kernel
theorem dL_law_704 : decode cL_law 704 = .ok (.aload_n 2, 1) := by decide +kernel
theorem dL_law_705 : decode cL_law 705 = .ok (.aload_n 0, 1) := by decide +kernel
theorem dL_law_706 : decode cL_law 706 = .ok (.iload_n 3, 1) := by decide +kernel
theorem dL_law_707 : decode cL_law 707 = .ok (.iconst 1, 1) := by decide +kernel
theorem dL_law_708 : decode cL_law 708 = .ok (.iadd, 1) := by decide +kernel
theorem dL_law_709 : decode cL_law 709 = .ok (.iaload, 1) := by decide +kernel
theorem dL_law_710 : decode cL_law 710 = .ok (.aload_n 0, 1) := by decide +kernel
theorem dL_law_711 : decode cL_law 711 = .ok (.iload_n 3, 1) := by decide +kernel
theorem dL_law_712 : decode cL_law 712 = .ok (.iconst 2, 1) := by decide +kernel
theorem dL_law_713 : decode cL_law 713 = .ok (.iadd, 1) := by decide +kernel
theorem dL_law_714 : decode cL_law 714 = .ok (.iaload, 1) := by decide +kernel
theorem dL_law_715 : decode cL_law 715 = .ok (.aload_n 0, 1) := by decide +kernel
theorem dL_law_716 : decode cL_law 716 = .ok (.iload_n 3, 1) := by decide +kernel
theorem dL_law_717 : decode cL_law 717 = .ok (.iconst 3, 1) := by decide +kernel
theorem dL_law_718 : decode cL_law 718 = .ok (.iadd, 1) := by decide +kernel
theorem dL_law_719 : decode cL_law 719 = .ok (.iaload, 1) := by decide +kernel
theorem dL_law_720 : decode cL_law 720 = .ok (.aload_n 0, 1) := by decide +kernel
theorem dL_law_721 : decode cL_law 721 = .ok (.iload_n 3, 1) := by decide +kernel
theorem dL_law_722 : decode cL_law 722 = .ok (.iconst 4, 1) := by decide +kernel
theorem dL_law_723 : decode cL_law 723 = .ok (.iadd, 1) := by decide +kernel
theorem dL_law_724 : decode cL_law 724 = .ok (.iaload, 1) := by decide +kernel
theorem dL_law_725 : decode cL_law 725 = .ok (.invokevirtual 83, 3) := by decide +kernel
theorem dL_law_728 : decode cL_law 728 = .ok (.if_icmp .eq 408, 3) := by decide +kernel
theorem dL_law_731 : decode cL_law 731 = .ok (.iconst 0, 1) := by decide +kernel
theorem dL_law_732 : decode cL_law 732 = .ok (.ireturn, 1) := by decide +kernel
theorem dL_law_733 : decode cL_law 733 = .ok (.aload_n 1, 1) := by decide +kernel
theorem dL_law_734 : decode cL_law 734 = .ok (.aload_n 0, 1) := by decide +kernel
theorem dL_law_735 : decode cL_law 735 = .ok (.iload_n 3, 1) := by decide +kernel
theorem dL_law_736 : decode cL_law 736 = .ok (.iconst 1, 1) := by decide +kernel
theorem dL_law_737 : decode cL_law 737 = .ok (.iadd, 1) := by decide +kernel
theorem dL_law_738 : decode cL_law 738 = .ok (.iaload, 1) := by decide +kernel
theorem dL_law_739 : decode cL_law 739 = .ok (.invokevirtual 84, 3) := by decide +kernel
theorem dL_law_742 : decode cL_law 742 = .ok (.aload_n 2, 1) := by decide +kernel
theorem dL_law_743 : decode cL_law 743 = .ok (.aload_n 0, 1) := by decide +kernel
theorem dL_law_744 : decode cL_law 744 = .ok (.iload_n 3, 1) := by decide +kernel
theorem dL_law_745 : decode cL_law 745 = .ok (.iconst 1, 1) := by decide +kernel
theorem dL_law_746 : decode cL_law 746 = .ok (.iadd, 1) := by decide +kernel
theorem dL_law_747 : decode cL_law 747 = .ok (.iaload, 1) := by decide +kernel
theorem dL_law_748 : decode cL_law 748 = .ok (.invokevirtual 87, 3) := by decide +kernel
theorem dL_law_751 : decode cL_law 751 = .ok (.if_icmp .eq 385, 3) := by decide +kernel
theorem dL_law_754 : decode cL_law 754 = .ok (.iconst 0, 1) := by decide +kernel
theorem dL_law_755 : decode cL_law 755 = .ok (.ireturn, 1) := by decide +kernel
theorem dL_law_756 : decode cL_law 756 = .ok (.aload_n 1, 1) := by decide +kernel
theorem dL_law_757 : decode cL_law 757 = .ok (.aload_n 0, 1) := by decide +kernel
theorem dL_law_758 : decode cL_law 758 = .ok (.iload_n 3, 1) := by decide +kernel
theorem dL_law_759 : decode cL_law 759 = .ok (.iconst 1, 1) := by decide +kernel
theorem dL_law_760 : decode cL_law 760 = .ok (.iadd, 1) := by decide +kernel
theorem dL_law_761 : decode cL_law 761 = .ok (.iaload, 1) := by decide +kernel
theorem dL_law_762 : decode cL_law 762 = .ok (.invokevirtual 88, 3) := by decide +kernel
theorem dL_law_765 : decode cL_law 765 = .ok (.aload_n 2, 1) := by decide +kernel
theorem dL_law_766 : decode cL_law 766 = .ok (.aload_n 0, 1) := by decide +kernel
theorem dL_law_767 : decode cL_law 767 = .ok (.iload_n 3, 1) := by decide +kernel
theorem dL_law_768 : decode cL_law 768 = .ok (.iconst 1, 1) := by decide +kernel
theorem dL_law_769 : decode cL_law 769 = .ok (.iadd, 1) := by decide +kernel
theorem dL_law_770 : decode cL_law 770 = .ok (.iaload, 1) := by decide +kernel
theorem dL_law_771 : decode cL_law 771 = .ok (.invokevirtual 91, 3) := by decide +kernel
theorem dL_law_774 : decode cL_law 774 = .ok (.if_icmp .eq 362, 3) := by decide +kernel
theorem dL_law_777 : decode cL_law 777 = .ok (.iconst 0, 1) := by decide +kernel
theorem dL_law_778 : decode cL_law 778 = .ok (.ireturn, 1) := by decide +kernel
theorem dL_law_779 : decode cL_law 779 = .ok (.aload_n 1, 1) := by decide +kernel
theorem dL_law_780 : decode cL_law 780 = .ok (.invokevirtual 92, 3) := by decide +kernel
theorem dL_law_783 : decode cL_law 783 = .ok (.aload_n 2, 1) := by decide +kernel
theorem dL_law_784 : decode cL_law 784 = .ok (.invokevirtual 95, 3) := by decide +kernel
theorem dL_law_787 : decode cL_law 787 = .ok (.if_icmp .eq 349, 3) := by decide +kernel
theorem dL_law_790 : decode cL_law 790 = .ok (.iconst 0, 1) := by decide +kernel
theorem dL_law_791 : decode cL_law 791 = .ok (.ireturn, 1) := by decide +kernel
theorem dL_law_792 : decode cL_law 792 = .ok (.aload_n 1, 1) := by decide +kernel
theorem dL_law_793 : decode cL_law 793 = .ok (.aload_n 0, 1) := by decide +kernel
theorem dL_law_794 : decode cL_law 794 = .ok (.iload_n 3, 1) := by decide +kernel
theorem dL_law_795 : decode cL_law 795 = .ok (.iconst 1, 1) := by decide +kernel
theorem dL_law_796 : decode cL_law 796 = .ok (.iadd, 1) := by decide +kernel
theorem dL_law_797 : decode cL_law 797 = .ok (.iaload, 1) := by decide +kernel
theorem dL_law_798 : decode cL_law 798 = .ok (.aload_n 0, 1) := by decide +kernel
theorem dL_law_799 : decode cL_law 799 = .ok (.iload_n 3, 1) := by decide +kernel
theorem dL_law_800 : decode cL_law 800 = .ok (.iconst 2, 1) := by decide +kernel
theorem dL_law_801 : decode cL_law 801 = .ok (.iadd, 1) := by decide +kernel
theorem dL_law_802 : decode cL_law 802 = .ok (.iaload, 1) := by decide +kernel
theorem dL_law_803 : decode cL_law 803 = .ok (.aload_n 0, 1) := by decide +kernel
theorem dL_law_804 : decode cL_law 804 = .ok (.iload_n 3, 1) := by decide +kernel
theorem dL_law_805 : decode cL_law 805 = .ok (.iconst 3, 1) := by decide +kernel
theorem dL_law_806 : decode cL_law 806 = .ok (.iadd, 1) := by decide +kernel
theorem dL_law_807 : decode cL_law 807 = .ok (.iaload, 1) := by decide +kernel
theorem dL_law_808 : decode cL_law 808 = .ok (.invokevirtual 96, 3) := by decide +kernel
theorem dL_law_811 : decode cL_law 811 = .ok (.aload_n 2, 1) := by decide +kernel
theorem dL_law_812 : decode cL_law 812 = .ok (.aload_n 0, 1) := by decide +kernel
theorem dL_law_813 : decode cL_law 813 = .ok (.iload_n 3, 1) := by decide +kernel
theorem dL_law_814 : decode cL_law 814 = .ok (.iconst 1, 1) := by decide +kernel
theorem dL_law_815 : decode cL_law 815 = .ok (.iadd, 1) := by decide +kernel
theorem dL_law_816 : decode cL_law 816 = .ok (.iaload, 1) := by decide +kernel
theorem dL_law_817 : decode cL_law 817 = .ok (.aload_n 0, 1) := by decide +kernel
theorem dL_law_818 : decode cL_law 818 = .ok (.iload_n 3, 1) := by decide +kernel
theorem dL_law_819 : decode cL_law 819 = .ok (.iconst 2, 1) := by decide +kernel
theorem dL_law_820 : decode cL_law 820 = .ok (.iadd, 1) := by decide +kernel
theorem dL_law_821 : decode cL_law 821 = .ok (.iaload, 1) := by decide +kernel
theorem dL_law_822 : decode cL_law 822 = .ok (.aload_n 0, 1) := by decide +kernel
theorem dL_law_823 : decode cL_law 823 = .ok (.iload_n 3, 1) := by decide +kernel
theorem dL_law_824 : decode cL_law 824 = .ok (.iconst 3, 1) := by decide +kernel
theorem dL_law_825 : decode cL_law 825 = .ok (.iadd, 1) := by decide +kernel
theorem dL_law_826 : decode cL_law 826 = .ok (.iaload, 1) := by decide +kernel
theorem dL_law_827 : decode cL_law 827 = .ok (.invokevirtual 100, 3) := by decide +kernel
theorem dL_law_830 : decode cL_law 830 = .ok (.if_icmp .eq 306, 3) := by decide +kernel
theorem dL_law_833 : decode cL_law 833 = .ok (.iconst 0, 1) := by decide +kernel
theorem dL_law_834 : decode cL_law 834 = .ok (.ireturn, 1) := by decide +kernel
theorem dL_law_835 : decode cL_law 835 = .ok (.aload_n 1, 1) := by decide +kernel
theorem dL_law_836 : decode cL_law 836 = .ok (.aload_n 0, 1) := by decide +kernel
theorem dL_law_837 : decode cL_law 837 = .ok (.iload_n 3, 1) := by decide +kernel
theorem dL_law_838 : decode cL_law 838 = .ok (.iconst 1, 1) := by decide +kernel
theorem dL_law_839 : decode cL_law 839 = .ok (.iadd, 1) := by decide +kernel
theorem dL_law_840 : decode cL_law 840 = .ok (.iaload, 1) := by decide +kernel
theorem dL_law_841 : decode cL_law 841 = .ok (.invokevirtual 101, 3) := by decide +kernel
theorem dL_law_844 : decode cL_law 844 = .ok (.aload_n 2, 1) := by decide +kernel
theorem dL_law_845 : decode cL_law 845 = .ok (.aload_n 0, 1) := by decide +kernel
theorem dL_law_846 : decode cL_law 846 = .ok (.iload_n 3, 1) := by decide +kernel
theorem dL_law_847 : decode cL_law 847 = .ok (.iconst 1, 1) := by decide +kernel
theorem dL_law_848 : decode cL_law 848 = .ok (.iadd, 1) := by decide +kernel
theorem dL_law_849 : decode cL_law 849 = .ok (.iaload, 1) := by decide +kernel
theorem dL_law_850 : decode cL_law 850 = .ok (.invokevirtual 104, 3) := by decide +kernel
theorem dL_law_853 : decode cL_law 853 = .ok (.if_icmp .eq 283, 3) := by decide +kernel
theorem dL_law_856 : decode cL_law 856 = .ok (.iconst 0, 1) := by decide +kernel
theorem dL_law_857 : decode cL_law 857 = .ok (.ireturn, 1) := by decide +kernel
theorem dL_law_858 : decode cL_law 858 = .ok (.aload_n 1, 1) := by decide +kernel
theorem dL_law_859 : decode cL_law 859 = .ok (.aload_n 0, 1) := by decide +kernel
theorem dL_law_860 : decode cL_law 860 = .ok (.iload_n 3, 1) := by decide +kernel
theorem dL_law_861 : decode cL_law 861 = .ok (.iconst 1, 1) := by decide +kernel
theorem dL_law_862 : decode cL_law 862 = .ok (.iadd, 1) := by decide +kernel
theorem dL_law_863 : decode cL_law 863 = .ok (.iaload, 1) := by decide +kernel
theorem dL_law_864 : decode cL_law 864 = .ok (.aload_n 0, 1) := by decide +kernel
theorem dL_law_865 : decode cL_law 865 = .ok (.iload_n 3, 1) := by decide +kernel
theorem dL_law_866 : decode cL_law 866 = .ok (.iconst 2, 1) := by decide +kernel
theorem dL_law_867 : decode cL_law 867 = .ok (.iadd, 1) := by decide +kernel
theorem dL_law_868 : decode cL_law 868 = .ok (.iaload, 1) := by decide +kernel
theorem dL_law_869 : decode cL_law 869 = .ok (.aload_n 0, 1) := by decide +kernel
theorem dL_law_870 : decode cL_law 870 = .ok (.iload_n 3, 1) := by decide +kernel
theorem dL_law_871 : decode cL_law 871 = .ok (.iconst 3, 1) := by decide +kernel
theorem dL_law_872 : decode cL_law 872 = .ok (.iadd, 1) := by decide +kernel
theorem dL_law_873 : decode cL_law 873 = .ok (.iaload, 1) := by decide +kernel
theorem dL_law_874 : decode cL_law 874 = .ok (.invokevirtual 105, 3) := by decide +kernel
theorem dL_law_877 : decode cL_law 877 = .ok (.aload_n 2, 1) := by decide +kernel
theorem dL_law_878 : decode cL_law 878 = .ok (.aload_n 0, 1) := by decide +kernel
theorem dL_law_879 : decode cL_law 879 = .ok (.iload_n 3, 1) := by decide +kernel
theorem dL_law_880 : decode cL_law 880 = .ok (.iconst 1, 1) := by decide +kernel
theorem dL_law_881 : decode cL_law 881 = .ok (.iadd, 1) := by decide +kernel
theorem dL_law_882 : decode cL_law 882 = .ok (.iaload, 1) := by decide +kernel
theorem dL_law_883 : decode cL_law 883 = .ok (.aload_n 0, 1) := by decide +kernel
theorem dL_law_884 : decode cL_law 884 = .ok (.iload_n 3, 1) := by decide +kernel
theorem dL_law_885 : decode cL_law 885 = .ok (.iconst 2, 1) := by decide +kernel
theorem dL_law_886 : decode cL_law 886 = .ok (.iadd, 1) := by decide +kernel
theorem dL_law_887 : decode cL_law 887 = .ok (.iaload, 1) := by decide +kernel
theorem dL_law_888 : decode cL_law 888 = .ok (.aload_n 0, 1) := by decide +kernel
theorem dL_law_889 : decode cL_law 889 = .ok (.iload_n 3, 1) := by decide +kernel
theorem dL_law_890 : decode cL_law 890 = .ok (.iconst 3, 1) := by decide +kernel
theorem dL_law_891 : decode cL_law 891 = .ok (.iadd, 1) := by decide +kernel
theorem dL_law_892 : decode cL_law 892 = .ok (.iaload, 1) := by decide +kernel
theorem dL_law_893 : decode cL_law 893 = .ok (.invokevirtual 108, 3) := by decide +kernel
theorem dL_law_896 : decode cL_law 896 = .ok (.if_icmp .eq 240, 3) := by decide +kernel
theorem dL_law_899 : decode cL_law 899 = .ok (.iconst 0, 1) := by decide +kernel
theorem dL_law_900 : decode cL_law 900 = .ok (.ireturn, 1) := by decide +kernel
theorem dL_law_901 : decode cL_law 901 = .ok (.aload_n 1, 1) := by decide +kernel
theorem dL_law_902 : decode cL_law 902 = .ok (.aload_n 0, 1) := by decide +kernel
theorem dL_law_903 : decode cL_law 903 = .ok (.iload_n 3, 1) := by decide +kernel
theorem dL_law_904 : decode cL_law 904 = .ok (.iconst 1, 1) := by decide +kernel
theorem dL_law_905 : decode cL_law 905 = .ok (.iadd, 1) := by decide +kernel
theorem dL_law_906 : decode cL_law 906 = .ok (.iaload, 1) := by decide +kernel
theorem dL_law_907 : decode cL_law 907 = .ok (.aload_n 0, 1) := by decide +kernel
theorem dL_law_908 : decode cL_law 908 = .ok (.iload_n 3, 1) := by decide +kernel
theorem dL_law_909 : decode cL_law 909 = .ok (.iconst 2, 1) := by decide +kernel
theorem dL_law_910 : decode cL_law 910 = .ok (.iadd, 1) := by decide +kernel
theorem dL_law_911 : decode cL_law 911 = .ok (.iaload, 1) := by decide +kernel
theorem dL_law_912 : decode cL_law 912 = .ok (.aload_n 0, 1) := by decide +kernel
theorem dL_law_913 : decode cL_law 913 = .ok (.iload_n 3, 1) := by decide +kernel
theorem dL_law_914 : decode cL_law 914 = .ok (.iconst 3, 1) := by decide +kernel
theorem dL_law_915 : decode cL_law 915 = .ok (.iadd, 1) := by decide +kernel
theorem dL_law_916 : decode cL_law 916 = .ok (.iaload, 1) := by decide +kernel
theorem dL_law_917 : decode cL_law 917 = .ok (.invokevirtual 109, 3) := by decide +kernel
theorem dL_law_920 : decode cL_law 920 = .ok (.aload_n 2, 1) := by decide +kernel
theorem dL_law_921 : decode cL_law 921 = .ok (.aload_n 0, 1) := by decide +kernel
theorem dL_law_922 : decode cL_law 922 = .ok (.iload_n 3, 1) := by decide +kernel
theorem dL_law_923 : decode cL_law 923 = .ok (.iconst 1, 1) := by decide +kernel
theorem dL_law_924 : decode cL_law 924 = .ok (.iadd, 1) := by decide +kernel
theorem dL_law_925 : decode cL_law 925 = .ok (.iaload, 1) := by decide +kernel
theorem dL_law_926 : decode cL_law 926 = .ok (.aload_n 0, 1) := by decide +kernel
theorem dL_law_927 : decode cL_law 927 = .ok (.iload_n 3, 1) := by decide +kernel
theorem dL_law_928 : decode cL_law 928 = .ok (.iconst 2, 1) := by decide +kernel
theorem dL_law_929 : decode cL_law 929 = .ok (.iadd, 1) := by decide +kernel
theorem dL_law_930 : decode cL_law 930 = .ok (.iaload, 1) := by decide +kernel
theorem dL_law_931 : decode cL_law 931 = .ok (.aload_n 0, 1) := by decide +kernel
theorem dL_law_932 : decode cL_law 932 = .ok (.iload_n 3, 1) := by decide +kernel
theorem dL_law_933 : decode cL_law 933 = .ok (.iconst 3, 1) := by decide +kernel
theorem dL_law_934 : decode cL_law 934 = .ok (.iadd, 1) := by decide +kernel
theorem dL_law_935 : decode cL_law 935 = .ok (.iaload, 1) := by decide +kernel
theorem dL_law_936 : decode cL_law 936 = .ok (.invokevirtual 112, 3) := by decide +kernel
theorem dL_law_939 : decode cL_law 939 = .ok (.lcmp, 1) := by decide +kernel
theorem dL_law_940 : decode cL_law 940 = .ok (.ifCond .eq 196, 3) := by decide +kernel
theorem dL_law_943 : decode cL_law 943 = .ok (.iconst 0, 1) := by decide +kernel
theorem dL_law_944 : decode cL_law 944 = .ok (.ireturn, 1) := by decide +kernel
theorem dL_law_945 : decode cL_law 945 = .ok (.aload_n 1, 1) := by decide +kernel
theorem dL_law_946 : decode cL_law 946 = .ok (.aload_n 0, 1) := by decide +kernel
theorem dL_law_947 : decode cL_law 947 = .ok (.iload_n 3, 1) := by decide +kernel
theorem dL_law_948 : decode cL_law 948 = .ok (.iconst 1, 1) := by decide +kernel
theorem dL_law_949 : decode cL_law 949 = .ok (.iadd, 1) := by decide +kernel
theorem dL_law_950 : decode cL_law 950 = .ok (.iaload, 1) := by decide +kernel
theorem dL_law_951 : decode cL_law 951 = .ok (.aload_n 0, 1) := by decide +kernel
theorem dL_law_952 : decode cL_law 952 = .ok (.iload_n 3, 1) := by decide +kernel
theorem dL_law_953 : decode cL_law 953 = .ok (.iconst 2, 1) := by decide +kernel
theorem dL_law_954 : decode cL_law 954 = .ok (.iadd, 1) := by decide +kernel
theorem dL_law_955 : decode cL_law 955 = .ok (.iaload, 1) := by decide +kernel
theorem dL_law_956 : decode cL_law 956 = .ok (.aload_n 0, 1) := by decide +kernel
theorem dL_law_957 : decode cL_law 957 = .ok (.iload_n 3, 1) := by decide +kernel
theorem dL_law_958 : decode cL_law 958 = .ok (.iconst 3, 1) := by decide +kernel
theorem dL_law_959 : decode cL_law 959 = .ok (.iadd, 1) := by decide +kernel
theorem dL_law_960 : decode cL_law 960 = .ok (.iaload, 1) := by decide +kernel
theorem dL_law_961 : decode cL_law 961 = .ok (.aload_n 0, 1) := by decide +kernel
theorem dL_law_962 : decode cL_law 962 = .ok (.iload_n 3, 1) := by decide +kernel
theorem dL_law_963 : decode cL_law 963 = .ok (.iconst 4, 1) := by decide +kernel
theorem dL_law_964 : decode cL_law 964 = .ok (.iadd, 1) := by decide +kernel
theorem dL_law_965 : decode cL_law 965 = .ok (.iaload, 1) := by decide +kernel
theorem dL_law_966 : decode cL_law 966 = .ok (.aload_n 0, 1) := by decide +kernel
theorem dL_law_967 : decode cL_law 967 = .ok (.iload_n 3, 1) := by decide +kernel
theorem dL_law_968 : decode cL_law 968 = .ok (.iconst 5, 1) := by decide +kernel
theorem dL_law_969 : decode cL_law 969 = .ok (.iadd, 1) := by decide +kernel
theorem dL_law_970 : decode cL_law 970 = .ok (.iaload, 1) := by decide +kernel
theorem dL_law_971 : decode cL_law 971 = .ok (.invokevirtual 113, 3) := by decide +kernel
theorem dL_law_974 : decode cL_law 974 = .ok (.aload_n 2, 1) := by decide +kernel
theorem dL_law_975 : decode cL_law 975 = .ok (.aload_n 0, 1) := by decide +kernel
theorem dL_law_976 : decode cL_law 976 = .ok (.iload_n 3, 1) := by decide +kernel
theorem dL_law_977 : decode cL_law 977 = .ok (.iconst 1, 1) := by decide +kernel
theorem dL_law_978 : decode cL_law 978 = .ok (.iadd, 1) := by decide +kernel
theorem dL_law_979 : decode cL_law 979 = .ok (.iaload, 1) := by decide +kernel
theorem dL_law_980 : decode cL_law 980 = .ok (.aload_n 0, 1) := by decide +kernel
theorem dL_law_981 : decode cL_law 981 = .ok (.iload_n 3, 1) := by decide +kernel
theorem dL_law_982 : decode cL_law 982 = .ok (.iconst 2, 1) := by decide +kernel
theorem dL_law_983 : decode cL_law 983 = .ok (.iadd, 1) := by decide +kernel
theorem dL_law_984 : decode cL_law 984 = .ok (.iaload, 1) := by decide +kernel
theorem dL_law_985 : decode cL_law 985 = .ok (.aload_n 0, 1) := by decide +kernel
theorem dL_law_986 : decode cL_law 986 = .ok (.iload_n 3, 1) := by decide +kernel
theorem dL_law_987 : decode cL_law 987 = .ok (.iconst 3, 1) := by decide +kernel
theorem dL_law_988 : decode cL_law 988 = .ok (.iadd, 1) := by decide +kernel
theorem dL_law_989 : decode cL_law 989 = .ok (.iaload, 1) := by decide +kernel
theorem dL_law_990 : decode cL_law 990 = .ok (.aload_n 0, 1) := by decide +kernel
theorem dL_law_991 : decode cL_law 991 = .ok (.iload_n 3, 1) := by decide +kernel
theorem dL_law_992 : decode cL_law 992 = .ok (.iconst 4, 1) := by decide +kernel
theorem dL_law_993 : decode cL_law 993 = .ok (.iadd, 1) := by decide +kernel
theorem dL_law_994 : decode cL_law 994 = .ok (.iaload, 1) := by decide +kernel
theorem dL_law_995 : decode cL_law 995 = .ok (.aload_n 0, 1) := by decide +kernel
theorem dL_law_996 : decode cL_law 996 = .ok (.iload_n 3, 1) := by decide +kernel
theorem dL_law_997 : decode cL_law 997 = .ok (.iconst 5, 1) := by decide +kernel
theorem dL_law_998 : decode cL_law 998 = .ok (.iadd, 1) := by decide +kernel
theorem dL_law_999 : decode cL_law 999 = .ok (.iaload, 1) := by decide +kernel
theorem dL_law_1000 : decode cL_law 1000 = .ok (.invokevirtual 116, 3) := by decide +kernel
theorem dL_law_1003 : decode cL_law 1003 = .ok (.if_icmp .eq 133, 3) := by decide +kernel
theorem dL_law_1006 : decode cL_law 1006 = .ok (.iconst 0, 1) := by decide +kernel
theorem dL_law_1007 : decode cL_law 1007 = .ok (.ireturn, 1) := by decide +kernel
theorem dL_law_1008 : decode cL_law 1008 = .ok (.aload_n 1, 1) := by decide +kernel
theorem dL_law_1009 : decode cL_law 1009 = .ok (.aload_n 0, 1) := by decide +kernel
theorem dL_law_1010 : decode cL_law 1010 = .ok (.iload_n 3, 1) := by decide +kernel
theorem dL_law_1011 : decode cL_law 1011 = .ok (.iconst 1, 1) := by decide +kernel
theorem dL_law_1012 : decode cL_law 1012 = .ok (.iadd, 1) := by decide +kernel
theorem dL_law_1013 : decode cL_law 1013 = .ok (.iaload, 1) := by decide +kernel
theorem dL_law_1014 : decode cL_law 1014 = .ok (.invokevirtual 117, 3) := by decide +kernel
theorem dL_law_1017 : decode cL_law 1017 = .ok (.aload_n 2, 1) := by decide +kernel
theorem dL_law_1018 : decode cL_law 1018 = .ok (.aload_n 0, 1) := by decide +kernel
theorem dL_law_1019 : decode cL_law 1019 = .ok (.iload_n 3, 1) := by decide +kernel
theorem dL_law_1020 : decode cL_law 1020 = .ok (.iconst 1, 1) := by decide +kernel
theorem dL_law_1021 : decode cL_law 1021 = .ok (.iadd, 1) := by decide +kernel
theorem dL_law_1022 : decode cL_law 1022 = .ok (.iaload, 1) := by decide +kernel
theorem dL_law_1023 : decode cL_law 1023 = .ok (.invokevirtual 120, 3) := by decide +kernel
theorem dL_law_1026 : decode cL_law 1026 = .ok (.if_icmp .eq 110, 3) := by decide +kernel
theorem dL_law_1029 : decode cL_law 1029 = .ok (.iconst 0, 1) := by decide +kernel
theorem dL_law_1030 : decode cL_law 1030 = .ok (.ireturn, 1) := by decide +kernel
theorem dL_law_1031 : decode cL_law 1031 = .ok (.aload_n 1, 1) := by decide +kernel
theorem dL_law_1032 : decode cL_law 1032 = .ok (.aload_n 0, 1) := by decide +kernel
theorem dL_law_1033 : decode cL_law 1033 = .ok (.iload_n 3, 1) := by decide +kernel
theorem dL_law_1034 : decode cL_law 1034 = .ok (.iconst 1, 1) := by decide +kernel
theorem dL_law_1035 : decode cL_law 1035 = .ok (.iadd, 1) := by decide +kernel
theorem dL_law_1036 : decode cL_law 1036 = .ok (.iaload, 1) := by decide +kernel
theorem dL_law_1037 : decode cL_law 1037 = .ok (.invokevirtual 121, 3) := by decide +kernel
theorem dL_law_1040 : decode cL_law 1040 = .ok (.aload_n 2, 1) := by decide +kernel
theorem dL_law_1041 : decode cL_law 1041 = .ok (.aload_n 0, 1) := by decide +kernel
theorem dL_law_1042 : decode cL_law 1042 = .ok (.iload_n 3, 1) := by decide +kernel
theorem dL_law_1043 : decode cL_law 1043 = .ok (.iconst 1, 1) := by decide +kernel
theorem dL_law_1044 : decode cL_law 1044 = .ok (.iadd, 1) := by decide +kernel
theorem dL_law_1045 : decode cL_law 1045 = .ok (.iaload, 1) := by decide +kernel
theorem dL_law_1046 : decode cL_law 1046 = .ok (.invokevirtual 124, 3) := by decide +kernel
theorem dL_law_1049 : decode cL_law 1049 = .ok (.if_icmp .eq 87, 3) := by decide +kernel
theorem dL_law_1052 : decode cL_law 1052 = .ok (.iconst 0, 1) := by decide +kernel
theorem dL_law_1053 : decode cL_law 1053 = .ok (.ireturn, 1) := by decide +kernel
theorem dL_law_1054 : decode cL_law 1054 = .ok (.aload_n 1, 1) := by decide +kernel
theorem dL_law_1055 : decode cL_law 1055 = .ok (.aload_n 0, 1) := by decide +kernel
theorem dL_law_1056 : decode cL_law 1056 = .ok (.iload_n 3, 1) := by decide +kernel
theorem dL_law_1057 : decode cL_law 1057 = .ok (.iconst 1, 1) := by decide +kernel
theorem dL_law_1058 : decode cL_law 1058 = .ok (.iadd, 1) := by decide +kernel
theorem dL_law_1059 : decode cL_law 1059 = .ok (.iaload, 1) := by decide +kernel
theorem dL_law_1060 : decode cL_law 1060 = .ok (.aload_n 0, 1) := by decide +kernel
theorem dL_law_1061 : decode cL_law 1061 = .ok (.iload_n 3, 1) := by decide +kernel
theorem dL_law_1062 : decode cL_law 1062 = .ok (.iconst 2, 1) := by decide +kernel
theorem dL_law_1063 : decode cL_law 1063 = .ok (.iadd, 1) := by decide +kernel
theorem dL_law_1064 : decode cL_law 1064 = .ok (.iaload, 1) := by decide +kernel
theorem dL_law_1065 : decode cL_law 1065 = .ok (.invokevirtual 125, 3) := by decide +kernel
theorem dL_law_1068 : decode cL_law 1068 = .ok (.aload_n 2, 1) := by decide +kernel
theorem dL_law_1069 : decode cL_law 1069 = .ok (.aload_n 0, 1) := by decide +kernel
theorem dL_law_1070 : decode cL_law 1070 = .ok (.iload_n 3, 1) := by decide +kernel
theorem dL_law_1071 : decode cL_law 1071 = .ok (.iconst 1, 1) := by decide +kernel
theorem dL_law_1072 : decode cL_law 1072 = .ok (.iadd, 1) := by decide +kernel
theorem dL_law_1073 : decode cL_law 1073 = .ok (.iaload, 1) := by decide +kernel
theorem dL_law_1074 : decode cL_law 1074 = .ok (.aload_n 0, 1) := by decide +kernel
theorem dL_law_1075 : decode cL_law 1075 = .ok (.iload_n 3, 1) := by decide +kernel
theorem dL_law_1076 : decode cL_law 1076 = .ok (.iconst 2, 1) := by decide +kernel
theorem dL_law_1077 : decode cL_law 1077 = .ok (.iadd, 1) := by decide +kernel
theorem dL_law_1078 : decode cL_law 1078 = .ok (.iaload, 1) := by decide +kernel
theorem dL_law_1079 : decode cL_law 1079 = .ok (.invokevirtual 128, 3) := by decide +kernel
theorem dL_law_1082 : decode cL_law 1082 = .ok (.if_icmp .eq 54, 3) := by decide +kernel
theorem dL_law_1085 : decode cL_law 1085 = .ok (.iconst 0, 1) := by decide +kernel
theorem dL_law_1086 : decode cL_law 1086 = .ok (.ireturn, 1) := by decide +kernel
theorem dL_law_1087 : decode cL_law 1087 = .ok (.aload_n 1, 1) := by decide +kernel
theorem dL_law_1088 : decode cL_law 1088 = .ok (.invokevirtual 129, 3) := by decide +kernel
theorem dL_law_1091 : decode cL_law 1091 = .ok (.aload_n 2, 1) := by decide +kernel
theorem dL_law_1092 : decode cL_law 1092 = .ok (.invokevirtual 132, 3) := by decide +kernel
theorem dL_law_1095 : decode cL_law 1095 = .ok (.if_icmp .eq 41, 3) := by decide +kernel
theorem dL_law_1098 : decode cL_law 1098 = .ok (.iconst 0, 1) := by decide +kernel
theorem dL_law_1099 : decode cL_law 1099 = .ok (.ireturn, 1) := by decide +kernel
theorem dL_law_1100 : decode cL_law 1100 = .ok (.aload_n 1, 1) := by decide +kernel
theorem dL_law_1101 : decode cL_law 1101 = .ok (.invokevirtual 133, 3) := by decide +kernel
theorem dL_law_1104 : decode cL_law 1104 = .ok (.aload_n 2, 1) := by decide +kernel
theorem dL_law_1105 : decode cL_law 1105 = .ok (.invokevirtual 136, 3) := by decide +kernel
theorem dL_law_1108 : decode cL_law 1108 = .ok (.if_icmp .eq 28, 3) := by decide +kernel
theorem dL_law_1111 : decode cL_law 1111 = .ok (.iconst 0, 1) := by decide +kernel
theorem dL_law_1112 : decode cL_law 1112 = .ok (.ireturn, 1) := by decide +kernel
theorem dL_law_1113 : decode cL_law 1113 = .ok (.aload_n 1, 1) := by decide +kernel
theorem dL_law_1114 : decode cL_law 1114 = .ok (.aload_n 0, 1) := by decide +kernel
theorem dL_law_1115 : decode cL_law 1115 = .ok (.iload_n 3, 1) := by decide +kernel
theorem dL_law_1116 : decode cL_law 1116 = .ok (.iconst 1, 1) := by decide +kernel
theorem dL_law_1117 : decode cL_law 1117 = .ok (.iadd, 1) := by decide +kernel
theorem dL_law_1118 : decode cL_law 1118 = .ok (.iaload, 1) := by decide +kernel
theorem dL_law_1119 : decode cL_law 1119 = .ok (.invokevirtual 137, 3) := by decide +kernel
theorem dL_law_1122 : decode cL_law 1122 = .ok (.aload_n 2, 1) := by decide +kernel
theorem dL_law_1123 : decode cL_law 1123 = .ok (.aload_n 0, 1) := by decide +kernel
theorem dL_law_1124 : decode cL_law 1124 = .ok (.iload_n 3, 1) := by decide +kernel
theorem dL_law_1125 : decode cL_law 1125 = .ok (.iconst 1, 1) := by decide +kernel
theorem dL_law_1126 : decode cL_law 1126 = .ok (.iadd, 1) := by decide +kernel
theorem dL_law_1127 : decode cL_law 1127 = .ok (.iaload, 1) := by decide +kernel
theorem dL_law_1128 : decode cL_law 1128 = .ok (.invokevirtual 140, 3) := by decide +kernel
theorem dL_law_1131 : decode cL_law 1131 = .ok (.if_icmp .eq 5, 3) := by decide +kernel
theorem dL_law_1134 : decode cL_law 1134 = .ok (.iconst 0, 1) := by decide +kernel
theorem dL_law_1135 : decode cL_law 1135 = .ok (.ireturn, 1) := by decide +kernel
theorem dL_law_1136 : decode cL_law 1136 = .ok (.iinc 3 6, 3) := by decide +kernel
theorem dL_law_1139 : decode cL_law 1139 = .ok (.goto (-1121), 3) := by decide +kernel
theorem dL_law_1142 : decode cL_law 1142 = .ok (.iconst 1, 1) := by decide +kernel
theorem dL_law_1143 : decode cL_law 1143 = .ok (.ireturn, 1) := by decide +kernel
