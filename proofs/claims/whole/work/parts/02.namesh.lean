theorem dX6_codeOf_0 : decode cX6_codeOf 0 = .ok (.iload_n 0, 1) := by decide +kernel
theorem dX6_codeOf_1 : decode cX6_codeOf 1 = .ok (.iconst (-1), 1) := by decide +kernel
theorem dX6_codeOf_2 : decode cX6_codeOf 2 = .ok (.if_icmp .ne 7, 3) := by decide +kernel
theorem dX6_codeOf_5 : decode cX6_codeOf 5 = .ok (.iconst (-1), 1) := by decide +kernel
theorem dX6_codeOf_6 : decode cX6_codeOf 6 = .ok (.goto 23, 3) := by decide +kernel
theorem dX6_codeOf_9 : decode cX6_codeOf 9 = .ok (.bipush 100, 2) := by decide +kernel
theorem dX6_codeOf_11 : decode cX6_codeOf 11 = .ok (.iload_n 0, 1) := by decide +kernel
theorem dX6_codeOf_12 : decode cX6_codeOf 12 = .ok (.invokestatic 237, 3) := by decide +kernel
theorem dX6_codeOf_15 : decode cX6_codeOf 15 = .ok (.imul, 1) := by decide +kernel
theorem dX6_codeOf_16 : decode cX6_codeOf 16 = .ok (.bipush 10, 2) := by decide +kernel
theorem dX6_codeOf_18 : decode cX6_codeOf 18 = .ok (.iload_n 0, 1) := by decide +kernel
theorem dX6_codeOf_19 : decode cX6_codeOf 19 = .ok (.invokestatic 240, 3) := by decide +kernel
theorem dX6_codeOf_22 : decode cX6_codeOf 22 = .ok (.imul, 1) := by decide +kernel
theorem dX6_codeOf_23 : decode cX6_codeOf 23 = .ok (.iadd, 1) := by decide +kernel
theorem dX6_codeOf_24 : decode cX6_codeOf 24 = .ok (.iload_n 0, 1) := by decide +kernel
theorem dX6_codeOf_25 : decode cX6_codeOf 25 = .ok (.invokestatic 243, 3) := by decide +kernel
theorem dX6_codeOf_28 : decode cX6_codeOf 28 = .ok (.iadd, 1) := by decide +kernel
theorem dX6_codeOf_29 : decode cX6_codeOf 29 = .ok (.ireturn, 1) := by decide +kernel
theorem dX7_init_0 : decode cX7_init 0 = .ok (.aload_n 0, 1) := by decide +kernel
theorem dX7_init_1 : decode cX7_init 1 = .ok (.invokespecial 1, 3) := by decide +kernel
theorem dX7_init_4 : decode cX7_init 4 = .ok (.aload_n 0, 1) := by decide +kernel
theorem dX7_init_5 : decode cX7_init 5 = .ok (.sipush 983, 3) := by decide +kernel
theorem dX7_init_8 : decode cX7_init 8 = .ok (.newarray .int, 2) := by decide +kernel
theorem dX7_init_10 : decode cX7_init 10 = .ok (.putfield 7, 3) := by decide +kernel
theorem dX7_init_13 : decode cX7_init 13 = .ok (.aload_n 0, 1) := by decide +kernel
theorem dX7_init_14 : decode cX7_init 14 = .ok (.sipush 3932, 3) := by decide +kernel
theorem dX7_init_17 : decode cX7_init 17 = .ok (.newarray .int, 2) := by decide +kernel
theorem dX7_init_19 : decode cX7_init 19 = .ok (.putfield 13, 3) := by decide +kernel
theorem dX7_init_22 : decode cX7_init 22 = .ok (.aload_n 0, 1) := by decide +kernel
theorem dX7_init_23 : decode cX7_init 23 = .ok (.bipush 25, 2) := by decide +kernel
theorem dX7_init_25 : decode cX7_init 25 = .ok (.newarray .boolean, 2) := by decide +kernel
theorem dX7_init_27 : decode cX7_init 27 = .ok (.putfield 16, 3) := by decide +kernel
theorem dX7_init_30 : decode cX7_init 30 = .ok (.aload_n 0, 1) := by decide +kernel
theorem dX7_init_31 : decode cX7_init 31 = .ok (.sipush 150, 3) := by decide +kernel
theorem dX7_init_34 : decode cX7_init 34 = .ok (.newarray .int, 2) := by decide +kernel
theorem dX7_init_36 : decode cX7_init 36 = .ok (.putfield 20, 3) := by decide +kernel
theorem dX7_init_39 : decode cX7_init 39 = .ok (.aload_n 0, 1) := by decide +kernel
theorem dX7_init_40 : decode cX7_init 40 = .ok (.sipush 200, 3) := by decide +kernel
theorem dX7_init_43 : decode cX7_init 43 = .ok (.newarray .int, 2) := by decide +kernel
theorem dX7_init_45 : decode cX7_init 45 = .ok (.putfield 23, 3) := by decide +kernel
theorem dX7_init_48 : decode cX7_init 48 = .ok (.aload_n 0, 1) := by decide +kernel
theorem dX7_init_49 : decode cX7_init 49 = .ok (.getfield 7, 3) := by decide +kernel
theorem dX7_init_52 : decode cX7_init 52 = .ok (.iconst 0, 1) := by decide +kernel
theorem dX7_init_53 : decode cX7_init 53 = .ok (.iconst 1, 1) := by decide +kernel
theorem dX7_init_54 : decode cX7_init 54 = .ok (.iastore, 1) := by decide +kernel
theorem dX7_init_55 : decode cX7_init 55 = .ok (.iconst 0, 1) := by decide +kernel
theorem dX7_init_56 : decode cX7_init 56 = .ok (.istore_n 1, 1) := by decide +kernel
theorem dX7_init_57 : decode cX7_init 57 = .ok (.iload_n 1, 1) := by decide +kernel
theorem dX7_init_58 : decode cX7_init 58 = .ok (.bipush 32, 2) := by decide +kernel
theorem dX7_init_60 : decode cX7_init 60 = .ok (.if_icmp .ge 19, 3) := by decide +kernel
theorem dX7_init_63 : decode cX7_init 63 = .ok (.aload_n 0, 1) := by decide +kernel
theorem dX7_init_64 : decode cX7_init 64 = .ok (.getfield 7, 3) := by decide +kernel
theorem dX7_init_67 : decode cX7_init 67 = .ok (.bipush 12, 2) := by decide +kernel
theorem dX7_init_69 : decode cX7_init 69 = .ok (.iload_n 1, 1) := by decide +kernel
theorem dX7_init_70 : decode cX7_init 70 = .ok (.iadd, 1) := by decide +kernel
theorem dX7_init_71 : decode cX7_init 71 = .ok (.iconst 2, 1) := by decide +kernel
theorem dX7_init_72 : decode cX7_init 72 = .ok (.iastore, 1) := by decide +kernel
theorem dX7_init_73 : decode cX7_init 73 = .ok (.iinc 1 1, 3) := by decide +kernel
theorem dX7_init_76 : decode cX7_init 76 = .ok (.goto (-19), 3) := by decide +kernel
theorem dX7_init_79 : decode cX7_init 79 = .ok (.iconst 0, 1) := by decide +kernel
theorem dX7_init_80 : decode cX7_init 80 = .ok (.istore_n 1, 1) := by decide +kernel
theorem dX7_init_81 : decode cX7_init 81 = .ok (.iload_n 1, 1) := by decide +kernel
theorem dX7_init_82 : decode cX7_init 82 = .ok (.sipush 144, 3) := by decide +kernel
theorem dX7_init_85 : decode cX7_init 85 = .ok (.if_icmp .ge 22, 3) := by decide +kernel
theorem dX7_init_88 : decode cX7_init 88 = .ok (.aload_n 0, 1) := by decide +kernel
theorem dX7_init_89 : decode cX7_init 89 = .ok (.getfield 7, 3) := by decide +kernel
theorem dX7_init_92 : decode cX7_init 92 = .ok (.bipush 119, 2) := by decide +kernel
theorem dX7_init_94 : decode cX7_init 94 = .ok (.bipush 6, 2) := by decide +kernel
theorem dX7_init_96 : decode cX7_init 96 = .ok (.iload_n 1, 1) := by decide +kernel
theorem dX7_init_97 : decode cX7_init 97 = .ok (.imul, 1) := by decide +kernel
theorem dX7_init_98 : decode cX7_init 98 = .ok (.iadd, 1) := by decide +kernel
theorem dX7_init_99 : decode cX7_init 99 = .ok (.iconst (-1), 1) := by decide +kernel
theorem dX7_init_100 : decode cX7_init 100 = .ok (.iastore, 1) := by decide +kernel
theorem dX7_init_101 : decode cX7_init 101 = .ok (.iinc 1 1, 3) := by decide +kernel
theorem dX7_init_104 : decode cX7_init 104 = .ok (.goto (-23), 3) := by decide +kernel
theorem dX7_init_107 : decode cX7_init 107 = .ok (.return_, 1) := by decide +kernel
theorem dX7_thrown_0 : decode cX7_thrown 0 = .ok (.aload_n 0, 1) := by decide +kernel
theorem dX7_thrown_1 : decode cX7_thrown 1 = .ok (.getfield 26, 3) := by decide +kernel
theorem dX7_thrown_4 : decode cX7_thrown 4 = .ok (.ireturn, 1) := by decide +kernel
theorem dX7_in_0 : decode cX7_in 0 = .ok (.iload_n 0, 1) := by decide +kernel
theorem dX7_in_1 : decode cX7_in 1 = .ok (.iload_n 1, 1) := by decide +kernel
theorem dX7_in_2 : decode cX7_in 2 = .ok (.if_icmp .lt 12, 3) := by decide +kernel
theorem dX7_in_5 : decode cX7_in 5 = .ok (.iload_n 0, 1) := by decide +kernel
theorem dX7_in_6 : decode cX7_in 6 = .ok (.iload_n 2, 1) := by decide +kernel
theorem dX7_in_7 : decode cX7_in 7 = .ok (.if_icmp .gt 7, 3) := by decide +kernel
theorem dX7_in_10 : decode cX7_in 10 = .ok (.iconst 1, 1) := by decide +kernel
theorem dX7_in_11 : decode cX7_in 11 = .ok (.goto 4, 3) := by decide +kernel
theorem dX7_in_14 : decode cX7_in 14 = .ok (.iconst 0, 1) := by decide +kernel
theorem dX7_in_15 : decode cX7_in 15 = .ok (.ireturn, 1) := by decide +kernel
theorem dX7_saves_0 : decode cX7_saves 0 = .ok (.aload_n 0, 1) := by decide +kernel
theorem dX7_saves_1 : decode cX7_saves 1 = .ok (.getfield 30, 3) := by decide +kernel
theorem dX7_saves_4 : decode cX7_saves 4 = .ok (.iconst 4, 1) := by decide +kernel
theorem dX7_saves_5 : decode cX7_saves 5 = .ok (.if_icmp .ne 44, 3) := by decide +kernel
theorem dX7_saves_8 : decode cX7_saves 8 = .ok (.iconst 0, 1) := by decide +kernel
theorem dX7_saves_9 : decode cX7_saves 9 = .ok (.istore_n 1, 1) := by decide +kernel
theorem dX7_saves_10 : decode cX7_saves 10 = .ok (.iload_n 1, 1) := by decide +kernel
theorem dX7_saves_11 : decode cX7_saves 11 = .ok (.sipush 2949, 3) := by decide +kernel
theorem dX7_saves_14 : decode cX7_saves 14 = .ok (.if_icmp .ge 25, 3) := by decide +kernel
theorem dX7_saves_17 : decode cX7_saves 17 = .ok (.aload_n 0, 1) := by decide +kernel
theorem dX7_saves_18 : decode cX7_saves 18 = .ok (.getfield 13, 3) := by decide +kernel
theorem dX7_saves_21 : decode cX7_saves 21 = .ok (.iload_n 1, 1) := by decide +kernel
theorem dX7_saves_22 : decode cX7_saves 22 = .ok (.aload_n 0, 1) := by decide +kernel
theorem dX7_saves_23 : decode cX7_saves 23 = .ok (.getfield 13, 3) := by decide +kernel
theorem dX7_saves_26 : decode cX7_saves 26 = .ok (.iload_n 1, 1) := by decide +kernel
theorem dX7_saves_27 : decode cX7_saves 27 = .ok (.sipush 983, 3) := by decide +kernel
theorem dX7_saves_30 : decode cX7_saves 30 = .ok (.iadd, 1) := by decide +kernel
theorem dX7_saves_31 : decode cX7_saves 31 = .ok (.iaload, 1) := by decide +kernel
theorem dX7_saves_32 : decode cX7_saves 32 = .ok (.iastore, 1) := by decide +kernel
theorem dX7_saves_33 : decode cX7_saves 33 = .ok (.iinc 1 1, 3) := by decide +kernel
theorem dX7_saves_36 : decode cX7_saves 36 = .ok (.goto (-26), 3) := by decide +kernel
theorem dX7_saves_39 : decode cX7_saves 39 = .ok (.aload_n 0, 1) := by decide +kernel
theorem dX7_saves_40 : decode cX7_saves 40 = .ok (.dup, 1) := by decide +kernel
theorem dX7_saves_41 : decode cX7_saves 41 = .ok (.getfield 30, 3) := by decide +kernel
theorem dX7_saves_44 : decode cX7_saves 44 = .ok (.iconst 1, 1) := by decide +kernel
theorem dX7_saves_45 : decode cX7_saves 45 = .ok (.isub, 1) := by decide +kernel
theorem dX7_saves_46 : decode cX7_saves 46 = .ok (.putfield 30, 3) := by decide +kernel
theorem dX7_saves_49 : decode cX7_saves 49 = .ok (.iconst 0, 1) := by decide +kernel
theorem dX7_saves_50 : decode cX7_saves 50 = .ok (.istore_n 1, 1) := by decide +kernel
theorem dX7_saves_51 : decode cX7_saves 51 = .ok (.iload_n 1, 1) := by decide +kernel
theorem dX7_saves_52 : decode cX7_saves 52 = .ok (.sipush 983, 3) := by decide +kernel
theorem dX7_saves_55 : decode cX7_saves 55 = .ok (.if_icmp .ge 30, 3) := by decide +kernel
theorem dX7_saves_58 : decode cX7_saves 58 = .ok (.aload_n 0, 1) := by decide +kernel
theorem dX7_saves_59 : decode cX7_saves 59 = .ok (.getfield 13, 3) := by decide +kernel
theorem dX7_saves_62 : decode cX7_saves 62 = .ok (.sipush 983, 3) := by decide +kernel
theorem dX7_saves_65 : decode cX7_saves 65 = .ok (.aload_n 0, 1) := by decide +kernel
theorem dX7_saves_66 : decode cX7_saves 66 = .ok (.getfield 30, 3) := by decide +kernel
theorem dX7_saves_69 : decode cX7_saves 69 = .ok (.imul, 1) := by decide +kernel
theorem dX7_saves_70 : decode cX7_saves 70 = .ok (.iload_n 1, 1) := by decide +kernel
theorem dX7_saves_71 : decode cX7_saves 71 = .ok (.iadd, 1) := by decide +kernel
theorem dX7_saves_72 : decode cX7_saves 72 = .ok (.aload_n 0, 1) := by decide +kernel
theorem dX7_saves_73 : decode cX7_saves 73 = .ok (.getfield 7, 3) := by decide +kernel
theorem dX7_saves_76 : decode cX7_saves 76 = .ok (.iload_n 1, 1) := by decide +kernel
theorem dX7_saves_77 : decode cX7_saves 77 = .ok (.iaload, 1) := by decide +kernel
theorem dX7_saves_78 : decode cX7_saves 78 = .ok (.iastore, 1) := by decide +kernel
theorem dX7_saves_79 : decode cX7_saves 79 = .ok (.iinc 1 1, 3) := by decide +kernel
theorem dX7_saves_82 : decode cX7_saves 82 = .ok (.goto (-31), 3) := by decide +kernel
theorem dX7_saves_85 : decode cX7_saves 85 = .ok (.aload_n 0, 1) := by decide +kernel
theorem dX7_saves_86 : decode cX7_saves 86 = .ok (.dup, 1) := by decide +kernel
theorem dX7_saves_87 : decode cX7_saves 87 = .ok (.getfield 30, 3) := by decide +kernel
theorem dX7_saves_90 : decode cX7_saves 90 = .ok (.iconst 1, 1) := by decide +kernel
theorem dX7_saves_91 : decode cX7_saves 91 = .ok (.iadd, 1) := by decide +kernel
theorem dX7_saves_92 : decode cX7_saves 92 = .ok (.putfield 30, 3) := by decide +kernel
theorem dX7_saves_95 : decode cX7_saves 95 = .ok (.return_, 1) := by decide +kernel
theorem dX7_undo_0 : decode cX7_undo 0 = .ok (.aload_n 0, 1) := by decide +kernel
theorem dX7_undo_1 : decode cX7_undo 1 = .ok (.aload_n 0, 1) := by decide +kernel
theorem dX7_undo_2 : decode cX7_undo 2 = .ok (.getfield 30, 3) := by decide +kernel
theorem dX7_undo_5 : decode cX7_undo 5 = .ok (.ifCond .ne 7, 3) := by decide +kernel
theorem dX7_undo_8 : decode cX7_undo 8 = .ok (.iconst 1, 1) := by decide +kernel
theorem dX7_undo_9 : decode cX7_undo 9 = .ok (.goto 4, 3) := by decide +kernel
theorem dX7_undo_12 : decode cX7_undo 12 = .ok (.iconst 0, 1) := by decide +kernel
theorem dX7_undo_13 : decode cX7_undo 13 = .ok (.putfield 26, 3) := by decide +kernel
theorem dX7_undo_16 : decode cX7_undo 16 = .ok (.aload_n 0, 1) := by decide +kernel
theorem dX7_undo_17 : decode cX7_undo 17 = .ok (.getfield 26, 3) := by decide +kernel
theorem dX7_undo_20 : decode cX7_undo 20 = .ok (.ifCond .le 5, 3) := by decide +kernel
theorem dX7_undo_23 : decode cX7_undo 23 = .ok (.iconst 0, 1) := by decide +kernel
theorem dX7_undo_24 : decode cX7_undo 24 = .ok (.ireturn, 1) := by decide +kernel
theorem dX7_undo_25 : decode cX7_undo 25 = .ok (.aload_n 0, 1) := by decide +kernel
theorem dX7_undo_26 : decode cX7_undo 26 = .ok (.dup, 1) := by decide +kernel
theorem dX7_undo_27 : decode cX7_undo 27 = .ok (.getfield 30, 3) := by decide +kernel
theorem dX7_undo_30 : decode cX7_undo 30 = .ok (.iconst 1, 1) := by decide +kernel
theorem dX7_undo_31 : decode cX7_undo 31 = .ok (.isub, 1) := by decide +kernel
theorem dX7_undo_32 : decode cX7_undo 32 = .ok (.putfield 30, 3) := by decide +kernel
theorem dX7_undo_35 : decode cX7_undo 35 = .ok (.iconst 0, 1) := by decide +kernel
theorem dX7_undo_36 : decode cX7_undo 36 = .ok (.istore_n 1, 1) := by decide +kernel
theorem dX7_undo_37 : decode cX7_undo 37 = .ok (.iload_n 1, 1) := by decide +kernel
theorem dX7_undo_38 : decode cX7_undo 38 = .ok (.sipush 983, 3) := by decide +kernel
theorem dX7_undo_41 : decode cX7_undo 41 = .ok (.if_icmp .ge 30, 3) := by decide +kernel
theorem dX7_undo_44 : decode cX7_undo 44 = .ok (.aload_n 0, 1) := by decide +kernel
theorem dX7_undo_45 : decode cX7_undo 45 = .ok (.getfield 7, 3) := by decide +kernel
theorem dX7_undo_48 : decode cX7_undo 48 = .ok (.iload_n 1, 1) := by decide +kernel
theorem dX7_undo_49 : decode cX7_undo 49 = .ok (.aload_n 0, 1) := by decide +kernel
theorem dX7_undo_50 : decode cX7_undo 50 = .ok (.getfield 13, 3) := by decide +kernel
theorem dX7_undo_53 : decode cX7_undo 53 = .ok (.sipush 983, 3) := by decide +kernel
theorem dX7_undo_56 : decode cX7_undo 56 = .ok (.aload_n 0, 1) := by decide +kernel
theorem dX7_undo_57 : decode cX7_undo 57 = .ok (.getfield 30, 3) := by decide +kernel
theorem dX7_undo_60 : decode cX7_undo 60 = .ok (.imul, 1) := by decide +kernel
theorem dX7_undo_61 : decode cX7_undo 61 = .ok (.iload_n 1, 1) := by decide +kernel
theorem dX7_undo_62 : decode cX7_undo 62 = .ok (.iadd, 1) := by decide +kernel
theorem dX7_undo_63 : decode cX7_undo 63 = .ok (.iaload, 1) := by decide +kernel
theorem dX7_undo_64 : decode cX7_undo 64 = .ok (.iastore, 1) := by decide +kernel
theorem dX7_undo_65 : decode cX7_undo 65 = .ok (.iinc 1 1, 3) := by decide +kernel
theorem dX7_undo_68 : decode cX7_undo 68 = .ok (.goto (-31), 3) := by decide +kernel
theorem dX7_undo_71 : decode cX7_undo 71 = .ok (.aload_n 0, 1) := by decide +kernel
theorem dX7_undo_72 : decode cX7_undo 72 = .ok (.getfield 30, 3) := by decide +kernel
theorem dX7_undo_75 : decode cX7_undo 75 = .ok (.ireturn, 1) := by decide +kernel
theorem dX7_number_0 : decode cX7_number 0 = .ok (.bipush 9, 2) := by decide +kernel
theorem dX7_number_2 : decode cX7_number 2 = .ok (.iload_n 0, 1) := by decide +kernel
theorem dX7_number_3 : decode cX7_number 3 = .ok (.imul, 1) := by decide +kernel
theorem dX7_number_4 : decode cX7_number 4 = .ok (.iconst 3, 1) := by decide +kernel
theorem dX7_number_5 : decode cX7_number 5 = .ok (.iload_n 1, 1) := by decide +kernel
theorem dX7_number_6 : decode cX7_number 6 = .ok (.iconst 1, 1) := by decide +kernel
theorem dX7_number_7 : decode cX7_number 7 = .ok (.isub, 1) := by decide +kernel
theorem dX7_number_8 : decode cX7_number 8 = .ok (.imul, 1) := by decide +kernel
theorem dX7_number_9 : decode cX7_number 9 = .ok (.iadd, 1) := by decide +kernel
theorem dX7_number_10 : decode cX7_number 10 = .ok (.iload_n 2, 1) := by decide +kernel
theorem dX7_number_11 : decode cX7_number 11 = .ok (.iadd, 1) := by decide +kernel
theorem dX7_number_12 : decode cX7_number 12 = .ok (.ireturn, 1) := by decide +kernel
theorem dX7_codeOf_0 : decode cX7_codeOf 0 = .ok (.bipush 100, 2) := by decide +kernel
theorem dX7_codeOf_2 : decode cX7_codeOf 2 = .ok (.iload_n 0, 1) := by decide +kernel
theorem dX7_codeOf_3 : decode cX7_codeOf 3 = .ok (.bipush 9, 2) := by decide +kernel
theorem dX7_codeOf_5 : decode cX7_codeOf 5 = .ok (.idiv, 1) := by decide +kernel
theorem dX7_codeOf_6 : decode cX7_codeOf 6 = .ok (.imul, 1) := by decide +kernel
theorem dX7_codeOf_7 : decode cX7_codeOf 7 = .ok (.bipush 10, 2) := by decide +kernel
theorem dX7_codeOf_9 : decode cX7_codeOf 9 = .ok (.iload_n 0, 1) := by decide +kernel
theorem dX7_codeOf_10 : decode cX7_codeOf 10 = .ok (.bipush 9, 2) := by decide +kernel
theorem dX7_codeOf_12 : decode cX7_codeOf 12 = .ok (.irem, 1) := by decide +kernel
theorem dX7_codeOf_13 : decode cX7_codeOf 13 = .ok (.iconst 3, 1) := by decide +kernel
theorem dX7_codeOf_14 : decode cX7_codeOf 14 = .ok (.idiv, 1) := by decide +kernel
theorem dX7_codeOf_15 : decode cX7_codeOf 15 = .ok (.iconst 1, 1) := by decide +kernel
theorem dX7_codeOf_16 : decode cX7_codeOf 16 = .ok (.iadd, 1) := by decide +kernel
theorem dX7_codeOf_17 : decode cX7_codeOf 17 = .ok (.imul, 1) := by decide +kernel
theorem dX7_codeOf_18 : decode cX7_codeOf 18 = .ok (.iadd, 1) := by decide +kernel
theorem dX7_codeOf_19 : decode cX7_codeOf 19 = .ok (.iload_n 0, 1) := by decide +kernel
theorem dX7_codeOf_20 : decode cX7_codeOf 20 = .ok (.iconst 3, 1) := by decide +kernel
theorem dX7_codeOf_21 : decode cX7_codeOf 21 = .ok (.irem, 1) := by decide +kernel
theorem dX7_codeOf_22 : decode cX7_codeOf 22 = .ok (.iadd, 1) := by decide +kernel
theorem dX7_codeOf_23 : decode cX7_codeOf 23 = .ok (.ireturn, 1) := by decide +kernel
theorem dX7_of_0 : decode cX7_of 0 = .ok (.aload_n 0, 1) := by decide +kernel
theorem dX7_of_1 : decode cX7_of 1 = .ok (.getfield 7, 3) := by decide +kernel
theorem dX7_of_4 : decode cX7_of 4 = .ok (.bipush 119, 2) := by decide +kernel
theorem dX7_of_6 : decode cX7_of 6 = .ok (.bipush 6, 2) := by decide +kernel
theorem dX7_of_8 : decode cX7_of 8 = .ok (.iload_n 1, 1) := by decide +kernel
theorem dX7_of_9 : decode cX7_of 9 = .ok (.imul, 1) := by decide +kernel
theorem dX7_of_10 : decode cX7_of 10 = .ok (.iadd, 1) := by decide +kernel
theorem dX7_of_11 : decode cX7_of 11 = .ok (.iload_n 2, 1) := by decide +kernel
theorem dX7_of_12 : decode cX7_of 12 = .ok (.iadd, 1) := by decide +kernel
theorem dX7_of_13 : decode cX7_of 13 = .ok (.iaload, 1) := by decide +kernel
theorem dX7_of_14 : decode cX7_of 14 = .ok (.ireturn, 1) := by decide +kernel
theorem dX7_widthOf_0 : decode cX7_widthOf 0 = .ok (.aload_n 0, 1) := by decide +kernel
theorem dX7_widthOf_1 : decode cX7_widthOf 1 = .ok (.getfield 7, 3) := by decide +kernel
theorem dX7_widthOf_4 : decode cX7_widthOf 4 = .ok (.bipush 12, 2) := by decide +kernel
theorem dX7_widthOf_6 : decode cX7_widthOf 6 = .ok (.iload_n 1, 1) := by decide +kernel
theorem dX7_widthOf_7 : decode cX7_widthOf 7 = .ok (.bipush 9, 2) := by decide +kernel
theorem dX7_widthOf_9 : decode cX7_widthOf 9 = .ok (.idiv, 1) := by decide +kernel
theorem dX7_widthOf_10 : decode cX7_widthOf 10 = .ok (.iadd, 1) := by decide +kernel
theorem dX7_widthOf_11 : decode cX7_widthOf 11 = .ok (.iaload, 1) := by decide +kernel
theorem dX7_widthOf_12 : decode cX7_widthOf 12 = .ok (.iload_n 1, 1) := by decide +kernel
theorem dX7_widthOf_13 : decode cX7_widthOf 13 = .ok (.bipush 9, 2) := by decide +kernel
theorem dX7_widthOf_15 : decode cX7_widthOf 15 = .ok (.irem, 1) := by decide +kernel
theorem dX7_widthOf_16 : decode cX7_widthOf 16 = .ok (.iconst 3, 1) := by decide +kernel
theorem dX7_widthOf_17 : decode cX7_widthOf 17 = .ok (.idiv, 1) := by decide +kernel
theorem dX7_widthOf_18 : decode cX7_widthOf 18 = .ok (.iconst 1, 1) := by decide +kernel
theorem dX7_widthOf_19 : decode cX7_widthOf 19 = .ok (.iadd, 1) := by decide +kernel
theorem dX7_widthOf_20 : decode cX7_widthOf 20 = .ok (.imul, 1) := by decide +kernel
theorem dX7_widthOf_21 : decode cX7_widthOf 21 = .ok (.iconst 2, 1) := by decide +kernel
theorem dX7_widthOf_22 : decode cX7_widthOf 22 = .ok (.iload_n 1, 1) := by decide +kernel
theorem dX7_widthOf_23 : decode cX7_widthOf 23 = .ok (.iconst 3, 1) := by decide +kernel
theorem dX7_widthOf_24 : decode cX7_widthOf 24 = .ok (.irem, 1) := by decide +kernel
theorem dX7_widthOf_25 : decode cX7_widthOf 25 = .ok (.imul, 1) := by decide +kernel
theorem dX7_widthOf_26 : decode cX7_widthOf 26 = .ok (.iadd, 1) := by decide +kernel
theorem dX7_widthOf_27 : decode cX7_widthOf 27 = .ok (.ireturn, 1) := by decide +kernel
theorem dX7_heightOf_0 : decode cX7_heightOf 0 = .ok (.aload_n 0, 1) := by decide +kernel
theorem dX7_heightOf_1 : decode cX7_heightOf 1 = .ok (.getfield 7, 3) := by decide +kernel
theorem dX7_heightOf_4 : decode cX7_heightOf 4 = .ok (.bipush 28, 2) := by decide +kernel
theorem dX7_heightOf_6 : decode cX7_heightOf 6 = .ok (.iload_n 1, 1) := by decide +kernel
theorem dX7_heightOf_7 : decode cX7_heightOf 7 = .ok (.bipush 9, 2) := by decide +kernel
theorem dX7_heightOf_9 : decode cX7_heightOf 9 = .ok (.idiv, 1) := by decide +kernel
theorem dX7_heightOf_10 : decode cX7_heightOf 10 = .ok (.iadd, 1) := by decide +kernel
theorem dX7_heightOf_11 : decode cX7_heightOf 11 = .ok (.iaload, 1) := by decide +kernel
theorem dX7_heightOf_12 : decode cX7_heightOf 12 = .ok (.iload_n 1, 1) := by decide +kernel
theorem dX7_heightOf_13 : decode cX7_heightOf 13 = .ok (.bipush 9, 2) := by decide +kernel
theorem dX7_heightOf_15 : decode cX7_heightOf 15 = .ok (.irem, 1) := by decide +kernel
theorem dX7_heightOf_16 : decode cX7_heightOf 16 = .ok (.iconst 3, 1) := by decide +kernel
theorem dX7_heightOf_17 : decode cX7_heightOf 17 = .ok (.idiv, 1) := by decide +kernel
theorem dX7_heightOf_18 : decode cX7_heightOf 18 = .ok (.iconst 1, 1) := by decide +kernel
theorem dX7_heightOf_19 : decode cX7_heightOf 19 = .ok (.iadd, 1) := by decide +kernel
theorem dX7_heightOf_20 : decode cX7_heightOf 20 = .ok (.imul, 1) := by decide +kernel
theorem dX7_heightOf_21 : decode cX7_heightOf 21 = .ok (.iconst 2, 1) := by decide +kernel
theorem dX7_heightOf_22 : decode cX7_heightOf 22 = .ok (.iload_n 1, 1) := by decide +kernel
theorem dX7_heightOf_23 : decode cX7_heightOf 23 = .ok (.iconst 3, 1) := by decide +kernel
theorem dX7_heightOf_24 : decode cX7_heightOf 24 = .ok (.irem, 1) := by decide +kernel
theorem dX7_heightOf_25 : decode cX7_heightOf 25 = .ok (.imul, 1) := by decide +kernel
theorem dX7_heightOf_26 : decode cX7_heightOf 26 = .ok (.iadd, 1) := by decide +kernel
theorem dX7_heightOf_27 : decode cX7_heightOf 27 = .ok (.ireturn, 1) := by decide +kernel
set_option maxRecDepth 20000 in
theorem ggX7_areaOf_X7_widthOf : GoodIn wsX7_areaOf wsX7_widthOf := goodIn_r _ [5, 6, 11, 12, 13, 14, 15, 16, 17, 18, 19, 20, 21, 22, 23, 24, 25, 26] (by decide +kernel) (by decide +kernel)
set_option maxRecDepth 20000 in
theorem gX7_areaOf_X7_widthOf : GoodIn wsX7_areaOf (wsV RX7 33 RX7 yX7_widthOf wsX7_widthOf) := goodIn_app (goodIn_of _ (by decide +kernel)) ggX7_areaOf_X7_widthOf
set_option maxRecDepth 20000 in
theorem ggX7_areaOf_X7_heightOf : GoodIn wsX7_areaOf wsX7_heightOf := goodIn_r _ [10, 6, 11, 12, 13, 14, 15, 16, 17, 18, 19, 20, 21, 22, 23, 24, 25, 26] (by decide +kernel) (by decide +kernel)
set_option maxRecDepth 20000 in
theorem gX7_areaOf_X7_heightOf : GoodIn wsX7_areaOf (wsV RX7 37 RX7 yX7_heightOf wsX7_heightOf) := goodIn_app (goodIn_of _ (by decide +kernel)) ggX7_areaOf_X7_heightOf
theorem dX7_areaOf_0 : decode cX7_areaOf 0 = .ok (.aload_n 0, 1) := by decide +kernel
theorem dX7_areaOf_1 : decode cX7_areaOf 1 = .ok (.iload_n 1, 1) := by decide +kernel
theorem dX7_areaOf_2 : decode cX7_areaOf 2 = .ok (.invokevirtual 33, 3) := by decide +kernel
theorem dX7_areaOf_5 : decode cX7_areaOf 5 = .ok (.aload_n 0, 1) := by decide +kernel
theorem dX7_areaOf_6 : decode cX7_areaOf 6 = .ok (.iload_n 1, 1) := by decide +kernel
theorem dX7_areaOf_7 : decode cX7_areaOf 7 = .ok (.invokevirtual 37, 3) := by decide +kernel
theorem dX7_areaOf_10 : decode cX7_areaOf 10 = .ok (.imul, 1) := by decide +kernel
theorem dX7_areaOf_11 : decode cX7_areaOf 11 = .ok (.ireturn, 1) := by decide +kernel
set_option maxRecDepth 20000 in
theorem ggX7_is_X7_of : GoodIn wsX7_is wsX7_of := goodIn_r _ [5, 6, 7, 8, 9, 10, 11, 12, 13, 14, 15, 16, 17, 18, 19, 20, 21, 22] (by decide +kernel) (by decide +kernel)
set_option maxRecDepth 20000 in
theorem gX7_is_X7_of : GoodIn wsX7_is (wsV RX7 40 RX7 yX7_of wsX7_of) := goodIn_app (goodIn_of _ (by decide +kernel)) ggX7_is_X7_of
theorem dX7_is_0 : decode cX7_is 0 = .ok (.aload_n 0, 1) := by decide +kernel
theorem dX7_is_1 : decode cX7_is 1 = .ok (.iload_n 1, 1) := by decide +kernel
theorem dX7_is_2 : decode cX7_is 2 = .ok (.iconst 0, 1) := by decide +kernel
theorem dX7_is_3 : decode cX7_is 3 = .ok (.invokevirtual 40, 3) := by decide +kernel
theorem dX7_is_6 : decode cX7_is 6 = .ok (.iconst (-1), 1) := by decide +kernel
theorem dX7_is_7 : decode cX7_is 7 = .ok (.if_icmp .eq 7, 3) := by decide +kernel
theorem dX7_is_10 : decode cX7_is 10 = .ok (.iconst 1, 1) := by decide +kernel
theorem dX7_is_11 : decode cX7_is 11 = .ok (.goto 4, 3) := by decide +kernel
theorem dX7_is_14 : decode cX7_is 14 = .ok (.iconst 0, 1) := by decide +kernel
theorem dX7_is_15 : decode cX7_is 15 = .ok (.ireturn, 1) := by decide +kernel
set_option maxRecDepth 20000 in
theorem ggX7_isLaid_X7_of : GoodIn wsX7_isLaid wsX7_of := goodIn_r _ [5, 6, 10, 11, 12, 13, 14, 15, 16, 17, 18, 19, 20, 21, 22, 23, 24, 25] (by decide +kernel) (by decide +kernel)
set_option maxRecDepth 20000 in
theorem gX7_isLaid_X7_of : GoodIn wsX7_isLaid (wsV RX7 40 RX7 yX7_of wsX7_of) := goodIn_app (goodIn_of _ (by decide +kernel)) ggX7_isLaid_X7_of
set_option maxRecDepth 20000 in
theorem ggX7_isLaid_X7_in : GoodIn wsX7_isLaid wsX7_in := goodIn_r _ [9] (by decide +kernel) (by decide +kernel)
set_option maxRecDepth 20000 in
theorem gX7_isLaid_X7_in : GoodIn wsX7_isLaid (va_wsS RX7 44 yX7_in wsX7_in) := goodIn_app (goodIn_of _ (by decide +kernel)) ggX7_isLaid_X7_in
theorem dX7_isLaid_0 : decode cX7_isLaid 0 = .ok (.aload_n 0, 1) := by decide +kernel
theorem dX7_isLaid_1 : decode cX7_isLaid 1 = .ok (.iload_n 1, 1) := by decide +kernel
theorem dX7_isLaid_2 : decode cX7_isLaid 2 = .ok (.iconst 0, 1) := by decide +kernel
theorem dX7_isLaid_3 : decode cX7_isLaid 3 = .ok (.invokevirtual 40, 3) := by decide +kernel
theorem dX7_isLaid_6 : decode cX7_isLaid 6 = .ok (.iconst 0, 1) := by decide +kernel
theorem dX7_isLaid_7 : decode cX7_isLaid 7 = .ok (.iconst 2, 1) := by decide +kernel
theorem dX7_isLaid_8 : decode cX7_isLaid 8 = .ok (.invokestatic 44, 3) := by decide +kernel
theorem dX7_isLaid_11 : decode cX7_isLaid 11 = .ok (.ireturn, 1) := by decide +kernel
set_option maxRecDepth 20000 in
theorem ggX7_isNow_X7_is : GoodIn wsX7_isNow wsX7_is := goodIn_r _ [6, 7, 8, 9, 5, 10, 1, 11, 12, 13, 14, 15, 16, 17, 18, 19, 20, 21, 22, 23, 24, 25, 26] (by decide +kernel) (by decide +kernel)
set_option maxRecDepth 20000 in
theorem gX7_isNow_X7_is : GoodIn wsX7_isNow (wsV RX7 48 RX7 yX7_is wsX7_is) := goodIn_app (goodIn_of _ (by decide +kernel)) ggX7_isNow_X7_is
set_option maxRecDepth 20000 in
theorem ggX7_isNow_X7_of : GoodIn wsX7_isNow wsX7_of := goodIn_r _ [10, 1, 11, 12, 13, 14, 15, 16, 17, 18, 19, 20, 21, 22, 23, 24, 25, 26] (by decide +kernel) (by decide +kernel)
set_option maxRecDepth 20000 in
theorem gX7_isNow_X7_of : GoodIn wsX7_isNow (wsV RX7 40 RX7 yX7_of wsX7_of) := goodIn_app (goodIn_of _ (by decide +kernel)) ggX7_isNow_X7_of
theorem dX7_isNow_0 : decode cX7_isNow 0 = .ok (.aload_n 0, 1) := by decide +kernel
theorem dX7_isNow_1 : decode cX7_isNow 1 = .ok (.iload_n 1, 1) := by decide +kernel
theorem dX7_isNow_2 : decode cX7_isNow 2 = .ok (.invokevirtual 48, 3) := by decide +kernel
theorem dX7_isNow_5 : decode cX7_isNow 5 = .ok (.ifCond .eq 22, 3) := by decide +kernel
theorem dX7_isNow_8 : decode cX7_isNow 8 = .ok (.aload_n 0, 1) := by decide +kernel
theorem dX7_isNow_9 : decode cX7_isNow 9 = .ok (.iload_n 1, 1) := by decide +kernel
theorem dX7_isNow_10 : decode cX7_isNow 10 = .ok (.iconst 4, 1) := by decide +kernel
theorem dX7_isNow_11 : decode cX7_isNow 11 = .ok (.invokevirtual 40, 3) := by decide +kernel
theorem dX7_isNow_14 : decode cX7_isNow 14 = .ok (.aload_n 0, 1) := by decide +kernel
theorem dX7_isNow_15 : decode cX7_isNow 15 = .ok (.getfield 7, 3) := by decide +kernel
theorem dX7_isNow_18 : decode cX7_isNow 18 = .ok (.iconst 1, 1) := by decide +kernel
theorem dX7_isNow_19 : decode cX7_isNow 19 = .ok (.iaload, 1) := by decide +kernel
theorem dX7_isNow_20 : decode cX7_isNow 20 = .ok (.if_icmp .ne 7, 3) := by decide +kernel
theorem dX7_isNow_23 : decode cX7_isNow 23 = .ok (.iconst 1, 1) := by decide +kernel
theorem dX7_isNow_24 : decode cX7_isNow 24 = .ok (.goto 4, 3) := by decide +kernel
theorem dX7_isNow_27 : decode cX7_isNow 27 = .ok (.iconst 0, 1) := by decide +kernel
theorem dX7_isNow_28 : decode cX7_isNow 28 = .ok (.ireturn, 1) := by decide +kernel
set_option maxRecDepth 20000 in
theorem ggX7_isOn_X7_of : GoodIn wsX7_isOn wsX7_of := goodIn_r _ [5, 6, 7, 8, 9, 10, 11, 12, 13, 14, 15, 16, 17, 18, 19, 20, 21, 22] (by decide +kernel) (by decide +kernel)
set_option maxRecDepth 20000 in
theorem gX7_isOn_X7_of : GoodIn wsX7_isOn (wsV RX7 40 RX7 yX7_of wsX7_of) := goodIn_app (goodIn_of _ (by decide +kernel)) ggX7_isOn_X7_of
theorem dX7_isOn_0 : decode cX7_isOn 0 = .ok (.aload_n 0, 1) := by decide +kernel
theorem dX7_isOn_1 : decode cX7_isOn 1 = .ok (.iload_n 1, 1) := by decide +kernel
theorem dX7_isOn_2 : decode cX7_isOn 2 = .ok (.iconst 0, 1) := by decide +kernel
theorem dX7_isOn_3 : decode cX7_isOn 3 = .ok (.invokevirtual 40, 3) := by decide +kernel
theorem dX7_isOn_6 : decode cX7_isOn 6 = .ok (.iload_n 2, 1) := by decide +kernel
theorem dX7_isOn_7 : decode cX7_isOn 7 = .ok (.if_icmp .ne 17, 3) := by decide +kernel
theorem dX7_isOn_10 : decode cX7_isOn 10 = .ok (.aload_n 0, 1) := by decide +kernel
theorem dX7_isOn_11 : decode cX7_isOn 11 = .ok (.iload_n 1, 1) := by decide +kernel
theorem dX7_isOn_12 : decode cX7_isOn 12 = .ok (.iconst 1, 1) := by decide +kernel
theorem dX7_isOn_13 : decode cX7_isOn 13 = .ok (.invokevirtual 40, 3) := by decide +kernel
theorem dX7_isOn_16 : decode cX7_isOn 16 = .ok (.iload_n 3, 1) := by decide +kernel
theorem dX7_isOn_17 : decode cX7_isOn 17 = .ok (.if_icmp .ne 7, 3) := by decide +kernel
theorem dX7_isOn_20 : decode cX7_isOn 20 = .ok (.iconst 1, 1) := by decide +kernel
theorem dX7_isOn_21 : decode cX7_isOn 21 = .ok (.goto 4, 3) := by decide +kernel
theorem dX7_isOn_24 : decode cX7_isOn 24 = .ok (.iconst 0, 1) := by decide +kernel
theorem dX7_isOn_25 : decode cX7_isOn 25 = .ok (.ireturn, 1) := by decide +kernel
set_option maxRecDepth 20000 in
theorem ggX7_goes_X7_of : GoodIn wsX7_goes wsX7_of := goodIn_r _ [6, 1, 7, 8, 9, 10, 11, 12, 13, 14, 15, 16, 17, 18, 19, 20, 21, 22] (by decide +kernel) (by decide +kernel)
set_option maxRecDepth 20000 in
theorem gX7_goes_X7_of : GoodIn wsX7_goes (wsV RX7 40 RX7 yX7_of wsX7_of) := goodIn_app (goodIn_of _ (by decide +kernel)) ggX7_goes_X7_of
theorem dX7_goes_0 : decode cX7_goes 0 = .ok (.aload_n 0, 1) := by decide +kernel
theorem dX7_goes_1 : decode cX7_goes 1 = .ok (.iload_n 1, 1) := by decide +kernel
theorem dX7_goes_2 : decode cX7_goes 2 = .ok (.iconst 0, 1) := by decide +kernel
theorem dX7_goes_3 : decode cX7_goes 3 = .ok (.invokevirtual 40, 3) := by decide +kernel
theorem dX7_goes_6 : decode cX7_goes 6 = .ok (.iconst 3, 1) := by decide +kernel
theorem dX7_goes_7 : decode cX7_goes 7 = .ok (.if_icmp .ne 71, 3) := by decide +kernel
theorem dX7_goes_10 : decode cX7_goes 10 = .ok (.iconst 0, 1) := by decide +kernel
theorem dX7_goes_11 : decode cX7_goes 11 = .ok (.istore_n 2, 1) := by decide +kernel
theorem dX7_goes_12 : decode cX7_goes 12 = .ok (.iconst 0, 1) := by decide +kernel
theorem dX7_goes_13 : decode cX7_goes 13 = .ok (.istore_n 3, 1) := by decide +kernel
theorem dX7_goes_14 : decode cX7_goes 14 = .ok (.iload_n 3, 1) := by decide +kernel
theorem dX7_goes_15 : decode cX7_goes 15 = .ok (.aload_n 0, 1) := by decide +kernel
theorem dX7_goes_16 : decode cX7_goes 16 = .ok (.getfield 7, 3) := by decide +kernel
theorem dX7_goes_19 : decode cX7_goes 19 = .ok (.bipush 7, 2) := by decide +kernel
theorem dX7_goes_21 : decode cX7_goes 21 = .ok (.iaload, 1) := by decide +kernel
theorem dX7_goes_22 : decode cX7_goes 22 = .ok (.if_icmp .ge 48, 3) := by decide +kernel
theorem dX7_goes_25 : decode cX7_goes 25 = .ok (.aload_n 0, 1) := by decide +kernel
theorem dX7_goes_26 : decode cX7_goes 26 = .ok (.getfield 7, 3) := by decide +kernel
theorem dX7_goes_29 : decode cX7_goes 29 = .ok (.bipush 8, 2) := by decide +kernel
theorem dX7_goes_31 : decode cX7_goes 31 = .ok (.iload_n 2, 1) := by decide +kernel
theorem dX7_goes_32 : decode cX7_goes 32 = .ok (.iadd, 1) := by decide +kernel
theorem dX7_goes_33 : decode cX7_goes 33 = .ok (.aload_n 0, 1) := by decide +kernel
theorem dX7_goes_34 : decode cX7_goes 34 = .ok (.getfield 7, 3) := by decide +kernel
theorem dX7_goes_37 : decode cX7_goes 37 = .ok (.bipush 8, 2) := by decide +kernel
theorem dX7_goes_39 : decode cX7_goes 39 = .ok (.iload_n 3, 1) := by decide +kernel
theorem dX7_goes_40 : decode cX7_goes 40 = .ok (.iadd, 1) := by decide +kernel
theorem dX7_goes_41 : decode cX7_goes 41 = .ok (.iaload, 1) := by decide +kernel
theorem dX7_goes_42 : decode cX7_goes 42 = .ok (.iastore, 1) := by decide +kernel
theorem dX7_goes_43 : decode cX7_goes 43 = .ok (.iload_n 2, 1) := by decide +kernel
theorem dX7_goes_44 : decode cX7_goes 44 = .ok (.aload_n 0, 1) := by decide +kernel
theorem dX7_goes_45 : decode cX7_goes 45 = .ok (.getfield 7, 3) := by decide +kernel
theorem dX7_goes_48 : decode cX7_goes 48 = .ok (.bipush 8, 2) := by decide +kernel
theorem dX7_goes_50 : decode cX7_goes 50 = .ok (.iload_n 3, 1) := by decide +kernel
theorem dX7_goes_51 : decode cX7_goes 51 = .ok (.iadd, 1) := by decide +kernel
theorem dX7_goes_52 : decode cX7_goes 52 = .ok (.iaload, 1) := by decide +kernel
theorem dX7_goes_53 : decode cX7_goes 53 = .ok (.iload_n 1, 1) := by decide +kernel
theorem dX7_goes_54 : decode cX7_goes 54 = .ok (.if_icmp .ne 7, 3) := by decide +kernel
theorem dX7_goes_57 : decode cX7_goes 57 = .ok (.iconst 0, 1) := by decide +kernel
theorem dX7_goes_58 : decode cX7_goes 58 = .ok (.goto 4, 3) := by decide +kernel
theorem dX7_goes_61 : decode cX7_goes 61 = .ok (.iconst 1, 1) := by decide +kernel
theorem dX7_goes_62 : decode cX7_goes 62 = .ok (.iadd, 1) := by decide +kernel
theorem dX7_goes_63 : decode cX7_goes 63 = .ok (.istore_n 2, 1) := by decide +kernel
theorem dX7_goes_64 : decode cX7_goes 64 = .ok (.iinc 3 1, 3) := by decide +kernel
theorem dX7_goes_67 : decode cX7_goes 67 = .ok (.goto (-53), 3) := by decide +kernel
theorem dX7_goes_70 : decode cX7_goes 70 = .ok (.aload_n 0, 1) := by decide +kernel
theorem dX7_goes_71 : decode cX7_goes 71 = .ok (.getfield 7, 3) := by decide +kernel
theorem dX7_goes_74 : decode cX7_goes 74 = .ok (.bipush 7, 2) := by decide +kernel
theorem dX7_goes_76 : decode cX7_goes 76 = .ok (.iload_n 2, 1) := by decide +kernel
theorem dX7_goes_77 : decode cX7_goes 77 = .ok (.iastore, 1) := by decide +kernel
theorem dX7_goes_78 : decode cX7_goes 78 = .ok (.aload_n 0, 1) := by decide +kernel
theorem dX7_goes_79 : decode cX7_goes 79 = .ok (.getfield 7, 3) := by decide +kernel
theorem dX7_goes_82 : decode cX7_goes 82 = .ok (.bipush 119, 2) := by decide +kernel
theorem dX7_goes_84 : decode cX7_goes 84 = .ok (.bipush 6, 2) := by decide +kernel
theorem dX7_goes_86 : decode cX7_goes 86 = .ok (.iload_n 1, 1) := by decide +kernel
theorem dX7_goes_87 : decode cX7_goes 87 = .ok (.imul, 1) := by decide +kernel
theorem dX7_goes_88 : decode cX7_goes 88 = .ok (.iadd, 1) := by decide +kernel
theorem dX7_goes_89 : decode cX7_goes 89 = .ok (.iconst (-1), 1) := by decide +kernel
theorem dX7_goes_90 : decode cX7_goes 90 = .ok (.iastore, 1) := by decide +kernel
theorem dX7_goes_91 : decode cX7_goes 91 = .ok (.aload_n 0, 1) := by decide +kernel
theorem dX7_goes_92 : decode cX7_goes 92 = .ok (.getfield 7, 3) := by decide +kernel
theorem dX7_goes_95 : decode cX7_goes 95 = .ok (.iconst 5, 1) := by decide +kernel
theorem dX7_goes_96 : decode cX7_goes 96 = .ok (.dup2, 1) := by decide +kernel
theorem dX7_goes_97 : decode cX7_goes 97 = .ok (.iaload, 1) := by decide +kernel
theorem dX7_goes_98 : decode cX7_goes 98 = .ok (.iconst 1, 1) := by decide +kernel
theorem dX7_goes_99 : decode cX7_goes 99 = .ok (.iadd, 1) := by decide +kernel
theorem dX7_goes_100 : decode cX7_goes 100 = .ok (.iastore, 1) := by decide +kernel
theorem dX7_goes_101 : decode cX7_goes 101 = .ok (.return_, 1) := by decide +kernel
set_option maxRecDepth 20000 in
theorem ggX7_bars_X7_in : GoodIn wsX7_bars wsX7_in := goodIn_r _ [4] (by decide +kernel) (by decide +kernel)
set_option maxRecDepth 20000 in
theorem gX7_bars_X7_in : GoodIn wsX7_bars (va_wsS RX7 44 yX7_in wsX7_in) := goodIn_app (goodIn_of _ (by decide +kernel)) ggX7_bars_X7_in
theorem dX7_bars_0 : decode cX7_bars 0 = .ok (.iload_n 0, 1) := by decide +kernel
theorem dX7_bars_1 : decode cX7_bars 1 = .ok (.iconst 0, 1) := by decide +kernel
theorem dX7_bars_2 : decode cX7_bars 2 = .ok (.bipush 15, 2) := by decide +kernel
theorem dX7_bars_4 : decode cX7_bars 4 = .ok (.invokestatic 44, 3) := by decide +kernel
theorem dX7_bars_7 : decode cX7_bars 7 = .ok (.ifCond .ne 7, 3) := by decide +kernel
theorem dX7_bars_10 : decode cX7_bars 10 = .ok (.iconst 1, 1) := by decide +kernel
theorem dX7_bars_11 : decode cX7_bars 11 = .ok (.goto 26, 3) := by decide +kernel
theorem dX7_bars_14 : decode cX7_bars 14 = .ok (.iload_n 1, 1) := by decide +kernel
theorem dX7_bars_15 : decode cX7_bars 15 = .ok (.iconst 1, 1) := by decide +kernel
theorem dX7_bars_16 : decode cX7_bars 16 = .ok (.iconst 3, 1) := by decide +kernel
theorem dX7_bars_17 : decode cX7_bars 17 = .ok (.invokestatic 44, 3) := by decide +kernel
theorem dX7_bars_20 : decode cX7_bars 20 = .ok (.ifCond .eq 12, 3) := by decide +kernel
theorem dX7_bars_23 : decode cX7_bars 23 = .ok (.iload_n 2, 1) := by decide +kernel
theorem dX7_bars_24 : decode cX7_bars 24 = .ok (.iconst 0, 1) := by decide +kernel
theorem dX7_bars_25 : decode cX7_bars 25 = .ok (.iconst 2, 1) := by decide +kernel
theorem dX7_bars_26 : decode cX7_bars 26 = .ok (.invokestatic 44, 3) := by decide +kernel
theorem dX7_bars_29 : decode cX7_bars 29 = .ok (.ifCond .ne 7, 3) := by decide +kernel
theorem dX7_bars_32 : decode cX7_bars 32 = .ok (.iconst 2, 1) := by decide +kernel
theorem dX7_bars_33 : decode cX7_bars 33 = .ok (.goto 4, 3) := by decide +kernel
theorem dX7_bars_36 : decode cX7_bars 36 = .ok (.iconst 0, 1) := by decide +kernel
theorem dX7_bars_37 : decode cX7_bars 37 = .ok (.ireturn, 1) := by decide +kernel
theorem dX7_tall_0 : decode cX7_tall 0 = .ok (.aload_n 0, 1) := by decide +kernel
theorem dX7_tall_1 : decode cX7_tall 1 = .ok (.getfield 7, 3) := by decide +kernel
theorem dX7_tall_4 : decode cX7_tall 4 = .ok (.bipush 47, 2) := by decide +kernel
theorem dX7_tall_6 : decode cX7_tall 6 = .ok (.bipush 24, 2) := by decide +kernel
theorem dX7_tall_8 : decode cX7_tall 8 = .ok (.iload_n 1, 1) := by decide +kernel
theorem dX7_tall_9 : decode cX7_tall 9 = .ok (.imul, 1) := by decide +kernel
theorem dX7_tall_10 : decode cX7_tall 10 = .ok (.iadd, 1) := by decide +kernel
theorem dX7_tall_11 : decode cX7_tall 11 = .ok (.iload_n 2, 1) := by decide +kernel
theorem dX7_tall_12 : decode cX7_tall 12 = .ok (.iadd, 1) := by decide +kernel
theorem dX7_tall_13 : decode cX7_tall 13 = .ok (.iaload, 1) := by decide +kernel
theorem dX7_tall_14 : decode cX7_tall 14 = .ok (.ireturn, 1) := by decide +kernel
set_option maxRecDepth 20000 in
theorem ggX7_top_X7_tall : GoodIn wsX7_top wsX7_tall := goodIn_r _ [5, 6, 7, 8, 9, 10, 11, 12, 13, 14, 15, 16, 17, 18, 19, 20, 21, 22] (by decide +kernel) (by decide +kernel)
set_option maxRecDepth 20000 in
theorem gX7_top_X7_tall : GoodIn wsX7_top (wsV RX7 52 RX7 yX7_tall wsX7_tall) := goodIn_app (goodIn_of _ (by decide +kernel)) ggX7_top_X7_tall
theorem dX7_top_0 : decode cX7_top 0 = .ok (.iconst 0, 1) := by decide +kernel
theorem dX7_top_1 : decode cX7_top 1 = .ok (.istore_n 3, 1) := by decide +kernel
theorem dX7_top_2 : decode cX7_top 2 = .ok (.iconst 0, 1) := by decide +kernel
theorem dX7_top_3 : decode cX7_top 3 = .ok (.istore 4, 2) := by decide +kernel
theorem dX7_top_5 : decode cX7_top 5 = .ok (.iload 4, 2) := by decide +kernel
theorem dX7_top_7 : decode cX7_top 7 = .ok (.iload_n 2, 1) := by decide +kernel
theorem dX7_top_8 : decode cX7_top 8 = .ok (.if_icmp .ge 19, 3) := by decide +kernel
theorem dX7_top_11 : decode cX7_top 11 = .ok (.iload_n 3, 1) := by decide +kernel
theorem dX7_top_12 : decode cX7_top 12 = .ok (.aload_n 0, 1) := by decide +kernel
theorem dX7_top_13 : decode cX7_top 13 = .ok (.iload_n 1, 1) := by decide +kernel
theorem dX7_top_14 : decode cX7_top 14 = .ok (.iload 4, 2) := by decide +kernel
theorem dX7_top_16 : decode cX7_top 16 = .ok (.invokevirtual 52, 3) := by decide +kernel
theorem dX7_top_19 : decode cX7_top 19 = .ok (.iadd, 1) := by decide +kernel
theorem dX7_top_20 : decode cX7_top 20 = .ok (.istore_n 3, 1) := by decide +kernel
theorem dX7_top_21 : decode cX7_top 21 = .ok (.iinc 4 1, 3) := by decide +kernel
theorem dX7_top_24 : decode cX7_top 24 = .ok (.goto (-19), 3) := by decide +kernel
theorem dX7_top_27 : decode cX7_top 27 = .ok (.iload_n 3, 1) := by decide +kernel
theorem dX7_top_28 : decode cX7_top 28 = .ok (.ireturn, 1) := by decide +kernel
set_option maxRecDepth 20000 in
theorem ggX7_covers_X7_widthOf : GoodIn wsX7_covers wsX7_widthOf := goodIn_r _ [6, 7, 16, 17, 18, 19, 20, 21, 22, 23, 24, 25, 26, 27, 28, 29, 30, 31] (by decide +kernel) (by decide +kernel)
set_option maxRecDepth 20000 in
theorem gX7_covers_X7_widthOf : GoodIn wsX7_covers (wsV RX7 33 RX7 yX7_widthOf wsX7_widthOf) := goodIn_app (goodIn_of _ (by decide +kernel)) ggX7_covers_X7_widthOf
set_option maxRecDepth 20000 in
theorem ggX7_covers_X7_isOn : GoodIn wsX7_covers wsX7_isOn := goodIn_r _ [11, 12, 13, 14, 5, 15, 7, 16, 17, 18, 19, 20, 21, 22, 23, 24, 25, 26, 27, 28, 29, 30, 31] (by decide +kernel) (by decide +kernel)
set_option maxRecDepth 20000 in
theorem gX7_covers_X7_isOn : GoodIn wsX7_covers (wsV RX7 55 RX7 yX7_isOn wsX7_isOn) := goodIn_app (goodIn_of _ (by decide +kernel)) ggX7_covers_X7_isOn
set_option maxRecDepth 20000 in
theorem ggX7_covers_X7_of : GoodIn wsX7_covers wsX7_of := goodIn_r _ [15, 7, 16, 17, 18, 19, 20, 21, 22, 23, 24, 25, 26, 27, 28, 29, 30, 31] (by decide +kernel) (by decide +kernel)
set_option maxRecDepth 20000 in
theorem gX7_covers_X7_of : GoodIn wsX7_covers (wsV RX7 40 RX7 yX7_of wsX7_of) := goodIn_app (goodIn_of _ (by decide +kernel)) ggX7_covers_X7_of
theorem dX7_covers_0 : decode cX7_covers 0 = .ok (.iconst 0, 1) := by decide +kernel
theorem dX7_covers_1 : decode cX7_covers 1 = .ok (.istore_n 3, 1) := by decide +kernel
theorem dX7_covers_2 : decode cX7_covers 2 = .ok (.iload_n 3, 1) := by decide +kernel
theorem dX7_covers_3 : decode cX7_covers 3 = .ok (.bipush 24, 2) := by decide +kernel
theorem dX7_covers_5 : decode cX7_covers 5 = .ok (.if_icmp .ge 16, 3) := by decide +kernel
theorem dX7_covers_8 : decode cX7_covers 8 = .ok (.aload_n 0, 1) := by decide +kernel
theorem dX7_covers_9 : decode cX7_covers 9 = .ok (.getfield 16, 3) := by decide +kernel
theorem dX7_covers_12 : decode cX7_covers 12 = .ok (.iload_n 3, 1) := by decide +kernel
theorem dX7_covers_13 : decode cX7_covers 13 = .ok (.iconst 0, 1) := by decide +kernel
theorem dX7_covers_14 : decode cX7_covers 14 = .ok (.bastore, 1) := by decide +kernel
theorem dX7_covers_15 : decode cX7_covers 15 = .ok (.iinc 3 1, 3) := by decide +kernel
theorem dX7_covers_18 : decode cX7_covers 18 = .ok (.goto (-16), 3) := by decide +kernel
theorem dX7_covers_21 : decode cX7_covers 21 = .ok (.aload_n 0, 1) := by decide +kernel
theorem dX7_covers_22 : decode cX7_covers 22 = .ok (.getfield 16, 3) := by decide +kernel
theorem dX7_covers_25 : decode cX7_covers 25 = .ok (.bipush 24, 2) := by decide +kernel
theorem dX7_covers_27 : decode cX7_covers 27 = .ok (.iconst 1, 1) := by decide +kernel
theorem dX7_covers_28 : decode cX7_covers 28 = .ok (.bastore, 1) := by decide +kernel
theorem dX7_covers_29 : decode cX7_covers 29 = .ok (.iconst 0, 1) := by decide +kernel
theorem dX7_covers_30 : decode cX7_covers 30 = .ok (.istore_n 3, 1) := by decide +kernel
theorem dX7_covers_31 : decode cX7_covers 31 = .ok (.iload_n 3, 1) := by decide +kernel
theorem dX7_covers_32 : decode cX7_covers 32 = .ok (.sipush 144, 3) := by decide +kernel
theorem dX7_covers_35 : decode cX7_covers 35 = .ok (.if_icmp .ge 53, 3) := by decide +kernel
theorem dX7_covers_38 : decode cX7_covers 38 = .ok (.iconst 0, 1) := by decide +kernel
theorem dX7_covers_39 : decode cX7_covers 39 = .ok (.istore 4, 2) := by decide +kernel
theorem dX7_covers_41 : decode cX7_covers 41 = .ok (.iload 4, 2) := by decide +kernel
theorem dX7_covers_43 : decode cX7_covers 43 = .ok (.aload_n 0, 1) := by decide +kernel
theorem dX7_covers_44 : decode cX7_covers 44 = .ok (.iload_n 3, 1) := by decide +kernel
theorem dX7_covers_45 : decode cX7_covers 45 = .ok (.invokevirtual 33, 3) := by decide +kernel
theorem dX7_covers_48 : decode cX7_covers 48 = .ok (.if_icmp .ge 34, 3) := by decide +kernel
theorem dX7_covers_51 : decode cX7_covers 51 = .ok (.aload_n 0, 1) := by decide +kernel
theorem dX7_covers_52 : decode cX7_covers 52 = .ok (.iload_n 3, 1) := by decide +kernel
theorem dX7_covers_53 : decode cX7_covers 53 = .ok (.iload_n 1, 1) := by decide +kernel
theorem dX7_covers_54 : decode cX7_covers 54 = .ok (.iload_n 2, 1) := by decide +kernel
theorem dX7_covers_55 : decode cX7_covers 55 = .ok (.invokevirtual 55, 3) := by decide +kernel
theorem dX7_covers_58 : decode cX7_covers 58 = .ok (.ifCond .eq 24, 3) := by decide +kernel
theorem dX7_covers_61 : decode cX7_covers 61 = .ok (.aload_n 0, 1) := by decide +kernel
theorem dX7_covers_62 : decode cX7_covers 62 = .ok (.getfield 16, 3) := by decide +kernel
theorem dX7_covers_65 : decode cX7_covers 65 = .ok (.aload_n 0, 1) := by decide +kernel
theorem dX7_covers_66 : decode cX7_covers 66 = .ok (.iload_n 3, 1) := by decide +kernel
theorem dX7_covers_67 : decode cX7_covers 67 = .ok (.iconst 2, 1) := by decide +kernel
theorem dX7_covers_68 : decode cX7_covers 68 = .ok (.invokevirtual 40, 3) := by decide +kernel
theorem dX7_covers_71 : decode cX7_covers 71 = .ok (.iload 4, 2) := by decide +kernel
theorem dX7_covers_73 : decode cX7_covers 73 = .ok (.iadd, 1) := by decide +kernel
theorem dX7_covers_74 : decode cX7_covers 74 = .ok (.iconst 1, 1) := by decide +kernel
theorem dX7_covers_75 : decode cX7_covers 75 = .ok (.bastore, 1) := by decide +kernel
theorem dX7_covers_76 : decode cX7_covers 76 = .ok (.iinc 4 1, 3) := by decide +kernel
theorem dX7_covers_79 : decode cX7_covers 79 = .ok (.goto (-38), 3) := by decide +kernel
theorem dX7_covers_82 : decode cX7_covers 82 = .ok (.iinc 3 1, 3) := by decide +kernel
theorem dX7_covers_85 : decode cX7_covers 85 = .ok (.goto (-54), 3) := by decide +kernel
theorem dX7_covers_88 : decode cX7_covers 88 = .ok (.return_, 1) := by decide +kernel
theorem dX7_endOf_0 : decode cX7_endOf 0 = .ok (.iload_n 1, 1) := by decide +kernel
theorem dX7_endOf_1 : decode cX7_endOf 1 = .ok (.istore_n 2, 1) := by decide +kernel
theorem dX7_endOf_2 : decode cX7_endOf 2 = .ok (.iload_n 1, 1) := by decide +kernel
theorem dX7_endOf_3 : decode cX7_endOf 3 = .ok (.ifCond .eq 14, 3) := by decide +kernel
theorem dX7_endOf_6 : decode cX7_endOf 6 = .ok (.aload_n 0, 1) := by decide +kernel
theorem dX7_endOf_7 : decode cX7_endOf 7 = .ok (.getfield 16, 3) := by decide +kernel
theorem dX7_endOf_10 : decode cX7_endOf 10 = .ok (.iload_n 1, 1) := by decide +kernel
theorem dX7_endOf_11 : decode cX7_endOf 11 = .ok (.iconst 1, 1) := by decide +kernel
theorem dX7_endOf_12 : decode cX7_endOf 12 = .ok (.isub, 1) := by decide +kernel
theorem dX7_endOf_13 : decode cX7_endOf 13 = .ok (.baload, 1) := by decide +kernel
theorem dX7_endOf_14 : decode cX7_endOf 14 = .ok (.ifCond .eq 18, 3) := by decide +kernel
theorem dX7_endOf_17 : decode cX7_endOf 17 = .ok (.aload_n 0, 1) := by decide +kernel
theorem dX7_endOf_18 : decode cX7_endOf 18 = .ok (.getfield 16, 3) := by decide +kernel
theorem dX7_endOf_21 : decode cX7_endOf 21 = .ok (.iload_n 2, 1) := by decide +kernel
theorem dX7_endOf_22 : decode cX7_endOf 22 = .ok (.baload, 1) := by decide +kernel
theorem dX7_endOf_23 : decode cX7_endOf 23 = .ok (.ifCond .ne 9, 3) := by decide +kernel
theorem dX7_endOf_26 : decode cX7_endOf 26 = .ok (.iinc 2 1, 3) := by decide +kernel
theorem dX7_endOf_29 : decode cX7_endOf 29 = .ok (.goto (-27), 3) := by decide +kernel
theorem dX7_endOf_32 : decode cX7_endOf 32 = .ok (.iload_n 2, 1) := by decide +kernel
theorem dX7_endOf_33 : decode cX7_endOf 33 = .ok (.ireturn, 1) := by decide +kernel
set_option maxRecDepth 20000 in
theorem ggX7_lettersOn_X7_isOn : GoodIn wsX7_lettersOn wsX7_isOn := goodIn_r _ [5, 6, 7, 8, 4, 9, 10, 11, 12, 13, 14, 15, 16, 17, 18, 19, 20, 21, 22, 23, 24, 25, 26] (by decide +kernel) (by decide +kernel)
set_option maxRecDepth 20000 in
theorem gX7_lettersOn_X7_isOn : GoodIn wsX7_lettersOn (wsV RX7 55 RX7 yX7_isOn wsX7_isOn) := goodIn_app (goodIn_of _ (by decide +kernel)) ggX7_lettersOn_X7_isOn
theorem dX7_lettersOn_0 : decode cX7_lettersOn 0 = .ok (.iconst 0, 1) := by decide +kernel
theorem dX7_lettersOn_1 : decode cX7_lettersOn 1 = .ok (.istore_n 3, 1) := by decide +kernel
theorem dX7_lettersOn_2 : decode cX7_lettersOn 2 = .ok (.iconst 0, 1) := by decide +kernel
theorem dX7_lettersOn_3 : decode cX7_lettersOn 3 = .ok (.istore 4, 2) := by decide +kernel
theorem dX7_lettersOn_5 : decode cX7_lettersOn 5 = .ok (.iload 4, 2) := by decide +kernel
theorem dX7_lettersOn_7 : decode cX7_lettersOn 7 = .ok (.sipush 144, 3) := by decide +kernel
theorem dX7_lettersOn_10 : decode cX7_lettersOn 10 = .ok (.if_icmp .ge 28, 3) := by decide +kernel
theorem dX7_lettersOn_13 : decode cX7_lettersOn 13 = .ok (.iload_n 3, 1) := by decide +kernel
theorem dX7_lettersOn_14 : decode cX7_lettersOn 14 = .ok (.aload_n 0, 1) := by decide +kernel
theorem dX7_lettersOn_15 : decode cX7_lettersOn 15 = .ok (.iload 4, 2) := by decide +kernel
theorem dX7_lettersOn_17 : decode cX7_lettersOn 17 = .ok (.iload_n 1, 1) := by decide +kernel
theorem dX7_lettersOn_18 : decode cX7_lettersOn 18 = .ok (.iload_n 2, 1) := by decide +kernel
theorem dX7_lettersOn_19 : decode cX7_lettersOn 19 = .ok (.invokevirtual 55, 3) := by decide +kernel
theorem dX7_lettersOn_22 : decode cX7_lettersOn 22 = .ok (.ifCond .eq 7, 3) := by decide +kernel
theorem dX7_lettersOn_25 : decode cX7_lettersOn 25 = .ok (.iconst 1, 1) := by decide +kernel
theorem dX7_lettersOn_26 : decode cX7_lettersOn 26 = .ok (.goto 4, 3) := by decide +kernel
theorem dX7_lettersOn_29 : decode cX7_lettersOn 29 = .ok (.iconst 0, 1) := by decide +kernel
theorem dX7_lettersOn_30 : decode cX7_lettersOn 30 = .ok (.iadd, 1) := by decide +kernel
theorem dX7_lettersOn_31 : decode cX7_lettersOn 31 = .ok (.istore_n 3, 1) := by decide +kernel
theorem dX7_lettersOn_32 : decode cX7_lettersOn 32 = .ok (.iinc 4 1, 3) := by decide +kernel
theorem dX7_lettersOn_35 : decode cX7_lettersOn 35 = .ok (.goto (-30), 3) := by decide +kernel
theorem dX7_lettersOn_38 : decode cX7_lettersOn 38 = .ok (.iload_n 3, 1) := by decide +kernel
theorem dX7_lettersOn_39 : decode cX7_lettersOn 39 = .ok (.ireturn, 1) := by decide +kernel
set_option maxRecDepth 20000 in
theorem ggX7_latestOn_X7_isOn : GoodIn wsX7_latestOn wsX7_isOn := goodIn_r _ [5, 6, 7, 8, 4, 9, 10, 11, 12, 13, 14, 15, 16, 17, 18, 19, 20, 21, 22, 23, 24, 25, 26] (by decide +kernel) (by decide +kernel)
set_option maxRecDepth 20000 in
theorem gX7_latestOn_X7_isOn : GoodIn wsX7_latestOn (wsV RX7 55 RX7 yX7_isOn wsX7_isOn) := goodIn_app (goodIn_of _ (by decide +kernel)) ggX7_latestOn_X7_isOn
set_option maxRecDepth 20000 in
theorem ggX7_latestOn_X7_of : GoodIn wsX7_latestOn wsX7_of := goodIn_r _ [9, 10, 11, 12, 13, 14, 15, 16, 17, 18, 19, 20, 21, 22, 23, 24, 25, 26] (by decide +kernel) (by decide +kernel)
set_option maxRecDepth 20000 in
theorem gX7_latestOn_X7_of : GoodIn wsX7_latestOn (wsV RX7 40 RX7 yX7_of wsX7_of) := goodIn_app (goodIn_of _ (by decide +kernel)) ggX7_latestOn_X7_of
theorem dX7_latestOn_0 : decode cX7_latestOn 0 = .ok (.iconst (-1), 1) := by decide +kernel
theorem dX7_latestOn_1 : decode cX7_latestOn 1 = .ok (.istore_n 3, 1) := by decide +kernel
theorem dX7_latestOn_2 : decode cX7_latestOn 2 = .ok (.iconst 0, 1) := by decide +kernel
theorem dX7_latestOn_3 : decode cX7_latestOn 3 = .ok (.istore 4, 2) := by decide +kernel
theorem dX7_latestOn_5 : decode cX7_latestOn 5 = .ok (.iload 4, 2) := by decide +kernel
theorem dX7_latestOn_7 : decode cX7_latestOn 7 = .ok (.sipush 144, 3) := by decide +kernel
theorem dX7_latestOn_10 : decode cX7_latestOn 10 = .ok (.if_icmp .ge 43, 3) := by decide +kernel
theorem dX7_latestOn_13 : decode cX7_latestOn 13 = .ok (.aload_n 0, 1) := by decide +kernel
theorem dX7_latestOn_14 : decode cX7_latestOn 14 = .ok (.iload 4, 2) := by decide +kernel
theorem dX7_latestOn_16 : decode cX7_latestOn 16 = .ok (.iload_n 1, 1) := by decide +kernel
theorem dX7_latestOn_17 : decode cX7_latestOn 17 = .ok (.iload_n 2, 1) := by decide +kernel
theorem dX7_latestOn_18 : decode cX7_latestOn 18 = .ok (.invokevirtual 55, 3) := by decide +kernel
theorem dX7_latestOn_21 : decode cX7_latestOn 21 = .ok (.ifCond .eq 24, 3) := by decide +kernel
theorem dX7_latestOn_24 : decode cX7_latestOn 24 = .ok (.aload_n 0, 1) := by decide +kernel
theorem dX7_latestOn_25 : decode cX7_latestOn 25 = .ok (.iload 4, 2) := by decide +kernel
theorem dX7_latestOn_27 : decode cX7_latestOn 27 = .ok (.iconst 3, 1) := by decide +kernel
theorem dX7_latestOn_28 : decode cX7_latestOn 28 = .ok (.invokevirtual 40, 3) := by decide +kernel
theorem dX7_latestOn_31 : decode cX7_latestOn 31 = .ok (.iload_n 3, 1) := by decide +kernel
theorem dX7_latestOn_32 : decode cX7_latestOn 32 = .ok (.if_icmp .le 13, 3) := by decide +kernel
theorem dX7_latestOn_35 : decode cX7_latestOn 35 = .ok (.aload_n 0, 1) := by decide +kernel
theorem dX7_latestOn_36 : decode cX7_latestOn 36 = .ok (.iload 4, 2) := by decide +kernel
theorem dX7_latestOn_38 : decode cX7_latestOn 38 = .ok (.iconst 3, 1) := by decide +kernel
theorem dX7_latestOn_39 : decode cX7_latestOn 39 = .ok (.invokevirtual 40, 3) := by decide +kernel
theorem dX7_latestOn_42 : decode cX7_latestOn 42 = .ok (.goto 4, 3) := by decide +kernel
theorem dX7_latestOn_45 : decode cX7_latestOn 45 = .ok (.iload_n 3, 1) := by decide +kernel
theorem dX7_latestOn_46 : decode cX7_latestOn 46 = .ok (.istore_n 3, 1) := by decide +kernel
theorem dX7_latestOn_47 : decode cX7_latestOn 47 = .ok (.iinc 4 1, 3) := by decide +kernel
theorem dX7_latestOn_50 : decode cX7_latestOn 50 = .ok (.goto (-45), 3) := by decide +kernel
theorem dX7_latestOn_53 : decode cX7_latestOn 53 = .ok (.iload_n 3, 1) := by decide +kernel
theorem dX7_latestOn_54 : decode cX7_latestOn 54 = .ok (.ireturn, 1) := by decide +kernel
set_option maxRecDepth 20000 in
theorem ggX7_isNowOn_X7_isOn : GoodIn wsX7_isNowOn wsX7_isOn := goodIn_r _ [5, 6, 7, 8, 4, 9, 10, 19, 20, 21, 22, 23, 24, 25, 26, 27, 28, 29, 30, 31, 32, 33, 34] (by decide +kernel) (by decide +kernel)
set_option maxRecDepth 20000 in
theorem gX7_isNowOn_X7_isOn : GoodIn wsX7_isNowOn (wsV RX7 55 RX7 yX7_isOn wsX7_isOn) := goodIn_app (goodIn_of _ (by decide +kernel)) ggX7_isNowOn_X7_isOn
set_option maxRecDepth 20000 in
theorem ggX7_isNowOn_X7_isNow : GoodIn wsX7_isNowOn wsX7_isNow := goodIn_r _ [14, 10, 15, 16, 17, 4, 18, 6, 7, 8, 9, 19, 20, 21, 22, 23, 24, 25, 26, 27, 28, 29, 30, 31, 32, 33, 34] (by decide +kernel) (by decide +kernel)
set_option maxRecDepth 20000 in
theorem gX7_isNowOn_X7_isNow : GoodIn wsX7_isNowOn (wsV RX7 58 RX7 yX7_isNow wsX7_isNow) := goodIn_app (goodIn_of _ (by decide +kernel)) ggX7_isNowOn_X7_isNow
theorem dX7_isNowOn_0 : decode cX7_isNowOn 0 = .ok (.iconst 0, 1) := by decide +kernel
theorem dX7_isNowOn_1 : decode cX7_isNowOn 1 = .ok (.istore_n 3, 1) := by decide +kernel
theorem dX7_isNowOn_2 : decode cX7_isNowOn 2 = .ok (.iconst 0, 1) := by decide +kernel
theorem dX7_isNowOn_3 : decode cX7_isNowOn 3 = .ok (.istore 4, 2) := by decide +kernel
theorem dX7_isNowOn_5 : decode cX7_isNowOn 5 = .ok (.iload 4, 2) := by decide +kernel
theorem dX7_isNowOn_7 : decode cX7_isNowOn 7 = .ok (.sipush 144, 3) := by decide +kernel
theorem dX7_isNowOn_10 : decode cX7_isNowOn 10 = .ok (.if_icmp .ge 39, 3) := by decide +kernel
theorem dX7_isNowOn_13 : decode cX7_isNowOn 13 = .ok (.iload_n 3, 1) := by decide +kernel
theorem dX7_isNowOn_14 : decode cX7_isNowOn 14 = .ok (.ifCond .ne 23, 3) := by decide +kernel
theorem dX7_isNowOn_17 : decode cX7_isNowOn 17 = .ok (.aload_n 0, 1) := by decide +kernel
theorem dX7_isNowOn_18 : decode cX7_isNowOn 18 = .ok (.iload 4, 2) := by decide +kernel
theorem dX7_isNowOn_20 : decode cX7_isNowOn 20 = .ok (.iload_n 1, 1) := by decide +kernel
theorem dX7_isNowOn_21 : decode cX7_isNowOn 21 = .ok (.iload_n 2, 1) := by decide +kernel
theorem dX7_isNowOn_22 : decode cX7_isNowOn 22 = .ok (.invokevirtual 55, 3) := by decide +kernel
theorem dX7_isNowOn_25 : decode cX7_isNowOn 25 = .ok (.ifCond .eq 16, 3) := by decide +kernel
theorem dX7_isNowOn_28 : decode cX7_isNowOn 28 = .ok (.aload_n 0, 1) := by decide +kernel
theorem dX7_isNowOn_29 : decode cX7_isNowOn 29 = .ok (.iload 4, 2) := by decide +kernel
theorem dX7_isNowOn_31 : decode cX7_isNowOn 31 = .ok (.invokevirtual 58, 3) := by decide +kernel
theorem dX7_isNowOn_34 : decode cX7_isNowOn 34 = .ok (.ifCond .eq 7, 3) := by decide +kernel
theorem dX7_isNowOn_37 : decode cX7_isNowOn 37 = .ok (.iconst 1, 1) := by decide +kernel
theorem dX7_isNowOn_38 : decode cX7_isNowOn 38 = .ok (.goto 4, 3) := by decide +kernel
theorem dX7_isNowOn_41 : decode cX7_isNowOn 41 = .ok (.iconst 0, 1) := by decide +kernel
theorem dX7_isNowOn_42 : decode cX7_isNowOn 42 = .ok (.istore_n 3, 1) := by decide +kernel
theorem dX7_isNowOn_43 : decode cX7_isNowOn 43 = .ok (.iinc 4 1, 3) := by decide +kernel
theorem dX7_isNowOn_46 : decode cX7_isNowOn 46 = .ok (.goto (-41), 3) := by decide +kernel
theorem dX7_isNowOn_49 : decode cX7_isNowOn 49 = .ok (.iload_n 3, 1) := by decide +kernel
theorem dX7_isNowOn_50 : decode cX7_isNowOn 50 = .ok (.ireturn, 1) := by decide +kernel
set_option maxRecDepth 20000 in
theorem ggX7_looksAtGaps_X7_tall : GoodIn wsX7_looksAtGaps wsX7_tall := goodIn_r _ [10, 1, 36, 37, 38, 39, 40, 41, 42, 43, 44, 45, 46, 47, 48, 49, 50, 51] (by decide +kernel) (by decide +kernel)
set_option maxRecDepth 20000 in
theorem gX7_looksAtGaps_X7_tall : GoodIn wsX7_looksAtGaps (wsV RX7 52 RX7 yX7_tall wsX7_tall) := goodIn_app (goodIn_of _ (by decide +kernel)) ggX7_looksAtGaps_X7_tall
set_option maxRecDepth 20000 in
theorem ggX7_looksAtGaps_X7_heightOf : GoodIn wsX7_looksAtGaps wsX7_heightOf := goodIn_r _ [14, 1, 36, 37, 38, 39, 40, 41, 42, 43, 44, 45, 46, 47, 48, 49, 50, 51] (by decide +kernel) (by decide +kernel)
set_option maxRecDepth 20000 in
theorem gX7_looksAtGaps_X7_heightOf : GoodIn wsX7_looksAtGaps (wsV RX7 37 RX7 yX7_heightOf wsX7_heightOf) := goodIn_app (goodIn_of _ (by decide +kernel)) ggX7_looksAtGaps_X7_heightOf
set_option maxRecDepth 20000 in
theorem ggX7_looksAtGaps_X7_covers : GoodIn wsX7_looksAtGaps wsX7_covers := goodIn_r _ [18, 19, 20, 21, 22, 9, 23, 1, 24, 25, 26, 27, 28, 29, 30, 31, 36, 37, 38, 39, 40, 41, 42, 43, 44, 45, 46, 47, 48, 49, 50, 51] (by decide +kernel) (by decide +kernel)
set_option maxRecDepth 20000 in
theorem gX7_looksAtGaps_X7_covers : GoodIn wsX7_looksAtGaps (wsV RX7 61 RX7 yX7_covers wsX7_covers) := goodIn_app (goodIn_of _ (by decide +kernel)) ggX7_looksAtGaps_X7_covers
set_option maxRecDepth 20000 in
theorem ggX7_looksAtGaps_X7_endOf : GoodIn wsX7_looksAtGaps wsX7_endOf := goodIn_r _ [35, 19, 36, 37, 38, 39, 40, 41, 42, 43, 44, 45, 46, 47, 48, 49, 50, 51] (by decide +kernel) (by decide +kernel)
set_option maxRecDepth 20000 in
theorem gX7_looksAtGaps_X7_endOf : GoodIn wsX7_looksAtGaps (wsV RX7 65 RX7 yX7_endOf wsX7_endOf) := goodIn_app (goodIn_of _ (by decide +kernel)) ggX7_looksAtGaps_X7_endOf
set_option maxRecDepth 20000 in
theorem ggX7_looksAtGaps_X7_widthOf : GoodIn wsX7_looksAtGaps wsX7_widthOf := goodIn_r _ [23, 1, 36, 37, 38, 39, 40, 41, 42, 43, 44, 45, 46, 47, 48, 49, 50, 51] (by decide +kernel) (by decide +kernel)
set_option maxRecDepth 20000 in
theorem gX7_looksAtGaps_X7_widthOf : GoodIn wsX7_looksAtGaps (wsV RX7 33 RX7 yX7_widthOf wsX7_widthOf) := goodIn_app (goodIn_of _ (by decide +kernel)) ggX7_looksAtGaps_X7_widthOf
theorem dX7_looksAtGaps_0 : decode cX7_looksAtGaps 0 = .ok (.bipush 24, 2) := by decide +kernel
theorem dX7_looksAtGaps_2 : decode cX7_looksAtGaps 2 = .ok (.istore_n 2, 1) := by decide +kernel
theorem dX7_looksAtGaps_3 : decode cX7_looksAtGaps 3 = .ok (.iconst 0, 1) := by decide +kernel
theorem dX7_looksAtGaps_4 : decode cX7_looksAtGaps 4 = .ok (.istore_n 3, 1) := by decide +kernel
theorem dX7_looksAtGaps_5 : decode cX7_looksAtGaps 5 = .ok (.iload_n 3, 1) := by decide +kernel
theorem dX7_looksAtGaps_6 : decode cX7_looksAtGaps 6 = .ok (.aload_n 0, 1) := by decide +kernel
theorem dX7_looksAtGaps_7 : decode cX7_looksAtGaps 7 = .ok (.getfield 7, 3) := by decide +kernel
theorem dX7_looksAtGaps_10 : decode cX7_looksAtGaps 10 = .ok (.iconst 0, 1) := by decide +kernel
theorem dX7_looksAtGaps_11 : decode cX7_looksAtGaps 11 = .ok (.iaload, 1) := by decide +kernel
theorem dX7_looksAtGaps_12 : decode cX7_looksAtGaps 12 = .ok (.if_icmp .ge 123, 3) := by decide +kernel
theorem dX7_looksAtGaps_15 : decode cX7_looksAtGaps 15 = .ok (.iconst 0, 1) := by decide +kernel
theorem dX7_looksAtGaps_16 : decode cX7_looksAtGaps 16 = .ok (.istore 4, 2) := by decide +kernel
theorem dX7_looksAtGaps_18 : decode cX7_looksAtGaps 18 = .ok (.iload 4, 2) := by decide +kernel
theorem dX7_looksAtGaps_20 : decode cX7_looksAtGaps 20 = .ok (.aload_n 0, 1) := by decide +kernel
theorem dX7_looksAtGaps_21 : decode cX7_looksAtGaps 21 = .ok (.getfield 7, 3) := by decide +kernel
theorem dX7_looksAtGaps_24 : decode cX7_looksAtGaps 24 = .ok (.bipush 44, 2) := by decide +kernel
theorem dX7_looksAtGaps_26 : decode cX7_looksAtGaps 26 = .ok (.iload_n 3, 1) := by decide +kernel
theorem dX7_looksAtGaps_27 : decode cX7_looksAtGaps 27 = .ok (.iadd, 1) := by decide +kernel
theorem dX7_looksAtGaps_28 : decode cX7_looksAtGaps 28 = .ok (.iaload, 1) := by decide +kernel
theorem dX7_looksAtGaps_29 : decode cX7_looksAtGaps 29 = .ok (.if_icmp .ge 100, 3) := by decide +kernel
theorem dX7_looksAtGaps_32 : decode cX7_looksAtGaps 32 = .ok (.aload_n 0, 1) := by decide +kernel
theorem dX7_looksAtGaps_33 : decode cX7_looksAtGaps 33 = .ok (.iload_n 3, 1) := by decide +kernel
theorem dX7_looksAtGaps_34 : decode cX7_looksAtGaps 34 = .ok (.iload 4, 2) := by decide +kernel
theorem dX7_looksAtGaps_36 : decode cX7_looksAtGaps 36 = .ok (.invokevirtual 52, 3) := by decide +kernel
theorem dX7_looksAtGaps_39 : decode cX7_looksAtGaps 39 = .ok (.aload_n 0, 1) := by decide +kernel
theorem dX7_looksAtGaps_40 : decode cX7_looksAtGaps 40 = .ok (.iload_n 1, 1) := by decide +kernel
theorem dX7_looksAtGaps_41 : decode cX7_looksAtGaps 41 = .ok (.invokevirtual 37, 3) := by decide +kernel
theorem dX7_looksAtGaps_44 : decode cX7_looksAtGaps 44 = .ok (.isub, 1) := by decide +kernel
theorem dX7_looksAtGaps_45 : decode cX7_looksAtGaps 45 = .ok (.istore 5, 2) := by decide +kernel
theorem dX7_looksAtGaps_47 : decode cX7_looksAtGaps 47 = .ok (.aload_n 0, 1) := by decide +kernel
theorem dX7_looksAtGaps_48 : decode cX7_looksAtGaps 48 = .ok (.iload_n 3, 1) := by decide +kernel
theorem dX7_looksAtGaps_49 : decode cX7_looksAtGaps 49 = .ok (.iload 4, 2) := by decide +kernel
theorem dX7_looksAtGaps_51 : decode cX7_looksAtGaps 51 = .ok (.invokevirtual 61, 3) := by decide +kernel
theorem dX7_looksAtGaps_54 : decode cX7_looksAtGaps 54 = .ok (.iconst 0, 1) := by decide +kernel
theorem dX7_looksAtGaps_55 : decode cX7_looksAtGaps 55 = .ok (.istore 6, 2) := by decide +kernel
theorem dX7_looksAtGaps_57 : decode cX7_looksAtGaps 57 = .ok (.iload 6, 2) := by decide +kernel
theorem dX7_looksAtGaps_59 : decode cX7_looksAtGaps 59 = .ok (.bipush 24, 2) := by decide +kernel
theorem dX7_looksAtGaps_61 : decode cX7_looksAtGaps 61 = .ok (.if_icmp .ge 62, 3) := by decide +kernel
theorem dX7_looksAtGaps_64 : decode cX7_looksAtGaps 64 = .ok (.iload 5, 2) := by decide +kernel
theorem dX7_looksAtGaps_66 : decode cX7_looksAtGaps 66 = .ok (.ifCond .lt 57, 3) := by decide +kernel
theorem dX7_looksAtGaps_69 : decode cX7_looksAtGaps 69 = .ok (.iload 5, 2) := by decide +kernel
theorem dX7_looksAtGaps_71 : decode cX7_looksAtGaps 71 = .ok (.iload_n 2, 1) := by decide +kernel
theorem dX7_looksAtGaps_72 : decode cX7_looksAtGaps 72 = .ok (.if_icmp .ge 51, 3) := by decide +kernel
theorem dX7_looksAtGaps_75 : decode cX7_looksAtGaps 75 = .ok (.aload_n 0, 1) := by decide +kernel
theorem dX7_looksAtGaps_76 : decode cX7_looksAtGaps 76 = .ok (.iload 6, 2) := by decide +kernel
theorem dX7_looksAtGaps_78 : decode cX7_looksAtGaps 78 = .ok (.invokevirtual 65, 3) := by decide +kernel
theorem dX7_looksAtGaps_81 : decode cX7_looksAtGaps 81 = .ok (.iload 6, 2) := by decide +kernel
theorem dX7_looksAtGaps_83 : decode cX7_looksAtGaps 83 = .ok (.isub, 1) := by decide +kernel
theorem dX7_looksAtGaps_84 : decode cX7_looksAtGaps 84 = .ok (.aload_n 0, 1) := by decide +kernel
theorem dX7_looksAtGaps_85 : decode cX7_looksAtGaps 85 = .ok (.iload_n 1, 1) := by decide +kernel
theorem dX7_looksAtGaps_86 : decode cX7_looksAtGaps 86 = .ok (.invokevirtual 33, 3) := by decide +kernel
theorem dX7_looksAtGaps_89 : decode cX7_looksAtGaps 89 = .ok (.if_icmp .lt 28, 3) := by decide +kernel
theorem dX7_looksAtGaps_92 : decode cX7_looksAtGaps 92 = .ok (.iload 5, 2) := by decide +kernel
theorem dX7_looksAtGaps_94 : decode cX7_looksAtGaps 94 = .ok (.istore_n 2, 1) := by decide +kernel
theorem dX7_looksAtGaps_95 : decode cX7_looksAtGaps 95 = .ok (.aload_n 0, 1) := by decide +kernel
theorem dX7_looksAtGaps_96 : decode cX7_looksAtGaps 96 = .ok (.iconst 1, 1) := by decide +kernel
theorem dX7_looksAtGaps_97 : decode cX7_looksAtGaps 97 = .ok (.putfield 68, 3) := by decide +kernel
theorem dX7_looksAtGaps_100 : decode cX7_looksAtGaps 100 = .ok (.aload_n 0, 1) := by decide +kernel
theorem dX7_looksAtGaps_101 : decode cX7_looksAtGaps 101 = .ok (.iload_n 3, 1) := by decide +kernel
theorem dX7_looksAtGaps_102 : decode cX7_looksAtGaps 102 = .ok (.putfield 71, 3) := by decide +kernel
theorem dX7_looksAtGaps_105 : decode cX7_looksAtGaps 105 = .ok (.aload_n 0, 1) := by decide +kernel
theorem dX7_looksAtGaps_106 : decode cX7_looksAtGaps 106 = .ok (.iload 4, 2) := by decide +kernel
theorem dX7_looksAtGaps_108 : decode cX7_looksAtGaps 108 = .ok (.putfield 74, 3) := by decide +kernel
theorem dX7_looksAtGaps_111 : decode cX7_looksAtGaps 111 = .ok (.aload_n 0, 1) := by decide +kernel
theorem dX7_looksAtGaps_112 : decode cX7_looksAtGaps 112 = .ok (.iload 6, 2) := by decide +kernel
theorem dX7_looksAtGaps_114 : decode cX7_looksAtGaps 114 = .ok (.putfield 77, 3) := by decide +kernel
theorem dX7_looksAtGaps_117 : decode cX7_looksAtGaps 117 = .ok (.iinc 6 1, 3) := by decide +kernel
theorem dX7_looksAtGaps_120 : decode cX7_looksAtGaps 120 = .ok (.goto (-63), 3) := by decide +kernel
theorem dX7_looksAtGaps_123 : decode cX7_looksAtGaps 123 = .ok (.iinc 4 1, 3) := by decide +kernel
theorem dX7_looksAtGaps_126 : decode cX7_looksAtGaps 126 = .ok (.goto (-108), 3) := by decide +kernel
theorem dX7_looksAtGaps_129 : decode cX7_looksAtGaps 129 = .ok (.iinc 3 1, 3) := by decide +kernel
theorem dX7_looksAtGaps_132 : decode cX7_looksAtGaps 132 = .ok (.goto (-127), 3) := by decide +kernel
theorem dX7_looksAtGaps_135 : decode cX7_looksAtGaps 135 = .ok (.return_, 1) := by decide +kernel
set_option maxRecDepth 20000 in
theorem ggX7_looksAtTrays_X7_top : GoodIn wsX7_looksAtTrays wsX7_top := goodIn_r _ [10, 11, 12, 13, 9, 14, 1, 19, 20, 21, 22, 23, 24, 25, 26, 27, 28, 29, 30, 31, 32, 33, 34] (by decide +kernel) (by decide +kernel)
set_option maxRecDepth 20000 in
theorem gX7_looksAtTrays_X7_top : GoodIn wsX7_looksAtTrays (wsV RX7 80 RX7 yX7_top wsX7_top) := goodIn_app (goodIn_of _ (by decide +kernel)) ggX7_looksAtTrays_X7_top
set_option maxRecDepth 20000 in
theorem ggX7_looksAtTrays_X7_heightOf : GoodIn wsX7_looksAtTrays wsX7_heightOf := goodIn_r _ [18, 1, 19, 20, 21, 22, 23, 24, 25, 26, 27, 28, 29, 30, 31, 32, 33, 34] (by decide +kernel) (by decide +kernel)
set_option maxRecDepth 20000 in
theorem gX7_looksAtTrays_X7_heightOf : GoodIn wsX7_looksAtTrays (wsV RX7 37 RX7 yX7_heightOf wsX7_heightOf) := goodIn_app (goodIn_of _ (by decide +kernel)) ggX7_looksAtTrays_X7_heightOf
theorem dX7_looksAtTrays_0 : decode cX7_looksAtTrays 0 = .ok (.aload_n 0, 1) := by decide +kernel
theorem dX7_looksAtTrays_1 : decode cX7_looksAtTrays 1 = .ok (.getfield 7, 3) := by decide +kernel
theorem dX7_looksAtTrays_4 : decode cX7_looksAtTrays 4 = .ok (.iconst 0, 1) := by decide +kernel
theorem dX7_looksAtTrays_5 : decode cX7_looksAtTrays 5 = .ok (.iaload, 1) := by decide +kernel
theorem dX7_looksAtTrays_6 : decode cX7_looksAtTrays 6 = .ok (.iconst 1, 1) := by decide +kernel
theorem dX7_looksAtTrays_7 : decode cX7_looksAtTrays 7 = .ok (.isub, 1) := by decide +kernel
theorem dX7_looksAtTrays_8 : decode cX7_looksAtTrays 8 = .ok (.istore_n 2, 1) := by decide +kernel
theorem dX7_looksAtTrays_9 : decode cX7_looksAtTrays 9 = .ok (.iload_n 2, 1) := by decide +kernel
theorem dX7_looksAtTrays_10 : decode cX7_looksAtTrays 10 = .ok (.ifCond .lt 62, 3) := by decide +kernel
theorem dX7_looksAtTrays_13 : decode cX7_looksAtTrays 13 = .ok (.aload_n 0, 1) := by decide +kernel
theorem dX7_looksAtTrays_14 : decode cX7_looksAtTrays 14 = .ok (.iload_n 2, 1) := by decide +kernel
theorem dX7_looksAtTrays_15 : decode cX7_looksAtTrays 15 = .ok (.aload_n 0, 1) := by decide +kernel
theorem dX7_looksAtTrays_16 : decode cX7_looksAtTrays 16 = .ok (.getfield 7, 3) := by decide +kernel
theorem dX7_looksAtTrays_19 : decode cX7_looksAtTrays 19 = .ok (.bipush 44, 2) := by decide +kernel
theorem dX7_looksAtTrays_21 : decode cX7_looksAtTrays 21 = .ok (.iload_n 2, 1) := by decide +kernel
theorem dX7_looksAtTrays_22 : decode cX7_looksAtTrays 22 = .ok (.iadd, 1) := by decide +kernel
theorem dX7_looksAtTrays_23 : decode cX7_looksAtTrays 23 = .ok (.iaload, 1) := by decide +kernel
theorem dX7_looksAtTrays_24 : decode cX7_looksAtTrays 24 = .ok (.invokevirtual 80, 3) := by decide +kernel
theorem dX7_looksAtTrays_27 : decode cX7_looksAtTrays 27 = .ok (.aload_n 0, 1) := by decide +kernel
theorem dX7_looksAtTrays_28 : decode cX7_looksAtTrays 28 = .ok (.iload_n 1, 1) := by decide +kernel
theorem dX7_looksAtTrays_29 : decode cX7_looksAtTrays 29 = .ok (.invokevirtual 37, 3) := by decide +kernel
theorem dX7_looksAtTrays_32 : decode cX7_looksAtTrays 32 = .ok (.iadd, 1) := by decide +kernel
theorem dX7_looksAtTrays_33 : decode cX7_looksAtTrays 33 = .ok (.bipush 24, 2) := by decide +kernel
theorem dX7_looksAtTrays_35 : decode cX7_looksAtTrays 35 = .ok (.if_icmp .gt 31, 3) := by decide +kernel
theorem dX7_looksAtTrays_38 : decode cX7_looksAtTrays 38 = .ok (.aload_n 0, 1) := by decide +kernel
theorem dX7_looksAtTrays_39 : decode cX7_looksAtTrays 39 = .ok (.iconst 2, 1) := by decide +kernel
theorem dX7_looksAtTrays_40 : decode cX7_looksAtTrays 40 = .ok (.putfield 68, 3) := by decide +kernel
theorem dX7_looksAtTrays_43 : decode cX7_looksAtTrays 43 = .ok (.aload_n 0, 1) := by decide +kernel
theorem dX7_looksAtTrays_44 : decode cX7_looksAtTrays 44 = .ok (.iload_n 2, 1) := by decide +kernel
theorem dX7_looksAtTrays_45 : decode cX7_looksAtTrays 45 = .ok (.putfield 71, 3) := by decide +kernel
theorem dX7_looksAtTrays_48 : decode cX7_looksAtTrays 48 = .ok (.aload_n 0, 1) := by decide +kernel
theorem dX7_looksAtTrays_49 : decode cX7_looksAtTrays 49 = .ok (.aload_n 0, 1) := by decide +kernel
theorem dX7_looksAtTrays_50 : decode cX7_looksAtTrays 50 = .ok (.getfield 7, 3) := by decide +kernel
theorem dX7_looksAtTrays_53 : decode cX7_looksAtTrays 53 = .ok (.bipush 44, 2) := by decide +kernel
theorem dX7_looksAtTrays_55 : decode cX7_looksAtTrays 55 = .ok (.iload_n 2, 1) := by decide +kernel
theorem dX7_looksAtTrays_56 : decode cX7_looksAtTrays 56 = .ok (.iadd, 1) := by decide +kernel
theorem dX7_looksAtTrays_57 : decode cX7_looksAtTrays 57 = .ok (.iaload, 1) := by decide +kernel
theorem dX7_looksAtTrays_58 : decode cX7_looksAtTrays 58 = .ok (.putfield 74, 3) := by decide +kernel
theorem dX7_looksAtTrays_61 : decode cX7_looksAtTrays 61 = .ok (.aload_n 0, 1) := by decide +kernel
theorem dX7_looksAtTrays_62 : decode cX7_looksAtTrays 62 = .ok (.iconst 0, 1) := by decide +kernel
theorem dX7_looksAtTrays_63 : decode cX7_looksAtTrays 63 = .ok (.putfield 77, 3) := by decide +kernel
theorem dX7_looksAtTrays_66 : decode cX7_looksAtTrays 66 = .ok (.iinc 2 (-1), 3) := by decide +kernel
theorem dX7_looksAtTrays_69 : decode cX7_looksAtTrays 69 = .ok (.goto (-60), 3) := by decide +kernel
theorem dX7_looksAtTrays_72 : decode cX7_looksAtTrays 72 = .ok (.return_, 1) := by decide +kernel
set_option maxRecDepth 20000 in
theorem ggX7_looksAtShelves_X7_latestOn : GoodIn wsX7_looksAtShelves wsX7_latestOn := goodIn_r _ [11, 12, 13, 14, 10, 15, 16, 17, 18, 19, 1, 44, 45, 46, 47, 48, 49, 50, 51, 52, 53, 54, 55, 56, 57, 58, 59] (by decide +kernel) (by decide +kernel)
set_option maxRecDepth 20000 in
theorem gX7_looksAtShelves_X7_latestOn : GoodIn wsX7_looksAtShelves (wsV RX7 83 RX7 yX7_latestOn wsX7_latestOn) := goodIn_app (goodIn_of _ (by decide +kernel)) ggX7_looksAtShelves_X7_latestOn
set_option maxRecDepth 20000 in
theorem ggX7_looksAtShelves_X7_tall : GoodIn wsX7_looksAtShelves wsX7_tall := goodIn_r _ [23, 1, 44, 45, 46, 47, 48, 49, 50, 51, 52, 53, 54, 55, 56, 57, 58, 59] (by decide +kernel) (by decide +kernel)
set_option maxRecDepth 20000 in
theorem gX7_looksAtShelves_X7_tall : GoodIn wsX7_looksAtShelves (wsV RX7 52 RX7 yX7_tall wsX7_tall) := goodIn_app (goodIn_of _ (by decide +kernel)) ggX7_looksAtShelves_X7_tall
set_option maxRecDepth 20000 in
theorem ggX7_looksAtShelves_X7_heightOf : GoodIn wsX7_looksAtShelves wsX7_heightOf := goodIn_r _ [27, 1, 44, 45, 46, 47, 48, 49, 50, 51, 52, 53, 54, 55, 56, 57, 58, 59] (by decide +kernel) (by decide +kernel)
set_option maxRecDepth 20000 in
theorem gX7_looksAtShelves_X7_heightOf : GoodIn wsX7_looksAtShelves (wsV RX7 37 RX7 yX7_heightOf wsX7_heightOf) := goodIn_app (goodIn_of _ (by decide +kernel)) ggX7_looksAtShelves_X7_heightOf
set_option maxRecDepth 20000 in
theorem ggX7_looksAtShelves_X7_isNowOn : GoodIn wsX7_looksAtShelves wsX7_isNowOn := goodIn_r _ [31, 12, 13, 14, 10, 15, 16, 17, 18, 19, 1, 32, 33, 34, 35, 36, 37, 38, 39, 44, 45, 46, 47, 48, 49, 50, 51, 52, 53, 54, 55, 56, 57, 58, 59] (by decide +kernel) (by decide +kernel)
set_option maxRecDepth 20000 in
theorem gX7_looksAtShelves_X7_isNowOn : GoodIn wsX7_looksAtShelves (wsV RX7 86 RX7 yX7_isNowOn wsX7_isNowOn) := goodIn_app (goodIn_of _ (by decide +kernel)) ggX7_looksAtShelves_X7_isNowOn
set_option maxRecDepth 20000 in
theorem ggX7_looksAtShelves_X7_lettersOn : GoodIn wsX7_looksAtShelves wsX7_lettersOn := goodIn_r _ [43, 12, 13, 14, 10, 15, 16, 17, 18, 19, 1, 44, 45, 46, 47, 48, 49, 50, 51, 52, 53, 54, 55, 56, 57, 58, 59] (by decide +kernel) (by decide +kernel)
set_option maxRecDepth 20000 in
theorem gX7_looksAtShelves_X7_lettersOn : GoodIn wsX7_looksAtShelves (wsV RX7 90 RX7 yX7_lettersOn wsX7_lettersOn) := goodIn_app (goodIn_of _ (by decide +kernel)) ggX7_looksAtShelves_X7_lettersOn
theorem dX7_looksAtShelves_0 : decode cX7_looksAtShelves 0 = .ok (.iconst 0, 1) := by decide +kernel
theorem dX7_looksAtShelves_1 : decode cX7_looksAtShelves 1 = .ok (.istore_n 2, 1) := by decide +kernel
theorem dX7_looksAtShelves_2 : decode cX7_looksAtShelves 2 = .ok (.iconst 0, 1) := by decide +kernel
theorem dX7_looksAtShelves_3 : decode cX7_looksAtShelves 3 = .ok (.istore_n 3, 1) := by decide +kernel
theorem dX7_looksAtShelves_4 : decode cX7_looksAtShelves 4 = .ok (.iload_n 3, 1) := by decide +kernel
theorem dX7_looksAtShelves_5 : decode cX7_looksAtShelves 5 = .ok (.aload_n 0, 1) := by decide +kernel
theorem dX7_looksAtShelves_6 : decode cX7_looksAtShelves 6 = .ok (.getfield 7, 3) := by decide +kernel
theorem dX7_looksAtShelves_9 : decode cX7_looksAtShelves 9 = .ok (.iconst 0, 1) := by decide +kernel
theorem dX7_looksAtShelves_10 : decode cX7_looksAtShelves 10 = .ok (.iaload, 1) := by decide +kernel
theorem dX7_looksAtShelves_11 : decode cX7_looksAtShelves 11 = .ok (.if_icmp .ge 127, 3) := by decide +kernel
theorem dX7_looksAtShelves_14 : decode cX7_looksAtShelves 14 = .ok (.iconst 0, 1) := by decide +kernel
theorem dX7_looksAtShelves_15 : decode cX7_looksAtShelves 15 = .ok (.istore 4, 2) := by decide +kernel
theorem dX7_looksAtShelves_17 : decode cX7_looksAtShelves 17 = .ok (.iload 4, 2) := by decide +kernel
theorem dX7_looksAtShelves_19 : decode cX7_looksAtShelves 19 = .ok (.aload_n 0, 1) := by decide +kernel
theorem dX7_looksAtShelves_20 : decode cX7_looksAtShelves 20 = .ok (.getfield 7, 3) := by decide +kernel
theorem dX7_looksAtShelves_23 : decode cX7_looksAtShelves 23 = .ok (.bipush 44, 2) := by decide +kernel
theorem dX7_looksAtShelves_25 : decode cX7_looksAtShelves 25 = .ok (.iload_n 3, 1) := by decide +kernel
theorem dX7_looksAtShelves_26 : decode cX7_looksAtShelves 26 = .ok (.iadd, 1) := by decide +kernel
theorem dX7_looksAtShelves_27 : decode cX7_looksAtShelves 27 = .ok (.iaload, 1) := by decide +kernel
theorem dX7_looksAtShelves_28 : decode cX7_looksAtShelves 28 = .ok (.if_icmp .ge 104, 3) := by decide +kernel
theorem dX7_looksAtShelves_31 : decode cX7_looksAtShelves 31 = .ok (.aload_n 0, 1) := by decide +kernel
theorem dX7_looksAtShelves_32 : decode cX7_looksAtShelves 32 = .ok (.iload_n 3, 1) := by decide +kernel
theorem dX7_looksAtShelves_33 : decode cX7_looksAtShelves 33 = .ok (.iload 4, 2) := by decide +kernel
theorem dX7_looksAtShelves_35 : decode cX7_looksAtShelves 35 = .ok (.invokevirtual 83, 3) := by decide +kernel
theorem dX7_looksAtShelves_38 : decode cX7_looksAtShelves 38 = .ok (.istore 5, 2) := by decide +kernel
theorem dX7_looksAtShelves_40 : decode cX7_looksAtShelves 40 = .ok (.aload_n 0, 1) := by decide +kernel
theorem dX7_looksAtShelves_41 : decode cX7_looksAtShelves 41 = .ok (.iload_n 3, 1) := by decide +kernel
theorem dX7_looksAtShelves_42 : decode cX7_looksAtShelves 42 = .ok (.iload 4, 2) := by decide +kernel
theorem dX7_looksAtShelves_44 : decode cX7_looksAtShelves 44 = .ok (.invokevirtual 52, 3) := by decide +kernel
theorem dX7_looksAtShelves_47 : decode cX7_looksAtShelves 47 = .ok (.aload_n 0, 1) := by decide +kernel
theorem dX7_looksAtShelves_48 : decode cX7_looksAtShelves 48 = .ok (.iload_n 1, 1) := by decide +kernel
theorem dX7_looksAtShelves_49 : decode cX7_looksAtShelves 49 = .ok (.invokevirtual 37, 3) := by decide +kernel
theorem dX7_looksAtShelves_52 : decode cX7_looksAtShelves 52 = .ok (.if_icmp .lt 17, 3) := by decide +kernel
theorem dX7_looksAtShelves_55 : decode cX7_looksAtShelves 55 = .ok (.aload_n 0, 1) := by decide +kernel
theorem dX7_looksAtShelves_56 : decode cX7_looksAtShelves 56 = .ok (.iload_n 3, 1) := by decide +kernel
theorem dX7_looksAtShelves_57 : decode cX7_looksAtShelves 57 = .ok (.iload 4, 2) := by decide +kernel
theorem dX7_looksAtShelves_59 : decode cX7_looksAtShelves 59 = .ok (.invokevirtual 86, 3) := by decide +kernel
theorem dX7_looksAtShelves_62 : decode cX7_looksAtShelves 62 = .ok (.ifCond .ne 7, 3) := by decide +kernel
theorem dX7_looksAtShelves_65 : decode cX7_looksAtShelves 65 = .ok (.iconst 1, 1) := by decide +kernel
theorem dX7_looksAtShelves_66 : decode cX7_looksAtShelves 66 = .ok (.goto 4, 3) := by decide +kernel
theorem dX7_looksAtShelves_69 : decode cX7_looksAtShelves 69 = .ok (.iconst 0, 1) := by decide +kernel
theorem dX7_looksAtShelves_70 : decode cX7_looksAtShelves 70 = .ok (.istore 6, 2) := by decide +kernel
theorem dX7_looksAtShelves_72 : decode cX7_looksAtShelves 72 = .ok (.iload 6, 2) := by decide +kernel
theorem dX7_looksAtShelves_74 : decode cX7_looksAtShelves 74 = .ok (.ifCond .eq 52, 3) := by decide +kernel
theorem dX7_looksAtShelves_77 : decode cX7_looksAtShelves 77 = .ok (.aload_n 0, 1) := by decide +kernel
theorem dX7_looksAtShelves_78 : decode cX7_looksAtShelves 78 = .ok (.getfield 68, 3) := by decide +kernel
theorem dX7_looksAtShelves_81 : decode cX7_looksAtShelves 81 = .ok (.iconst (-1), 1) := by decide +kernel
theorem dX7_looksAtShelves_82 : decode cX7_looksAtShelves 82 = .ok (.if_icmp .eq 9, 3) := by decide +kernel
theorem dX7_looksAtShelves_85 : decode cX7_looksAtShelves 85 = .ok (.iload 5, 2) := by decide +kernel
theorem dX7_looksAtShelves_87 : decode cX7_looksAtShelves 87 = .ok (.iload_n 2, 1) := by decide +kernel
theorem dX7_looksAtShelves_88 : decode cX7_looksAtShelves 88 = .ok (.if_icmp .ge 38, 3) := by decide +kernel
theorem dX7_looksAtShelves_91 : decode cX7_looksAtShelves 91 = .ok (.iload 5, 2) := by decide +kernel
theorem dX7_looksAtShelves_93 : decode cX7_looksAtShelves 93 = .ok (.istore_n 2, 1) := by decide +kernel
theorem dX7_looksAtShelves_94 : decode cX7_looksAtShelves 94 = .ok (.aload_n 0, 1) := by decide +kernel
theorem dX7_looksAtShelves_95 : decode cX7_looksAtShelves 95 = .ok (.iconst 3, 1) := by decide +kernel
theorem dX7_looksAtShelves_96 : decode cX7_looksAtShelves 96 = .ok (.putfield 68, 3) := by decide +kernel
theorem dX7_looksAtShelves_99 : decode cX7_looksAtShelves 99 = .ok (.aload_n 0, 1) := by decide +kernel
theorem dX7_looksAtShelves_100 : decode cX7_looksAtShelves 100 = .ok (.iload_n 3, 1) := by decide +kernel
theorem dX7_looksAtShelves_101 : decode cX7_looksAtShelves 101 = .ok (.putfield 71, 3) := by decide +kernel
theorem dX7_looksAtShelves_104 : decode cX7_looksAtShelves 104 = .ok (.aload_n 0, 1) := by decide +kernel
theorem dX7_looksAtShelves_105 : decode cX7_looksAtShelves 105 = .ok (.iload 4, 2) := by decide +kernel
theorem dX7_looksAtShelves_107 : decode cX7_looksAtShelves 107 = .ok (.putfield 74, 3) := by decide +kernel
theorem dX7_looksAtShelves_110 : decode cX7_looksAtShelves 110 = .ok (.aload_n 0, 1) := by decide +kernel
theorem dX7_looksAtShelves_111 : decode cX7_looksAtShelves 111 = .ok (.iconst 0, 1) := by decide +kernel
theorem dX7_looksAtShelves_112 : decode cX7_looksAtShelves 112 = .ok (.putfield 77, 3) := by decide +kernel
theorem dX7_looksAtShelves_115 : decode cX7_looksAtShelves 115 = .ok (.aload_n 0, 1) := by decide +kernel
theorem dX7_looksAtShelves_116 : decode cX7_looksAtShelves 116 = .ok (.aload_n 0, 1) := by decide +kernel
theorem dX7_looksAtShelves_117 : decode cX7_looksAtShelves 117 = .ok (.iload_n 3, 1) := by decide +kernel
theorem dX7_looksAtShelves_118 : decode cX7_looksAtShelves 118 = .ok (.iload 4, 2) := by decide +kernel
theorem dX7_looksAtShelves_120 : decode cX7_looksAtShelves 120 = .ok (.invokevirtual 90, 3) := by decide +kernel
theorem dX7_looksAtShelves_123 : decode cX7_looksAtShelves 123 = .ok (.putfield 93, 3) := by decide +kernel
theorem dX7_looksAtShelves_126 : decode cX7_looksAtShelves 126 = .ok (.iinc 4 1, 3) := by decide +kernel
theorem dX7_looksAtShelves_129 : decode cX7_looksAtShelves 129 = .ok (.goto (-112), 3) := by decide +kernel
theorem dX7_looksAtShelves_132 : decode cX7_looksAtShelves 132 = .ok (.iinc 3 1, 3) := by decide +kernel
theorem dX7_looksAtShelves_135 : decode cX7_looksAtShelves 135 = .ok (.goto (-131), 3) := by decide +kernel
theorem dX7_looksAtShelves_138 : decode cX7_looksAtShelves 138 = .ok (.return_, 1) := by decide +kernel
set_option maxRecDepth 20000 in
theorem ggX7_looksAtStreet_X7_isNow : GoodIn wsX7_looksAtStreet wsX7_isNow := goodIn_r _ [9, 1, 10, 11, 12, 8, 13, 14, 15, 16, 17, 18, 19, 20, 21, 22, 23, 24, 25, 26, 27, 28, 29, 30, 31, 32, 33] (by decide +kernel) (by decide +kernel)
set_option maxRecDepth 20000 in
theorem gX7_looksAtStreet_X7_isNow : GoodIn wsX7_looksAtStreet (wsV RX7 58 RX7 yX7_isNow wsX7_isNow) := goodIn_app (goodIn_of _ (by decide +kernel)) ggX7_looksAtStreet_X7_isNow
set_option maxRecDepth 20000 in
theorem ggX7_looksAtStreet_X7_of : GoodIn wsX7_looksAtStreet wsX7_of := goodIn_r _ [17, 1, 18, 19, 20, 21, 22, 23, 24, 25, 26, 27, 28, 29, 30, 31, 32, 33] (by decide +kernel) (by decide +kernel)
set_option maxRecDepth 20000 in
theorem gX7_looksAtStreet_X7_of : GoodIn wsX7_looksAtStreet (wsV RX7 40 RX7 yX7_of wsX7_of) := goodIn_app (goodIn_of _ (by decide +kernel)) ggX7_looksAtStreet_X7_of
theorem dX7_looksAtStreet_0 : decode cX7_looksAtStreet 0 = .ok (.aload_n 0, 1) := by decide +kernel
theorem dX7_looksAtStreet_1 : decode cX7_looksAtStreet 1 = .ok (.getfield 7, 3) := by decide +kernel
theorem dX7_looksAtStreet_4 : decode cX7_looksAtStreet 4 = .ok (.bipush 7, 2) := by decide +kernel
theorem dX7_looksAtStreet_6 : decode cX7_looksAtStreet 6 = .ok (.iaload, 1) := by decide +kernel
theorem dX7_looksAtStreet_7 : decode cX7_looksAtStreet 7 = .ok (.iconst 4, 1) := by decide +kernel
theorem dX7_looksAtStreet_8 : decode cX7_looksAtStreet 8 = .ok (.if_icmp .ge 9, 3) := by decide +kernel
theorem dX7_looksAtStreet_11 : decode cX7_looksAtStreet 11 = .ok (.aload_n 0, 1) := by decide +kernel
theorem dX7_looksAtStreet_12 : decode cX7_looksAtStreet 12 = .ok (.iconst 4, 1) := by decide +kernel
theorem dX7_looksAtStreet_13 : decode cX7_looksAtStreet 13 = .ok (.putfield 68, 3) := by decide +kernel
theorem dX7_looksAtStreet_16 : decode cX7_looksAtStreet 16 = .ok (.return_, 1) := by decide +kernel
theorem dX7_looksAtStreet_17 : decode cX7_looksAtStreet 17 = .ok (.iconst 0, 1) := by decide +kernel
theorem dX7_looksAtStreet_18 : decode cX7_looksAtStreet 18 = .ok (.istore_n 1, 1) := by decide +kernel
theorem dX7_looksAtStreet_19 : decode cX7_looksAtStreet 19 = .ok (.iload_n 1, 1) := by decide +kernel
theorem dX7_looksAtStreet_20 : decode cX7_looksAtStreet 20 = .ok (.iconst 4, 1) := by decide +kernel
theorem dX7_looksAtStreet_21 : decode cX7_looksAtStreet 21 = .ok (.if_icmp .ge 68, 3) := by decide +kernel
theorem dX7_looksAtStreet_24 : decode cX7_looksAtStreet 24 = .ok (.aload_n 0, 1) := by decide +kernel
theorem dX7_looksAtStreet_25 : decode cX7_looksAtStreet 25 = .ok (.getfield 7, 3) := by decide +kernel
theorem dX7_looksAtStreet_28 : decode cX7_looksAtStreet 28 = .ok (.bipush 8, 2) := by decide +kernel
theorem dX7_looksAtStreet_30 : decode cX7_looksAtStreet 30 = .ok (.iload_n 1, 1) := by decide +kernel
theorem dX7_looksAtStreet_31 : decode cX7_looksAtStreet 31 = .ok (.iadd, 1) := by decide +kernel
theorem dX7_looksAtStreet_32 : decode cX7_looksAtStreet 32 = .ok (.iaload, 1) := by decide +kernel
theorem dX7_looksAtStreet_33 : decode cX7_looksAtStreet 33 = .ok (.istore_n 2, 1) := by decide +kernel
theorem dX7_looksAtStreet_34 : decode cX7_looksAtStreet 34 = .ok (.aload_n 0, 1) := by decide +kernel
theorem dX7_looksAtStreet_35 : decode cX7_looksAtStreet 35 = .ok (.iload_n 2, 1) := by decide +kernel
theorem dX7_looksAtStreet_36 : decode cX7_looksAtStreet 36 = .ok (.invokevirtual 58, 3) := by decide +kernel
theorem dX7_looksAtStreet_39 : decode cX7_looksAtStreet 39 = .ok (.ifCond .ne 44, 3) := by decide +kernel
theorem dX7_looksAtStreet_42 : decode cX7_looksAtStreet 42 = .ok (.aload_n 0, 1) := by decide +kernel
theorem dX7_looksAtStreet_43 : decode cX7_looksAtStreet 43 = .ok (.getfield 96, 3) := by decide +kernel
theorem dX7_looksAtStreet_46 : decode cX7_looksAtStreet 46 = .ok (.iconst (-1), 1) := by decide +kernel
theorem dX7_looksAtStreet_47 : decode cX7_looksAtStreet 47 = .ok (.if_icmp .eq 21, 3) := by decide +kernel
theorem dX7_looksAtStreet_50 : decode cX7_looksAtStreet 50 = .ok (.aload_n 0, 1) := by decide +kernel
theorem dX7_looksAtStreet_51 : decode cX7_looksAtStreet 51 = .ok (.iload_n 2, 1) := by decide +kernel
theorem dX7_looksAtStreet_52 : decode cX7_looksAtStreet 52 = .ok (.iconst 3, 1) := by decide +kernel
theorem dX7_looksAtStreet_53 : decode cX7_looksAtStreet 53 = .ok (.invokevirtual 40, 3) := by decide +kernel
theorem dX7_looksAtStreet_56 : decode cX7_looksAtStreet 56 = .ok (.aload_n 0, 1) := by decide +kernel
theorem dX7_looksAtStreet_57 : decode cX7_looksAtStreet 57 = .ok (.aload_n 0, 1) := by decide +kernel
theorem dX7_looksAtStreet_58 : decode cX7_looksAtStreet 58 = .ok (.getfield 96, 3) := by decide +kernel
theorem dX7_looksAtStreet_61 : decode cX7_looksAtStreet 61 = .ok (.iconst 3, 1) := by decide +kernel
theorem dX7_looksAtStreet_62 : decode cX7_looksAtStreet 62 = .ok (.invokevirtual 40, 3) := by decide +kernel
theorem dX7_looksAtStreet_65 : decode cX7_looksAtStreet 65 = .ok (.if_icmp .ge 18, 3) := by decide +kernel
theorem dX7_looksAtStreet_68 : decode cX7_looksAtStreet 68 = .ok (.aload_n 0, 1) := by decide +kernel
theorem dX7_looksAtStreet_69 : decode cX7_looksAtStreet 69 = .ok (.iload_n 2, 1) := by decide +kernel
theorem dX7_looksAtStreet_70 : decode cX7_looksAtStreet 70 = .ok (.putfield 96, 3) := by decide +kernel
theorem dX7_looksAtStreet_73 : decode cX7_looksAtStreet 73 = .ok (.aload_n 0, 1) := by decide +kernel
theorem dX7_looksAtStreet_74 : decode cX7_looksAtStreet 74 = .ok (.iconst 4, 1) := by decide +kernel
theorem dX7_looksAtStreet_75 : decode cX7_looksAtStreet 75 = .ok (.putfield 68, 3) := by decide +kernel
theorem dX7_looksAtStreet_78 : decode cX7_looksAtStreet 78 = .ok (.aload_n 0, 1) := by decide +kernel
theorem dX7_looksAtStreet_79 : decode cX7_looksAtStreet 79 = .ok (.iconst 1, 1) := by decide +kernel
theorem dX7_looksAtStreet_80 : decode cX7_looksAtStreet 80 = .ok (.putfield 93, 3) := by decide +kernel
theorem dX7_looksAtStreet_83 : decode cX7_looksAtStreet 83 = .ok (.iinc 1 1, 3) := by decide +kernel
theorem dX7_looksAtStreet_86 : decode cX7_looksAtStreet 86 = .ok (.goto (-67), 3) := by decide +kernel
theorem dX7_looksAtStreet_89 : decode cX7_looksAtStreet 89 = .ok (.return_, 1) := by decide +kernel
set_option maxRecDepth 20000 in
theorem ggX7_looks_X7_is : GoodIn wsX7_looks wsX7_is := goodIn_r _ [8, 9, 10, 11, 7, 12, 13, 78, 79, 80, 81, 82, 83, 84, 85, 86, 87, 88, 89, 90, 91, 92, 93] (by decide +kernel) (by decide +kernel)
set_option maxRecDepth 20000 in
theorem gX7_looks_X7_is : GoodIn wsX7_looks (wsV RX7 48 RX7 yX7_is wsX7_is) := goodIn_app (goodIn_of _ (by decide +kernel)) ggX7_looks_X7_is
set_option maxRecDepth 20000 in
theorem ggX7_looks_X7_looksAtGaps : GoodIn wsX7_looks wsX7_looksAtGaps := goodIn_r _ [17, 13, 1, 18, 19, 20, 21, 22, 23, 7, 24, 25, 26, 27, 28, 29, 30, 31, 32, 33, 34, 35, 36, 37, 38, 39, 40, 41, 9, 10, 11, 12, 42, 43, 44, 45, 78, 79, 80, 81, 82, 83, 84, 85, 86, 87, 88, 89, 90, 91, 92, 93] (by decide +kernel) (by decide +kernel)
set_option maxRecDepth 20000 in
theorem gX7_looks_X7_looksAtGaps : GoodIn wsX7_looks (wsV RX7 99 RX7 yX7_looksAtGaps wsX7_looksAtGaps) := goodIn_app (goodIn_of _ (by decide +kernel)) ggX7_looks_X7_looksAtGaps
set_option maxRecDepth 20000 in
theorem ggX7_looks_X7_looksAtTrays : GoodIn wsX7_looks wsX7_looksAtTrays := goodIn_r _ [49, 13, 1, 18, 19, 20, 50, 51, 52, 7, 53, 21, 22, 23, 24, 25, 26, 27, 28, 78, 79, 80, 81, 82, 83, 84, 85, 86, 87, 88, 89, 90, 91, 92, 93] (by decide +kernel) (by decide +kernel)
set_option maxRecDepth 20000 in
theorem gX7_looks_X7_looksAtTrays : GoodIn wsX7_looks (wsV RX7 103 RX7 yX7_looksAtTrays wsX7_looksAtTrays) := goodIn_app (goodIn_of _ (by decide +kernel)) ggX7_looks_X7_looksAtTrays
set_option maxRecDepth 20000 in
theorem ggX7_looks_X7_looksAtShelves : GoodIn wsX7_looks wsX7_looksAtShelves := goodIn_r _ [57, 13, 1, 18, 19, 20, 3, 58, 59, 60, 7, 61, 38, 39, 40, 41, 9, 10, 11, 12, 21, 22, 23, 24, 25, 26, 27, 28, 62, 63, 64, 65, 66, 67, 68, 69, 4, 5, 6, 8, 70, 71, 72, 73, 78, 79, 80, 81, 82, 83, 84, 85, 86, 87, 88, 89, 90, 91, 92, 93] (by decide +kernel) (by decide +kernel)
set_option maxRecDepth 20000 in
theorem gX7_looks_X7_looksAtShelves : GoodIn wsX7_looks (wsV RX7 106 RX7 yX7_looksAtShelves wsX7_looksAtShelves) := goodIn_app (goodIn_of _ (by decide +kernel)) ggX7_looks_X7_looksAtShelves
set_option maxRecDepth 20000 in
theorem ggX7_looks_X7_looksAtStreet : GoodIn wsX7_looks wsX7_looksAtStreet := goodIn_r _ [77, 13, 1, 2, 3, 66, 67, 68, 7, 69, 4, 5, 6, 8, 9, 10, 11, 12, 78, 79, 80, 81, 82, 83, 84, 85, 86, 87, 88, 89, 90, 91, 92, 93] (by decide +kernel) (by decide +kernel)
set_option maxRecDepth 20000 in
theorem gX7_looks_X7_looksAtStreet : GoodIn wsX7_looks (wsV RX7 109 RX7 yX7_looksAtStreet wsX7_looksAtStreet) := goodIn_app (goodIn_of _ (by decide +kernel)) ggX7_looks_X7_looksAtStreet
theorem dX7_looks_0 : decode cX7_looks 0 = .ok (.aload_n 0, 1) := by decide +kernel
theorem dX7_looks_1 : decode cX7_looks 1 = .ok (.aload_n 0, 1) := by decide +kernel
theorem dX7_looks_2 : decode cX7_looks 2 = .ok (.iload_n 1, 1) := by decide +kernel
theorem dX7_looks_3 : decode cX7_looks 3 = .ok (.invokevirtual 48, 3) := by decide +kernel
theorem dX7_looks_6 : decode cX7_looks 6 = .ok (.ifCond .eq 7, 3) := by decide +kernel
theorem dX7_looks_9 : decode cX7_looks 9 = .ok (.iconst 0, 1) := by decide +kernel
theorem dX7_looks_10 : decode cX7_looks 10 = .ok (.goto 4, 3) := by decide +kernel
theorem dX7_looks_13 : decode cX7_looks 13 = .ok (.iconst (-1), 1) := by decide +kernel
theorem dX7_looks_14 : decode cX7_looks 14 = .ok (.putfield 68, 3) := by decide +kernel
theorem dX7_looks_17 : decode cX7_looks 17 = .ok (.aload_n 0, 1) := by decide +kernel
theorem dX7_looks_18 : decode cX7_looks 18 = .ok (.iconst (-1), 1) := by decide +kernel
theorem dX7_looks_19 : decode cX7_looks 19 = .ok (.putfield 96, 3) := by decide +kernel
theorem dX7_looks_22 : decode cX7_looks 22 = .ok (.aload_n 0, 1) := by decide +kernel
theorem dX7_looks_23 : decode cX7_looks 23 = .ok (.iconst 0, 1) := by decide +kernel
theorem dX7_looks_24 : decode cX7_looks 24 = .ok (.putfield 93, 3) := by decide +kernel
theorem dX7_looks_27 : decode cX7_looks 27 = .ok (.aload_n 0, 1) := by decide +kernel
theorem dX7_looks_28 : decode cX7_looks 28 = .ok (.getfield 68, 3) := by decide +kernel
theorem dX7_looks_31 : decode cX7_looks 31 = .ok (.iconst (-1), 1) := by decide +kernel
theorem dX7_looks_32 : decode cX7_looks 32 = .ok (.if_icmp .ne 8, 3) := by decide +kernel
theorem dX7_looks_35 : decode cX7_looks 35 = .ok (.aload_n 0, 1) := by decide +kernel
theorem dX7_looks_36 : decode cX7_looks 36 = .ok (.iload_n 1, 1) := by decide +kernel
theorem dX7_looks_37 : decode cX7_looks 37 = .ok (.invokevirtual 99, 3) := by decide +kernel
theorem dX7_looks_40 : decode cX7_looks 40 = .ok (.aload_n 0, 1) := by decide +kernel
theorem dX7_looks_41 : decode cX7_looks 41 = .ok (.getfield 68, 3) := by decide +kernel
theorem dX7_looks_44 : decode cX7_looks 44 = .ok (.iconst (-1), 1) := by decide +kernel
theorem dX7_looks_45 : decode cX7_looks 45 = .ok (.if_icmp .ne 8, 3) := by decide +kernel
theorem dX7_looks_48 : decode cX7_looks 48 = .ok (.aload_n 0, 1) := by decide +kernel
theorem dX7_looks_49 : decode cX7_looks 49 = .ok (.iload_n 1, 1) := by decide +kernel
theorem dX7_looks_50 : decode cX7_looks 50 = .ok (.invokevirtual 103, 3) := by decide +kernel
theorem dX7_looks_53 : decode cX7_looks 53 = .ok (.aload_n 0, 1) := by decide +kernel
theorem dX7_looks_54 : decode cX7_looks 54 = .ok (.getfield 68, 3) := by decide +kernel
theorem dX7_looks_57 : decode cX7_looks 57 = .ok (.iconst (-1), 1) := by decide +kernel
theorem dX7_looks_58 : decode cX7_looks 58 = .ok (.if_icmp .ne 8, 3) := by decide +kernel
theorem dX7_looks_61 : decode cX7_looks 61 = .ok (.aload_n 0, 1) := by decide +kernel
theorem dX7_looks_62 : decode cX7_looks 62 = .ok (.iload_n 1, 1) := by decide +kernel
theorem dX7_looks_63 : decode cX7_looks 63 = .ok (.invokevirtual 106, 3) := by decide +kernel
theorem dX7_looks_66 : decode cX7_looks 66 = .ok (.aload_n 0, 1) := by decide +kernel
theorem dX7_looks_67 : decode cX7_looks 67 = .ok (.getfield 68, 3) := by decide +kernel
theorem dX7_looks_70 : decode cX7_looks 70 = .ok (.iconst (-1), 1) := by decide +kernel
theorem dX7_looks_71 : decode cX7_looks 71 = .ok (.if_icmp .ne 7, 3) := by decide +kernel
theorem dX7_looks_74 : decode cX7_looks 74 = .ok (.aload_n 0, 1) := by decide +kernel
theorem dX7_looks_75 : decode cX7_looks 75 = .ok (.invokevirtual 109, 3) := by decide +kernel
theorem dX7_looks_78 : decode cX7_looks 78 = .ok (.return_, 1) := by decide +kernel
set_option maxRecDepth 20000 in
theorem ggX7_inks_X7_is : GoodIn wsX7_inks wsX7_is := goodIn_r _ [5, 6, 7, 8, 4, 9, 10, 23, 24, 25, 26, 27, 28, 29, 30, 31, 32, 33, 34, 35, 36, 37, 38] (by decide +kernel) (by decide +kernel)
set_option maxRecDepth 20000 in
theorem gX7_inks_X7_is : GoodIn wsX7_inks (wsV RX7 48 RX7 yX7_is wsX7_is) := goodIn_app (goodIn_of _ (by decide +kernel)) ggX7_inks_X7_is
set_option maxRecDepth 20000 in
theorem ggX7_inks_X7_areaOf : GoodIn wsX7_inks wsX7_areaOf := goodIn_r _ [14, 15, 16, 17, 4, 18, 10, 19, 20, 21, 22, 23, 24, 25, 26, 27, 28, 29, 30, 31, 32, 33, 34, 35, 36, 37, 38] (by decide +kernel) (by decide +kernel)
set_option maxRecDepth 20000 in
theorem gX7_inks_X7_areaOf : GoodIn wsX7_inks (wsV RX7 112 RX7 yX7_areaOf wsX7_areaOf) := goodIn_app (goodIn_of _ (by decide +kernel)) ggX7_inks_X7_areaOf
theorem dX7_inks_0 : decode cX7_inks 0 = .ok (.iload_n 1, 1) := by decide +kernel
theorem dX7_inks_1 : decode cX7_inks 1 = .ok (.iconst 3, 1) := by decide +kernel
theorem dX7_inks_2 : decode cX7_inks 2 = .ok (.irem, 1) := by decide +kernel
theorem dX7_inks_3 : decode cX7_inks 3 = .ok (.ifCond .le 19, 3) := by decide +kernel
theorem dX7_inks_6 : decode cX7_inks 6 = .ok (.aload_n 0, 1) := by decide +kernel
theorem dX7_inks_7 : decode cX7_inks 7 = .ok (.iload_n 1, 1) := by decide +kernel
theorem dX7_inks_8 : decode cX7_inks 8 = .ok (.iload_n 1, 1) := by decide +kernel
theorem dX7_inks_9 : decode cX7_inks 9 = .ok (.iconst 3, 1) := by decide +kernel
theorem dX7_inks_10 : decode cX7_inks 10 = .ok (.irem, 1) := by decide +kernel
theorem dX7_inks_11 : decode cX7_inks 11 = .ok (.isub, 1) := by decide +kernel
theorem dX7_inks_12 : decode cX7_inks 12 = .ok (.invokevirtual 48, 3) := by decide +kernel
theorem dX7_inks_15 : decode cX7_inks 15 = .ok (.ifCond .eq 7, 3) := by decide +kernel
theorem dX7_inks_18 : decode cX7_inks 18 = .ok (.iconst 1, 1) := by decide +kernel
theorem dX7_inks_19 : decode cX7_inks 19 = .ok (.goto 4, 3) := by decide +kernel
theorem dX7_inks_22 : decode cX7_inks 22 = .ok (.iconst 0, 1) := by decide +kernel
theorem dX7_inks_23 : decode cX7_inks 23 = .ok (.istore_n 2, 1) := by decide +kernel
theorem dX7_inks_24 : decode cX7_inks 24 = .ok (.iload_n 2, 1) := by decide +kernel
theorem dX7_inks_25 : decode cX7_inks 25 = .ok (.ifCond .eq 13, 3) := by decide +kernel
theorem dX7_inks_28 : decode cX7_inks 28 = .ok (.aload_n 0, 1) := by decide +kernel
theorem dX7_inks_29 : decode cX7_inks 29 = .ok (.iload_n 1, 1) := by decide +kernel
theorem dX7_inks_30 : decode cX7_inks 30 = .ok (.invokevirtual 112, 3) := by decide +kernel
theorem dX7_inks_33 : decode cX7_inks 33 = .ok (.iconst 2, 1) := by decide +kernel
theorem dX7_inks_34 : decode cX7_inks 34 = .ok (.idiv, 1) := by decide +kernel
theorem dX7_inks_35 : decode cX7_inks 35 = .ok (.goto 8, 3) := by decide +kernel
theorem dX7_inks_38 : decode cX7_inks 38 = .ok (.aload_n 0, 1) := by decide +kernel
theorem dX7_inks_39 : decode cX7_inks 39 = .ok (.iload_n 1, 1) := by decide +kernel
theorem dX7_inks_40 : decode cX7_inks 40 = .ok (.invokevirtual 112, 3) := by decide +kernel
theorem dX7_inks_43 : decode cX7_inks 43 = .ok (.ireturn, 1) := by decide +kernel
set_option maxRecDepth 20000 in
theorem ggX7_lays_X7_goes : GoodIn wsX7_lays wsX7_goes := goodIn_r _ [11, 3, 12, 13, 14, 10, 15, 24, 25, 26, 27, 28, 29, 30, 31, 32, 33, 34, 35, 36, 37, 38, 39] (by decide +kernel) (by decide +kernel)
set_option maxRecDepth 20000 in
theorem gX7_lays_X7_goes : GoodIn wsX7_lays (wsV RX7 115 RX7 yX7_goes wsX7_goes) := goodIn_app (goodIn_of _ (by decide +kernel)) ggX7_lays_X7_goes
set_option maxRecDepth 20000 in
theorem ggX7_lays_X7_heightOf : GoodIn wsX7_lays wsX7_heightOf := goodIn_r _ [19, 3, 24, 25, 26, 27, 28, 29, 30, 31, 32, 33, 34, 35, 36, 37, 38, 39] (by decide +kernel) (by decide +kernel)
set_option maxRecDepth 20000 in
theorem gX7_lays_X7_heightOf : GoodIn wsX7_lays (wsV RX7 37 RX7 yX7_heightOf wsX7_heightOf) := goodIn_app (goodIn_of _ (by decide +kernel)) ggX7_lays_X7_heightOf
set_option maxRecDepth 20000 in
theorem ggX7_lays_X7_isOn : GoodIn wsX7_lays wsX7_isOn := goodIn_r _ [23, 12, 13, 14, 10, 15, 3, 24, 25, 26, 27, 28, 29, 30, 31, 32, 33, 34, 35, 36, 37, 38, 39] (by decide +kernel) (by decide +kernel)
set_option maxRecDepth 20000 in
theorem gX7_lays_X7_isOn : GoodIn wsX7_lays (wsV RX7 55 RX7 yX7_isOn wsX7_isOn) := goodIn_app (goodIn_of _ (by decide +kernel)) ggX7_lays_X7_isOn
