theorem dX7_shelf_0 : decode cX7_shelf 0 = .ok (.aload_n 0, 1) := by decide +kernel
theorem dX7_shelf_1 : decode cX7_shelf 1 = .ok (.aload_n 0, 1) := by decide +kernel
theorem dX7_shelf_2 : decode cX7_shelf 2 = .ok (.iload_n 1, 1) := by decide +kernel
theorem dX7_shelf_3 : decode cX7_shelf 3 = .ok (.invokevirtual 165, 3) := by decide +kernel
theorem dX7_shelf_6 : decode cX7_shelf 6 = .ok (.ifCond .eq 22, 3) := by decide +kernel
theorem dX7_shelf_9 : decode cX7_shelf 9 = .ok (.iload_n 2, 1) := by decide +kernel
theorem dX7_shelf_10 : decode cX7_shelf 10 = .ok (.iconst 0, 1) := by decide +kernel
theorem dX7_shelf_11 : decode cX7_shelf 11 = .ok (.aload_n 0, 1) := by decide +kernel
theorem dX7_shelf_12 : decode cX7_shelf 12 = .ok (.getfield 7, 3) := by decide +kernel
theorem dX7_shelf_15 : decode cX7_shelf 15 = .ok (.bipush 44, 2) := by decide +kernel
theorem dX7_shelf_17 : decode cX7_shelf 17 = .ok (.iload_n 1, 1) := by decide +kernel
theorem dX7_shelf_18 : decode cX7_shelf 18 = .ok (.iadd, 1) := by decide +kernel
theorem dX7_shelf_19 : decode cX7_shelf 19 = .ok (.iaload, 1) := by decide +kernel
theorem dX7_shelf_20 : decode cX7_shelf 20 = .ok (.iconst 1, 1) := by decide +kernel
theorem dX7_shelf_21 : decode cX7_shelf 21 = .ok (.isub, 1) := by decide +kernel
theorem dX7_shelf_22 : decode cX7_shelf 22 = .ok (.invokestatic 44, 3) := by decide +kernel
theorem dX7_shelf_25 : decode cX7_shelf 25 = .ok (.ifCond .ne 7, 3) := by decide +kernel
theorem dX7_shelf_28 : decode cX7_shelf 28 = .ok (.iconst 1, 1) := by decide +kernel
theorem dX7_shelf_29 : decode cX7_shelf 29 = .ok (.goto 18, 3) := by decide +kernel
theorem dX7_shelf_32 : decode cX7_shelf 32 = .ok (.iload_n 3, 1) := by decide +kernel
theorem dX7_shelf_33 : decode cX7_shelf 33 = .ok (.iconst 0, 1) := by decide +kernel
theorem dX7_shelf_34 : decode cX7_shelf 34 = .ok (.bipush 6, 2) := by decide +kernel
theorem dX7_shelf_36 : decode cX7_shelf 36 = .ok (.invokestatic 44, 3) := by decide +kernel
theorem dX7_shelf_39 : decode cX7_shelf 39 = .ok (.ifCond .ne 7, 3) := by decide +kernel
theorem dX7_shelf_42 : decode cX7_shelf 42 = .ok (.iconst 2, 1) := by decide +kernel
theorem dX7_shelf_43 : decode cX7_shelf 43 = .ok (.goto 4, 3) := by decide +kernel
theorem dX7_shelf_46 : decode cX7_shelf 46 = .ok (.iconst 0, 1) := by decide +kernel
theorem dX7_shelf_47 : decode cX7_shelf 47 = .ok (.putfield 26, 3) := by decide +kernel
theorem dX7_shelf_50 : decode cX7_shelf 50 = .ok (.aload_n 0, 1) := by decide +kernel
theorem dX7_shelf_51 : decode cX7_shelf 51 = .ok (.getfield 26, 3) := by decide +kernel
theorem dX7_shelf_54 : decode cX7_shelf 54 = .ok (.ifCond .le 7, 3) := by decide +kernel
theorem dX7_shelf_57 : decode cX7_shelf 57 = .ok (.iconst 0, 1) := by decide +kernel
theorem dX7_shelf_58 : decode cX7_shelf 58 = .ok (.goto 10, 3) := by decide +kernel
theorem dX7_shelf_61 : decode cX7_shelf 61 = .ok (.aload_n 0, 1) := by decide +kernel
theorem dX7_shelf_62 : decode cX7_shelf 62 = .ok (.iload_n 1, 1) := by decide +kernel
theorem dX7_shelf_63 : decode cX7_shelf 63 = .ok (.iload_n 2, 1) := by decide +kernel
theorem dX7_shelf_64 : decode cX7_shelf 64 = .ok (.iload_n 3, 1) := by decide +kernel
theorem dX7_shelf_65 : decode cX7_shelf 65 = .ok (.invokevirtual 175, 3) := by decide +kernel
theorem dX7_shelf_68 : decode cX7_shelf 68 = .ok (.ireturn, 1) := by decide +kernel
set_option maxRecDepth 20000 in
theorem ggX7_at_X7_isTray : GoodIn wsX7_at wsX7_isTray := goodIn_r _ [6, 7, 8, 9, 5, 10, 34, 35, 36, 37, 38, 39, 40, 41, 42, 43, 44, 45, 46, 47, 48, 49] (by decide +kernel) (by decide +kernel)
set_option maxRecDepth 20000 in
theorem gX7_at_X7_isTray : GoodIn wsX7_at (wsV RX7 165 RX7 yX7_isTray wsX7_isTray) := goodIn_app (goodIn_of _ (by decide +kernel)) ggX7_at_X7_isTray
set_option maxRecDepth 20000 in
theorem ggX7_at_X7_in : GoodIn wsX7_at wsX7_in := goodIn_r _ [10] (by decide +kernel) (by decide +kernel)
set_option maxRecDepth 20000 in
theorem gX7_at_X7_in : GoodIn wsX7_at (va_wsS RX7 44 yX7_in wsX7_in) := goodIn_app (goodIn_of _ (by decide +kernel)) ggX7_at_X7_in
set_option maxRecDepth 20000 in
theorem ggX7_at_X7_of : GoodIn wsX7_at wsX7_of := goodIn_r _ [14, 7, 34, 35, 36, 37, 38, 39, 40, 41, 42, 43, 44, 45, 46, 47, 48, 49] (by decide +kernel) (by decide +kernel)
set_option maxRecDepth 20000 in
theorem gX7_at_X7_of : GoodIn wsX7_at (wsV RX7 40 RX7 yX7_of wsX7_of) := goodIn_app (goodIn_of _ (by decide +kernel)) ggX7_at_X7_of
set_option maxRecDepth 20000 in
theorem ggX7_at_X7_top : GoodIn wsX7_at wsX7_top := goodIn_r _ [18, 19, 20, 21, 5, 22, 7, 34, 35, 36, 37, 38, 39, 40, 41, 42, 43, 44, 45, 46, 47, 48, 49] (by decide +kernel) (by decide +kernel)
set_option maxRecDepth 20000 in
theorem gX7_at_X7_top : GoodIn wsX7_at (wsV RX7 80 RX7 yX7_top wsX7_top) := goodIn_app (goodIn_of _ (by decide +kernel)) ggX7_at_X7_top
set_option maxRecDepth 20000 in
theorem ggX7_at_X7_widthOf : GoodIn wsX7_at wsX7_widthOf := goodIn_r _ [26, 7, 34, 35, 36, 37, 38, 39, 40, 41, 42, 43, 44, 45, 46, 47, 48, 49] (by decide +kernel) (by decide +kernel)
set_option maxRecDepth 20000 in
theorem gX7_at_X7_widthOf : GoodIn wsX7_at (wsV RX7 33 RX7 yX7_widthOf wsX7_widthOf) := goodIn_app (goodIn_of _ (by decide +kernel)) ggX7_at_X7_widthOf
set_option maxRecDepth 20000 in
theorem ggX7_at_X7_heightOf : GoodIn wsX7_at wsX7_heightOf := goodIn_r _ [30, 7, 34, 35, 36, 37, 38, 39, 40, 41, 42, 43, 44, 45, 46, 47, 48, 49] (by decide +kernel) (by decide +kernel)
set_option maxRecDepth 20000 in
theorem gX7_at_X7_heightOf : GoodIn wsX7_at (wsV RX7 37 RX7 yX7_heightOf wsX7_heightOf) := goodIn_app (goodIn_of _ (by decide +kernel)) ggX7_at_X7_heightOf
set_option maxRecDepth 20000 in
theorem ggX7_at_X7_codeOf : GoodIn wsX7_at wsX7_codeOf := goodIn_r _ [33] (by decide +kernel) (by decide +kernel)
set_option maxRecDepth 20000 in
theorem gX7_at_X7_codeOf : GoodIn wsX7_at (va_wsS RX7 178 yX7_codeOf wsX7_codeOf) := goodIn_app (goodIn_of _ (by decide +kernel)) ggX7_at_X7_codeOf
theorem dX7_at_0 : decode cX7_at 0 = .ok (.aload_n 0, 1) := by decide +kernel
theorem dX7_at_1 : decode cX7_at 1 = .ok (.aload_n 0, 1) := by decide +kernel
theorem dX7_at_2 : decode cX7_at 2 = .ok (.iload_n 1, 1) := by decide +kernel
theorem dX7_at_3 : decode cX7_at 3 = .ok (.invokevirtual 165, 3) := by decide +kernel
theorem dX7_at_6 : decode cX7_at 6 = .ok (.ifCond .ne 7, 3) := by decide +kernel
theorem dX7_at_9 : decode cX7_at 9 = .ok (.iconst 1, 1) := by decide +kernel
theorem dX7_at_10 : decode cX7_at 10 = .ok (.goto 28, 3) := by decide +kernel
theorem dX7_at_13 : decode cX7_at 13 = .ok (.iload_n 2, 1) := by decide +kernel
theorem dX7_at_14 : decode cX7_at 14 = .ok (.iconst 0, 1) := by decide +kernel
theorem dX7_at_15 : decode cX7_at 15 = .ok (.bipush 23, 2) := by decide +kernel
theorem dX7_at_17 : decode cX7_at 17 = .ok (.invokestatic 44, 3) := by decide +kernel
theorem dX7_at_20 : decode cX7_at 20 = .ok (.ifCond .eq 13, 3) := by decide +kernel
theorem dX7_at_23 : decode cX7_at 23 = .ok (.iload_n 3, 1) := by decide +kernel
theorem dX7_at_24 : decode cX7_at 24 = .ok (.iconst 0, 1) := by decide +kernel
theorem dX7_at_25 : decode cX7_at 25 = .ok (.bipush 23, 2) := by decide +kernel
theorem dX7_at_27 : decode cX7_at 27 = .ok (.invokestatic 44, 3) := by decide +kernel
theorem dX7_at_30 : decode cX7_at 30 = .ok (.ifCond .ne 7, 3) := by decide +kernel
theorem dX7_at_33 : decode cX7_at 33 = .ok (.iconst 2, 1) := by decide +kernel
theorem dX7_at_34 : decode cX7_at 34 = .ok (.goto 4, 3) := by decide +kernel
theorem dX7_at_37 : decode cX7_at 37 = .ok (.iconst 0, 1) := by decide +kernel
theorem dX7_at_38 : decode cX7_at 38 = .ok (.putfield 26, 3) := by decide +kernel
theorem dX7_at_41 : decode cX7_at 41 = .ok (.iconst 0, 1) := by decide +kernel
theorem dX7_at_42 : decode cX7_at 42 = .ok (.istore 4, 2) := by decide +kernel
theorem dX7_at_44 : decode cX7_at 44 = .ok (.iload 4, 2) := by decide +kernel
theorem dX7_at_46 : decode cX7_at 46 = .ok (.sipush 144, 3) := by decide +kernel
theorem dX7_at_49 : decode cX7_at 49 = .ok (.if_icmp .ge 96, 3) := by decide +kernel
theorem dX7_at_52 : decode cX7_at 52 = .ok (.aload_n 0, 1) := by decide +kernel
theorem dX7_at_53 : decode cX7_at 53 = .ok (.getfield 26, 3) := by decide +kernel
theorem dX7_at_56 : decode cX7_at 56 = .ok (.ifCond .ne 89, 3) := by decide +kernel
theorem dX7_at_59 : decode cX7_at 59 = .ok (.aload_n 0, 1) := by decide +kernel
theorem dX7_at_60 : decode cX7_at 60 = .ok (.iload 4, 2) := by decide +kernel
theorem dX7_at_62 : decode cX7_at 62 = .ok (.iconst 0, 1) := by decide +kernel
theorem dX7_at_63 : decode cX7_at 63 = .ok (.invokevirtual 40, 3) := by decide +kernel
theorem dX7_at_66 : decode cX7_at 66 = .ok (.iload_n 1, 1) := by decide +kernel
theorem dX7_at_67 : decode cX7_at 67 = .ok (.if_icmp .ne 72, 3) := by decide +kernel
theorem dX7_at_70 : decode cX7_at 70 = .ok (.aload_n 0, 1) := by decide +kernel
theorem dX7_at_71 : decode cX7_at 71 = .ok (.iload 4, 2) := by decide +kernel
theorem dX7_at_73 : decode cX7_at 73 = .ok (.iconst 2, 1) := by decide +kernel
theorem dX7_at_74 : decode cX7_at 74 = .ok (.invokevirtual 40, 3) := by decide +kernel
theorem dX7_at_77 : decode cX7_at 77 = .ok (.istore 5, 2) := by decide +kernel
theorem dX7_at_79 : decode cX7_at 79 = .ok (.aload_n 0, 1) := by decide +kernel
theorem dX7_at_80 : decode cX7_at 80 = .ok (.iload_n 1, 1) := by decide +kernel
theorem dX7_at_81 : decode cX7_at 81 = .ok (.aload_n 0, 1) := by decide +kernel
theorem dX7_at_82 : decode cX7_at 82 = .ok (.iload 4, 2) := by decide +kernel
theorem dX7_at_84 : decode cX7_at 84 = .ok (.iconst 1, 1) := by decide +kernel
theorem dX7_at_85 : decode cX7_at 85 = .ok (.invokevirtual 40, 3) := by decide +kernel
theorem dX7_at_88 : decode cX7_at 88 = .ok (.invokevirtual 80, 3) := by decide +kernel
theorem dX7_at_91 : decode cX7_at 91 = .ok (.istore 6, 2) := by decide +kernel
theorem dX7_at_93 : decode cX7_at 93 = .ok (.iload_n 2, 1) := by decide +kernel
theorem dX7_at_94 : decode cX7_at 94 = .ok (.iload 5, 2) := by decide +kernel
theorem dX7_at_96 : decode cX7_at 96 = .ok (.iload 5, 2) := by decide +kernel
theorem dX7_at_98 : decode cX7_at 98 = .ok (.aload_n 0, 1) := by decide +kernel
theorem dX7_at_99 : decode cX7_at 99 = .ok (.iload 4, 2) := by decide +kernel
theorem dX7_at_101 : decode cX7_at 101 = .ok (.invokevirtual 33, 3) := by decide +kernel
theorem dX7_at_104 : decode cX7_at 104 = .ok (.iadd, 1) := by decide +kernel
theorem dX7_at_105 : decode cX7_at 105 = .ok (.iconst 1, 1) := by decide +kernel
theorem dX7_at_106 : decode cX7_at 106 = .ok (.isub, 1) := by decide +kernel
theorem dX7_at_107 : decode cX7_at 107 = .ok (.invokestatic 44, 3) := by decide +kernel
theorem dX7_at_110 : decode cX7_at 110 = .ok (.ifCond .eq 29, 3) := by decide +kernel
theorem dX7_at_113 : decode cX7_at 113 = .ok (.iload_n 3, 1) := by decide +kernel
theorem dX7_at_114 : decode cX7_at 114 = .ok (.iload 6, 2) := by decide +kernel
theorem dX7_at_116 : decode cX7_at 116 = .ok (.iload 6, 2) := by decide +kernel
theorem dX7_at_118 : decode cX7_at 118 = .ok (.aload_n 0, 1) := by decide +kernel
theorem dX7_at_119 : decode cX7_at 119 = .ok (.iload 4, 2) := by decide +kernel
theorem dX7_at_121 : decode cX7_at 121 = .ok (.invokevirtual 37, 3) := by decide +kernel
theorem dX7_at_124 : decode cX7_at 124 = .ok (.iadd, 1) := by decide +kernel
theorem dX7_at_125 : decode cX7_at 125 = .ok (.iconst 1, 1) := by decide +kernel
theorem dX7_at_126 : decode cX7_at 126 = .ok (.isub, 1) := by decide +kernel
theorem dX7_at_127 : decode cX7_at 127 = .ok (.invokestatic 44, 3) := by decide +kernel
theorem dX7_at_130 : decode cX7_at 130 = .ok (.ifCond .eq 9, 3) := by decide +kernel
theorem dX7_at_133 : decode cX7_at 133 = .ok (.iload 4, 2) := by decide +kernel
theorem dX7_at_135 : decode cX7_at 135 = .ok (.invokestatic 178, 3) := by decide +kernel
theorem dX7_at_138 : decode cX7_at 138 = .ok (.ireturn, 1) := by decide +kernel
theorem dX7_at_139 : decode cX7_at 139 = .ok (.iinc 4 1, 3) := by decide +kernel
theorem dX7_at_142 : decode cX7_at 142 = .ok (.goto (-98), 3) := by decide +kernel
theorem dX7_at_145 : decode cX7_at 145 = .ok (.aload_n 0, 1) := by decide +kernel
theorem dX7_at_146 : decode cX7_at 146 = .ok (.getfield 26, 3) := by decide +kernel
theorem dX7_at_149 : decode cX7_at 149 = .ok (.ifCond .le 7, 3) := by decide +kernel
theorem dX7_at_152 : decode cX7_at 152 = .ok (.iconst 0, 1) := by decide +kernel
theorem dX7_at_153 : decode cX7_at 153 = .ok (.goto 4, 3) := by decide +kernel
theorem dX7_at_156 : decode cX7_at 156 = .ok (.iconst (-1), 1) := by decide +kernel
theorem dX7_at_157 : decode cX7_at 157 = .ok (.ireturn, 1) := by decide +kernel
set_option maxRecDepth 20000 in
theorem ggX7_streetAt_X7_codeOf : GoodIn wsX7_streetAt wsX7_codeOf := goodIn_r _ [5] (by decide +kernel) (by decide +kernel)
set_option maxRecDepth 20000 in
theorem gX7_streetAt_X7_codeOf : GoodIn wsX7_streetAt (va_wsS RX7 178 yX7_codeOf wsX7_codeOf) := goodIn_app (goodIn_of _ (by decide +kernel)) ggX7_streetAt_X7_codeOf
theorem dX7_streetAt_0 : decode cX7_streetAt 0 = .ok (.iload_n 1, 1) := by decide +kernel
theorem dX7_streetAt_1 : decode cX7_streetAt 1 = .ok (.aload_n 0, 1) := by decide +kernel
theorem dX7_streetAt_2 : decode cX7_streetAt 2 = .ok (.getfield 7, 3) := by decide +kernel
theorem dX7_streetAt_5 : decode cX7_streetAt 5 = .ok (.bipush 7, 2) := by decide +kernel
theorem dX7_streetAt_7 : decode cX7_streetAt 7 = .ok (.iaload, 1) := by decide +kernel
theorem dX7_streetAt_8 : decode cX7_streetAt 8 = .ok (.if_icmp .ge 18, 3) := by decide +kernel
theorem dX7_streetAt_11 : decode cX7_streetAt 11 = .ok (.aload_n 0, 1) := by decide +kernel
theorem dX7_streetAt_12 : decode cX7_streetAt 12 = .ok (.getfield 7, 3) := by decide +kernel
theorem dX7_streetAt_15 : decode cX7_streetAt 15 = .ok (.bipush 8, 2) := by decide +kernel
theorem dX7_streetAt_17 : decode cX7_streetAt 17 = .ok (.iload_n 1, 1) := by decide +kernel
theorem dX7_streetAt_18 : decode cX7_streetAt 18 = .ok (.iadd, 1) := by decide +kernel
theorem dX7_streetAt_19 : decode cX7_streetAt 19 = .ok (.iaload, 1) := by decide +kernel
theorem dX7_streetAt_20 : decode cX7_streetAt 20 = .ok (.invokestatic 178, 3) := by decide +kernel
theorem dX7_streetAt_23 : decode cX7_streetAt 23 = .ok (.goto 4, 3) := by decide +kernel
theorem dX7_streetAt_26 : decode cX7_streetAt 26 = .ok (.iconst (-1), 1) := by decide +kernel
theorem dX7_streetAt_27 : decode cX7_streetAt 27 = .ok (.ireturn, 1) := by decide +kernel
set_option maxRecDepth 20000 in
theorem ggX7_street_X7_streetAt : GoodIn wsX7_street wsX7_streetAt := goodIn_r _ [6, 7, 8, 9, 5, 10, 11, 12, 13, 14, 15, 16, 17, 18, 19, 20, 21, 22, 23, 24, 25, 26] (by decide +kernel) (by decide +kernel)
set_option maxRecDepth 20000 in
theorem gX7_street_X7_streetAt : GoodIn wsX7_street (wsV RX7 181 RX7 yX7_streetAt wsX7_streetAt) := goodIn_app (goodIn_of _ (by decide +kernel)) ggX7_street_X7_streetAt
theorem dX7_street_0 : decode cX7_street 0 = .ok (.aload_n 0, 1) := by decide +kernel
theorem dX7_street_1 : decode cX7_street 1 = .ok (.iload_n 1, 1) := by decide +kernel
theorem dX7_street_2 : decode cX7_street 2 = .ok (.ifCond .ge 7, 3) := by decide +kernel
theorem dX7_street_5 : decode cX7_street 5 = .ok (.iconst 1, 1) := by decide +kernel
theorem dX7_street_6 : decode cX7_street 6 = .ok (.goto 4, 3) := by decide +kernel
theorem dX7_street_9 : decode cX7_street 9 = .ok (.iconst 0, 1) := by decide +kernel
theorem dX7_street_10 : decode cX7_street 10 = .ok (.putfield 26, 3) := by decide +kernel
theorem dX7_street_13 : decode cX7_street 13 = .ok (.aload_n 0, 1) := by decide +kernel
theorem dX7_street_14 : decode cX7_street 14 = .ok (.getfield 26, 3) := by decide +kernel
theorem dX7_street_17 : decode cX7_street 17 = .ok (.ifCond .le 7, 3) := by decide +kernel
theorem dX7_street_20 : decode cX7_street 20 = .ok (.iconst 0, 1) := by decide +kernel
theorem dX7_street_21 : decode cX7_street 21 = .ok (.goto 8, 3) := by decide +kernel
theorem dX7_street_24 : decode cX7_street 24 = .ok (.aload_n 0, 1) := by decide +kernel
theorem dX7_street_25 : decode cX7_street 25 = .ok (.iload_n 1, 1) := by decide +kernel
theorem dX7_street_26 : decode cX7_street 26 = .ok (.invokevirtual 181, 3) := by decide +kernel
theorem dX7_street_29 : decode cX7_street 29 = .ok (.ireturn, 1) := by decide +kernel
set_option maxRecDepth 20000 in
theorem ggX7_sumOf_X7_trayBy : GoodIn wsX7_sumOf wsX7_trayBy := goodIn_r _ [6, 1, 7, 8, 9, 5, 10, 11, 12, 13, 14, 15, 16, 17, 18, 19, 20, 21, 22, 23, 24, 25, 26, 27, 28, 29, 30, 31, 32, 33, 34, 35, 36, 37, 38, 39, 40, 41, 42, 43, 44, 45, 46] (by decide +kernel) (by decide +kernel)
set_option maxRecDepth 20000 in
theorem gX7_sumOf_X7_trayBy : GoodIn wsX7_sumOf (wsV RX7 168 RX7 yX7_trayBy wsX7_trayBy) := goodIn_app (goodIn_of _ (by decide +kernel)) ggX7_sumOf_X7_trayBy
theorem dX7_sumOf_0 : decode cX7_sumOf 0 = .ok (.iconst 0, 1) := by decide +kernel
theorem dX7_sumOf_1 : decode cX7_sumOf 1 = .ok (.istore_n 2, 1) := by decide +kernel
theorem dX7_sumOf_2 : decode cX7_sumOf 2 = .ok (.iconst 0, 1) := by decide +kernel
theorem dX7_sumOf_3 : decode cX7_sumOf 3 = .ok (.istore_n 3, 1) := by decide +kernel
theorem dX7_sumOf_4 : decode cX7_sumOf 4 = .ok (.iload_n 3, 1) := by decide +kernel
theorem dX7_sumOf_5 : decode cX7_sumOf 5 = .ok (.aload_n 0, 1) := by decide +kernel
theorem dX7_sumOf_6 : decode cX7_sumOf 6 = .ok (.getfield 7, 3) := by decide +kernel
theorem dX7_sumOf_9 : decode cX7_sumOf 9 = .ok (.iconst 0, 1) := by decide +kernel
theorem dX7_sumOf_10 : decode cX7_sumOf 10 = .ok (.iaload, 1) := by decide +kernel
theorem dX7_sumOf_11 : decode cX7_sumOf 11 = .ok (.if_icmp .ge 18, 3) := by decide +kernel
theorem dX7_sumOf_14 : decode cX7_sumOf 14 = .ok (.iload_n 2, 1) := by decide +kernel
theorem dX7_sumOf_15 : decode cX7_sumOf 15 = .ok (.aload_n 0, 1) := by decide +kernel
theorem dX7_sumOf_16 : decode cX7_sumOf 16 = .ok (.iload_n 3, 1) := by decide +kernel
theorem dX7_sumOf_17 : decode cX7_sumOf 17 = .ok (.iload_n 1, 1) := by decide +kernel
theorem dX7_sumOf_18 : decode cX7_sumOf 18 = .ok (.invokevirtual 168, 3) := by decide +kernel
theorem dX7_sumOf_21 : decode cX7_sumOf 21 = .ok (.iadd, 1) := by decide +kernel
theorem dX7_sumOf_22 : decode cX7_sumOf 22 = .ok (.istore_n 2, 1) := by decide +kernel
theorem dX7_sumOf_23 : decode cX7_sumOf 23 = .ok (.iinc 3 1, 3) := by decide +kernel
theorem dX7_sumOf_26 : decode cX7_sumOf 26 = .ok (.goto (-22), 3) := by decide +kernel
theorem dX7_sumOf_29 : decode cX7_sumOf 29 = .ok (.iload_n 2, 1) := by decide +kernel
theorem dX7_sumOf_30 : decode cX7_sumOf 30 = .ok (.ireturn, 1) := by decide +kernel
set_option maxRecDepth 20000 in
theorem ggX7_wholeBy_X7_sumOf : GoodIn wsX7_wholeBy wsX7_sumOf := goodIn_r _ [7, 1, 8, 9, 10, 6, 11, 12, 13, 14, 15, 16, 17, 18, 19, 20, 21, 22, 23, 24, 25, 26, 27, 28, 29, 30, 31, 32, 33, 34, 35, 48, 49, 50, 51, 52, 53, 54, 55, 56, 57, 58, 59, 60, 61, 62, 63] (by decide +kernel) (by decide +kernel)
set_option maxRecDepth 20000 in
theorem gX7_wholeBy_X7_sumOf : GoodIn wsX7_wholeBy (wsV RX7 184 RX7 yX7_sumOf wsX7_sumOf) := goodIn_app (goodIn_of _ (by decide +kernel)) ggX7_wholeBy_X7_sumOf
set_option maxRecDepth 20000 in
theorem ggX7_wholeBy_X7_manyNow : GoodIn wsX7_wholeBy wsX7_manyNow := goodIn_r _ [39, 40, 41, 42, 6, 43, 1, 44, 45, 46, 47, 12, 13, 14, 15, 48, 49, 50, 51, 52, 53, 54, 55, 56, 57, 58, 59, 60, 61, 62, 63] (by decide +kernel) (by decide +kernel)
set_option maxRecDepth 20000 in
theorem gX7_wholeBy_X7_manyNow : GoodIn wsX7_wholeBy (wsV RX7 146 RX7 yX7_manyNow wsX7_manyNow) := goodIn_app (goodIn_of _ (by decide +kernel)) ggX7_wholeBy_X7_manyNow
theorem dX7_wholeBy_0 : decode cX7_wholeBy 0 = .ok (.iload_n 1, 1) := by decide +kernel
theorem dX7_wholeBy_1 : decode cX7_wholeBy 1 = .ok (.tableswitch 112 0 11 #[63, 70, 76, 82, 90, 90, 90, 90, 90, 90, 101, 106], 63) := by decide +kernel
theorem dX7_wholeBy_64 : decode cX7_wholeBy 64 = .ok (.aload_n 0, 1) := by decide +kernel
theorem dX7_wholeBy_65 : decode cX7_wholeBy 65 = .ok (.getfield 7, 3) := by decide +kernel
theorem dX7_wholeBy_68 : decode cX7_wholeBy 68 = .ok (.iconst 0, 1) := by decide +kernel
theorem dX7_wholeBy_69 : decode cX7_wholeBy 69 = .ok (.iaload, 1) := by decide +kernel
theorem dX7_wholeBy_70 : decode cX7_wholeBy 70 = .ok (.ireturn, 1) := by decide +kernel
theorem dX7_wholeBy_71 : decode cX7_wholeBy 71 = .ok (.aload_n 0, 1) := by decide +kernel
theorem dX7_wholeBy_72 : decode cX7_wholeBy 72 = .ok (.iconst 0, 1) := by decide +kernel
theorem dX7_wholeBy_73 : decode cX7_wholeBy 73 = .ok (.invokevirtual 184, 3) := by decide +kernel
theorem dX7_wholeBy_76 : decode cX7_wholeBy 76 = .ok (.ireturn, 1) := by decide +kernel
theorem dX7_wholeBy_77 : decode cX7_wholeBy 77 = .ok (.aload_n 0, 1) := by decide +kernel
theorem dX7_wholeBy_78 : decode cX7_wholeBy 78 = .ok (.iconst 2, 1) := by decide +kernel
theorem dX7_wholeBy_79 : decode cX7_wholeBy 79 = .ok (.invokevirtual 184, 3) := by decide +kernel
theorem dX7_wholeBy_82 : decode cX7_wholeBy 82 = .ok (.ireturn, 1) := by decide +kernel
theorem dX7_wholeBy_83 : decode cX7_wholeBy 83 = .ok (.aload_n 0, 1) := by decide +kernel
theorem dX7_wholeBy_84 : decode cX7_wholeBy 84 = .ok (.getfield 7, 3) := by decide +kernel
theorem dX7_wholeBy_87 : decode cX7_wholeBy 87 = .ok (.bipush 7, 2) := by decide +kernel
theorem dX7_wholeBy_89 : decode cX7_wholeBy 89 = .ok (.iaload, 1) := by decide +kernel
theorem dX7_wholeBy_90 : decode cX7_wholeBy 90 = .ok (.ireturn, 1) := by decide +kernel
theorem dX7_wholeBy_91 : decode cX7_wholeBy 91 = .ok (.aload_n 0, 1) := by decide +kernel
theorem dX7_wholeBy_92 : decode cX7_wholeBy 92 = .ok (.getfield 7, 3) := by decide +kernel
theorem dX7_wholeBy_95 : decode cX7_wholeBy 95 = .ok (.iconst 1, 1) := by decide +kernel
theorem dX7_wholeBy_96 : decode cX7_wholeBy 96 = .ok (.iload_n 1, 1) := by decide +kernel
theorem dX7_wholeBy_97 : decode cX7_wholeBy 97 = .ok (.iadd, 1) := by decide +kernel
theorem dX7_wholeBy_98 : decode cX7_wholeBy 98 = .ok (.iconst 4, 1) := by decide +kernel
theorem dX7_wholeBy_99 : decode cX7_wholeBy 99 = .ok (.isub, 1) := by decide +kernel
theorem dX7_wholeBy_100 : decode cX7_wholeBy 100 = .ok (.iaload, 1) := by decide +kernel
theorem dX7_wholeBy_101 : decode cX7_wholeBy 101 = .ok (.ireturn, 1) := by decide +kernel
theorem dX7_wholeBy_102 : decode cX7_wholeBy 102 = .ok (.aload_n 0, 1) := by decide +kernel
theorem dX7_wholeBy_103 : decode cX7_wholeBy 103 = .ok (.invokevirtual 146, 3) := by decide +kernel
theorem dX7_wholeBy_106 : decode cX7_wholeBy 106 = .ok (.ireturn, 1) := by decide +kernel
theorem dX7_wholeBy_107 : decode cX7_wholeBy 107 = .ok (.aload_n 0, 1) := by decide +kernel
theorem dX7_wholeBy_108 : decode cX7_wholeBy 108 = .ok (.iconst 3, 1) := by decide +kernel
theorem dX7_wholeBy_109 : decode cX7_wholeBy 109 = .ok (.invokevirtual 184, 3) := by decide +kernel
theorem dX7_wholeBy_112 : decode cX7_wholeBy 112 = .ok (.ireturn, 1) := by decide +kernel
theorem dX7_wholeBy_113 : decode cX7_wholeBy 113 = .ok (.aload_n 0, 1) := by decide +kernel
theorem dX7_wholeBy_114 : decode cX7_wholeBy 114 = .ok (.getfield 187, 3) := by decide +kernel
theorem dX7_wholeBy_117 : decode cX7_wholeBy 117 = .ok (.ireturn, 1) := by decide +kernel
set_option maxRecDepth 20000 in
theorem ggX7_whole_X7_in : GoodIn wsX7_whole wsX7_in := goodIn_r _ [5] (by decide +kernel) (by decide +kernel)
set_option maxRecDepth 20000 in
theorem gX7_whole_X7_in : GoodIn wsX7_whole (va_wsS RX7 44 yX7_in wsX7_in) := goodIn_app (goodIn_of _ (by decide +kernel)) ggX7_whole_X7_in
set_option maxRecDepth 20000 in
theorem ggX7_whole_X7_wholeBy : GoodIn wsX7_whole wsX7_wholeBy := goodIn_r _ [9, 10, 11, 12, 13, 14, 4, 15, 16, 17, 18, 19, 20, 21, 22, 23, 24, 25, 26, 27, 28, 29, 30, 31, 32, 33, 34, 35, 36, 37, 38, 39, 40, 41, 42, 43, 44, 45, 46, 47, 48, 49, 50, 51, 52, 53, 54, 55, 56, 57, 58, 59, 60, 61, 62, 63, 64, 65, 66, 67, 68, 69, 70, 71] (by decide +kernel) (by decide +kernel)
set_option maxRecDepth 20000 in
theorem gX7_whole_X7_wholeBy : GoodIn wsX7_whole (wsV RX7 190 RX7 yX7_wholeBy wsX7_wholeBy) := goodIn_app (goodIn_of _ (by decide +kernel)) ggX7_whole_X7_wholeBy
theorem dX7_whole_0 : decode cX7_whole 0 = .ok (.aload_n 0, 1) := by decide +kernel
theorem dX7_whole_1 : decode cX7_whole 1 = .ok (.iload_n 1, 1) := by decide +kernel
theorem dX7_whole_2 : decode cX7_whole 2 = .ok (.iconst 0, 1) := by decide +kernel
theorem dX7_whole_3 : decode cX7_whole 3 = .ok (.bipush 12, 2) := by decide +kernel
theorem dX7_whole_5 : decode cX7_whole 5 = .ok (.invokestatic 44, 3) := by decide +kernel
theorem dX7_whole_8 : decode cX7_whole 8 = .ok (.ifCond .eq 7, 3) := by decide +kernel
theorem dX7_whole_11 : decode cX7_whole 11 = .ok (.iconst 0, 1) := by decide +kernel
theorem dX7_whole_12 : decode cX7_whole 12 = .ok (.goto 4, 3) := by decide +kernel
theorem dX7_whole_15 : decode cX7_whole 15 = .ok (.iconst 1, 1) := by decide +kernel
theorem dX7_whole_16 : decode cX7_whole 16 = .ok (.putfield 26, 3) := by decide +kernel
theorem dX7_whole_19 : decode cX7_whole 19 = .ok (.aload_n 0, 1) := by decide +kernel
theorem dX7_whole_20 : decode cX7_whole 20 = .ok (.getfield 26, 3) := by decide +kernel
theorem dX7_whole_23 : decode cX7_whole 23 = .ok (.ifCond .le 7, 3) := by decide +kernel
theorem dX7_whole_26 : decode cX7_whole 26 = .ok (.iconst 0, 1) := by decide +kernel
theorem dX7_whole_27 : decode cX7_whole 27 = .ok (.goto 8, 3) := by decide +kernel
theorem dX7_whole_30 : decode cX7_whole 30 = .ok (.aload_n 0, 1) := by decide +kernel
theorem dX7_whole_31 : decode cX7_whole 31 = .ok (.iload_n 1, 1) := by decide +kernel
theorem dX7_whole_32 : decode cX7_whole 32 = .ok (.invokevirtual 190, 3) := by decide +kernel
theorem dX7_whole_35 : decode cX7_whole 35 = .ok (.ireturn, 1) := by decide +kernel
set_option maxRecDepth 20000 in
theorem ggX7_rule_X7_bars : GoodIn wsX7_rule wsX7_bars := goodIn_r _ [6, 7, 8, 5, 9] (by decide +kernel) (by decide +kernel)
set_option maxRecDepth 20000 in
theorem gX7_rule_X7_bars : GoodIn wsX7_rule (va_wsS RX7 137 yX7_bars wsX7_bars) := goodIn_app (goodIn_of _ (by decide +kernel)) ggX7_rule_X7_bars
set_option maxRecDepth 20000 in
theorem ggX7_rule_X7_number : GoodIn wsX7_rule wsX7_number := goodIn_r _ [12] (by decide +kernel) (by decide +kernel)
set_option maxRecDepth 20000 in
theorem gX7_rule_X7_number : GoodIn wsX7_rule (va_wsS RX7 140 yX7_number wsX7_number) := goodIn_app (goodIn_of _ (by decide +kernel)) ggX7_rule_X7_number
set_option maxRecDepth 20000 in
theorem ggX7_rule_X7_looks : GoodIn wsX7_rule wsX7_looks := goodIn_r _ [16, 2, 17, 18, 19, 20, 21, 5, 22, 23, 24, 25, 26, 27, 28, 29, 30, 31, 32, 33, 34, 35, 36, 37, 38, 39, 40, 41, 42, 43, 44, 45, 46, 47, 48, 49, 50, 51, 52, 53, 54, 55, 56, 57, 58, 59, 60, 61, 62, 63, 64, 65, 66, 67, 68, 69, 70, 71, 72, 73, 74, 75, 76, 77, 78, 79, 80, 81, 82, 83, 84, 85, 86, 87, 88, 89, 90, 91, 92, 93, 94, 95, 96, 97, 98, 99, 100, 101, 102, 103, 104, 105, 106, 107] (by decide +kernel) (by decide +kernel)
set_option maxRecDepth 20000 in
theorem gX7_rule_X7_looks : GoodIn wsX7_rule (wsV RX7 118 RX7 yX7_looks wsX7_looks) := goodIn_app (goodIn_of _ (by decide +kernel)) ggX7_rule_X7_looks
theorem dX7_rule_0 : decode cX7_rule 0 = .ok (.aload_n 0, 1) := by decide +kernel
theorem dX7_rule_1 : decode cX7_rule 1 = .ok (.iload_n 1, 1) := by decide +kernel
theorem dX7_rule_2 : decode cX7_rule 2 = .ok (.iload_n 2, 1) := by decide +kernel
theorem dX7_rule_3 : decode cX7_rule 3 = .ok (.iload_n 3, 1) := by decide +kernel
theorem dX7_rule_4 : decode cX7_rule 4 = .ok (.invokestatic 137, 3) := by decide +kernel
theorem dX7_rule_7 : decode cX7_rule 7 = .ok (.putfield 26, 3) := by decide +kernel
theorem dX7_rule_10 : decode cX7_rule 10 = .ok (.aload_n 0, 1) := by decide +kernel
theorem dX7_rule_11 : decode cX7_rule 11 = .ok (.getfield 26, 3) := by decide +kernel
theorem dX7_rule_14 : decode cX7_rule 14 = .ok (.ifCond .le 5, 3) := by decide +kernel
theorem dX7_rule_17 : decode cX7_rule 17 = .ok (.iconst 0, 1) := by decide +kernel
theorem dX7_rule_18 : decode cX7_rule 18 = .ok (.ireturn, 1) := by decide +kernel
theorem dX7_rule_19 : decode cX7_rule 19 = .ok (.aload_n 0, 1) := by decide +kernel
theorem dX7_rule_20 : decode cX7_rule 20 = .ok (.iload_n 1, 1) := by decide +kernel
theorem dX7_rule_21 : decode cX7_rule 21 = .ok (.iload_n 2, 1) := by decide +kernel
theorem dX7_rule_22 : decode cX7_rule 22 = .ok (.iload_n 3, 1) := by decide +kernel
theorem dX7_rule_23 : decode cX7_rule 23 = .ok (.invokestatic 140, 3) := by decide +kernel
theorem dX7_rule_26 : decode cX7_rule 26 = .ok (.invokevirtual 118, 3) := by decide +kernel
theorem dX7_rule_29 : decode cX7_rule 29 = .ok (.aload_n 0, 1) := by decide +kernel
theorem dX7_rule_30 : decode cX7_rule 30 = .ok (.getfield 68, 3) := by decide +kernel
theorem dX7_rule_33 : decode cX7_rule 33 = .ok (.ireturn, 1) := by decide +kernel
set_option maxRecDepth 20000 in
theorem ggX7_takenBy_X7_bars : GoodIn wsX7_takenBy wsX7_bars := goodIn_r _ [7, 8, 9, 6, 10] (by decide +kernel) (by decide +kernel)
set_option maxRecDepth 20000 in
theorem gX7_takenBy_X7_bars : GoodIn wsX7_takenBy (va_wsS RX7 137 yX7_bars wsX7_bars) := goodIn_app (goodIn_of _ (by decide +kernel)) ggX7_takenBy_X7_bars
set_option maxRecDepth 20000 in
theorem ggX7_takenBy_X7_number : GoodIn wsX7_takenBy wsX7_number := goodIn_r _ [13] (by decide +kernel) (by decide +kernel)
set_option maxRecDepth 20000 in
theorem gX7_takenBy_X7_number : GoodIn wsX7_takenBy (va_wsS RX7 140 yX7_number wsX7_number) := goodIn_app (goodIn_of _ (by decide +kernel)) ggX7_takenBy_X7_number
set_option maxRecDepth 20000 in
theorem ggX7_takenBy_X7_looks : GoodIn wsX7_takenBy wsX7_looks := goodIn_r _ [17, 2, 18, 3, 19, 20, 21, 6, 22, 23, 24, 25, 26, 27, 28, 29, 30, 31, 32, 33, 34, 35, 36, 37, 38, 39, 40, 41, 42, 43, 44, 45, 46, 47, 48, 49, 50, 51, 52, 53, 54, 55, 56, 57, 58, 59, 60, 61, 62, 63, 64, 65, 66, 67, 68, 69, 70, 71, 72, 73, 74, 75, 76, 77, 78, 79, 80, 81, 82, 83, 84, 85, 86, 87, 88, 89, 90, 91, 92, 93, 94, 95, 96, 97, 98, 99, 100, 101, 102, 103, 104, 105, 106, 107] (by decide +kernel) (by decide +kernel)
set_option maxRecDepth 20000 in
theorem gX7_takenBy_X7_looks : GoodIn wsX7_takenBy (wsV RX7 118 RX7 yX7_looks wsX7_looks) := goodIn_app (goodIn_of _ (by decide +kernel)) ggX7_takenBy_X7_looks
theorem dX7_takenBy_0 : decode cX7_takenBy 0 = .ok (.aload_n 0, 1) := by decide +kernel
theorem dX7_takenBy_1 : decode cX7_takenBy 1 = .ok (.iload_n 1, 1) := by decide +kernel
theorem dX7_takenBy_2 : decode cX7_takenBy 2 = .ok (.iload_n 2, 1) := by decide +kernel
theorem dX7_takenBy_3 : decode cX7_takenBy 3 = .ok (.iload_n 3, 1) := by decide +kernel
theorem dX7_takenBy_4 : decode cX7_takenBy 4 = .ok (.invokestatic 137, 3) := by decide +kernel
theorem dX7_takenBy_7 : decode cX7_takenBy 7 = .ok (.putfield 26, 3) := by decide +kernel
theorem dX7_takenBy_10 : decode cX7_takenBy 10 = .ok (.aload_n 0, 1) := by decide +kernel
theorem dX7_takenBy_11 : decode cX7_takenBy 11 = .ok (.getfield 26, 3) := by decide +kernel
theorem dX7_takenBy_14 : decode cX7_takenBy 14 = .ok (.ifCond .le 5, 3) := by decide +kernel
theorem dX7_takenBy_17 : decode cX7_takenBy 17 = .ok (.iconst 0, 1) := by decide +kernel
theorem dX7_takenBy_18 : decode cX7_takenBy 18 = .ok (.ireturn, 1) := by decide +kernel
theorem dX7_takenBy_19 : decode cX7_takenBy 19 = .ok (.aload_n 0, 1) := by decide +kernel
theorem dX7_takenBy_20 : decode cX7_takenBy 20 = .ok (.iload_n 1, 1) := by decide +kernel
theorem dX7_takenBy_21 : decode cX7_takenBy 21 = .ok (.iload_n 2, 1) := by decide +kernel
theorem dX7_takenBy_22 : decode cX7_takenBy 22 = .ok (.iload_n 3, 1) := by decide +kernel
theorem dX7_takenBy_23 : decode cX7_takenBy 23 = .ok (.invokestatic 140, 3) := by decide +kernel
theorem dX7_takenBy_26 : decode cX7_takenBy 26 = .ok (.invokevirtual 118, 3) := by decide +kernel
theorem dX7_takenBy_29 : decode cX7_takenBy 29 = .ok (.aload_n 0, 1) := by decide +kernel
theorem dX7_takenBy_30 : decode cX7_takenBy 30 = .ok (.getfield 68, 3) := by decide +kernel
theorem dX7_takenBy_33 : decode cX7_takenBy 33 = .ok (.iconst (-1), 1) := by decide +kernel
theorem dX7_takenBy_34 : decode cX7_takenBy 34 = .ok (.if_icmp .ne 7, 3) := by decide +kernel
theorem dX7_takenBy_37 : decode cX7_takenBy 37 = .ok (.iconst (-1), 1) := by decide +kernel
theorem dX7_takenBy_38 : decode cX7_takenBy 38 = .ok (.goto 7, 3) := by decide +kernel
theorem dX7_takenBy_41 : decode cX7_takenBy 41 = .ok (.aload_n 0, 1) := by decide +kernel
theorem dX7_takenBy_42 : decode cX7_takenBy 42 = .ok (.getfield 93, 3) := by decide +kernel
theorem dX7_takenBy_45 : decode cX7_takenBy 45 = .ok (.ireturn, 1) := by decide +kernel
set_option maxRecDepth 20000 in
theorem ggX7_costOf_X7_bars : GoodIn wsX7_costOf wsX7_bars := goodIn_r _ [6, 7, 8, 5, 9] (by decide +kernel) (by decide +kernel)
set_option maxRecDepth 20000 in
theorem gX7_costOf_X7_bars : GoodIn wsX7_costOf (va_wsS RX7 137 yX7_bars wsX7_bars) := goodIn_app (goodIn_of _ (by decide +kernel)) ggX7_costOf_X7_bars
set_option maxRecDepth 20000 in
theorem ggX7_costOf_X7_number : GoodIn wsX7_costOf wsX7_number := goodIn_r _ [12] (by decide +kernel) (by decide +kernel)
set_option maxRecDepth 20000 in
theorem gX7_costOf_X7_number : GoodIn wsX7_costOf (va_wsS RX7 140 yX7_number wsX7_number) := goodIn_app (goodIn_of _ (by decide +kernel)) ggX7_costOf_X7_number
set_option maxRecDepth 20000 in
theorem ggX7_costOf_X7_looks : GoodIn wsX7_costOf wsX7_looks := goodIn_r _ [16, 2, 17, 18, 19, 20, 21, 5, 22, 23, 24, 25, 26, 27, 28, 29, 30, 31, 32, 33, 34, 35, 36, 37, 38, 39, 40, 41, 42, 43, 44, 45, 46, 47, 48, 49, 50, 51, 52, 53, 54, 55, 56, 57, 58, 59, 60, 61, 62, 63, 64, 65, 66, 67, 68, 69, 70, 71, 72, 73, 74, 75, 76, 77, 78, 79, 80, 81, 82, 83, 84, 85, 86, 87, 88, 89, 90, 91, 100, 101, 102, 103, 104, 105, 106, 107, 108, 109, 110, 111, 112, 113, 114, 115] (by decide +kernel) (by decide +kernel)
set_option maxRecDepth 20000 in
theorem gX7_costOf_X7_looks : GoodIn wsX7_costOf (wsV RX7 118 RX7 yX7_looks wsX7_looks) := goodIn_app (goodIn_of _ (by decide +kernel)) ggX7_costOf_X7_looks
set_option maxRecDepth 20000 in
theorem ggX7_costOf_X7_inks : GoodIn wsX7_costOf wsX7_inks := goodIn_r _ [95, 19, 20, 21, 5, 22, 23, 24, 25, 26, 27, 96, 97, 98, 99, 48, 49, 50, 51, 39, 40, 41, 42, 100, 101, 102, 103, 104, 105, 106, 107, 108, 109, 110, 111, 112, 113, 114, 115] (by decide +kernel) (by decide +kernel)
set_option maxRecDepth 20000 in
theorem gX7_costOf_X7_inks : GoodIn wsX7_costOf (wsV RX7 121 RX7 yX7_inks wsX7_inks) := goodIn_app (goodIn_of _ (by decide +kernel)) ggX7_costOf_X7_inks
theorem dX7_costOf_0 : decode cX7_costOf 0 = .ok (.aload_n 0, 1) := by decide +kernel
theorem dX7_costOf_1 : decode cX7_costOf 1 = .ok (.iload_n 1, 1) := by decide +kernel
theorem dX7_costOf_2 : decode cX7_costOf 2 = .ok (.iload_n 2, 1) := by decide +kernel
theorem dX7_costOf_3 : decode cX7_costOf 3 = .ok (.iload_n 3, 1) := by decide +kernel
theorem dX7_costOf_4 : decode cX7_costOf 4 = .ok (.invokestatic 137, 3) := by decide +kernel
theorem dX7_costOf_7 : decode cX7_costOf 7 = .ok (.putfield 26, 3) := by decide +kernel
theorem dX7_costOf_10 : decode cX7_costOf 10 = .ok (.aload_n 0, 1) := by decide +kernel
theorem dX7_costOf_11 : decode cX7_costOf 11 = .ok (.getfield 26, 3) := by decide +kernel
theorem dX7_costOf_14 : decode cX7_costOf 14 = .ok (.ifCond .le 5, 3) := by decide +kernel
theorem dX7_costOf_17 : decode cX7_costOf 17 = .ok (.iconst 0, 1) := by decide +kernel
theorem dX7_costOf_18 : decode cX7_costOf 18 = .ok (.ireturn, 1) := by decide +kernel
theorem dX7_costOf_19 : decode cX7_costOf 19 = .ok (.iload_n 1, 1) := by decide +kernel
theorem dX7_costOf_20 : decode cX7_costOf 20 = .ok (.iload_n 2, 1) := by decide +kernel
theorem dX7_costOf_21 : decode cX7_costOf 21 = .ok (.iload_n 3, 1) := by decide +kernel
theorem dX7_costOf_22 : decode cX7_costOf 22 = .ok (.invokestatic 140, 3) := by decide +kernel
theorem dX7_costOf_25 : decode cX7_costOf 25 = .ok (.istore 4, 2) := by decide +kernel
theorem dX7_costOf_27 : decode cX7_costOf 27 = .ok (.aload_n 0, 1) := by decide +kernel
theorem dX7_costOf_28 : decode cX7_costOf 28 = .ok (.iload 4, 2) := by decide +kernel
theorem dX7_costOf_30 : decode cX7_costOf 30 = .ok (.invokevirtual 118, 3) := by decide +kernel
theorem dX7_costOf_33 : decode cX7_costOf 33 = .ok (.aload_n 0, 1) := by decide +kernel
theorem dX7_costOf_34 : decode cX7_costOf 34 = .ok (.getfield 68, 3) := by decide +kernel
theorem dX7_costOf_37 : decode cX7_costOf 37 = .ok (.iconst (-1), 1) := by decide +kernel
theorem dX7_costOf_38 : decode cX7_costOf 38 = .ok (.if_icmp .ne 7, 3) := by decide +kernel
theorem dX7_costOf_41 : decode cX7_costOf 41 = .ok (.iconst (-1), 1) := by decide +kernel
theorem dX7_costOf_42 : decode cX7_costOf 42 = .ok (.goto 20, 3) := by decide +kernel
theorem dX7_costOf_45 : decode cX7_costOf 45 = .ok (.aload_n 0, 1) := by decide +kernel
theorem dX7_costOf_46 : decode cX7_costOf 46 = .ok (.getfield 68, 3) := by decide +kernel
theorem dX7_costOf_49 : decode cX7_costOf 49 = .ok (.ifCond .ne 7, 3) := by decide +kernel
theorem dX7_costOf_52 : decode cX7_costOf 52 = .ok (.iconst 0, 1) := by decide +kernel
theorem dX7_costOf_53 : decode cX7_costOf 53 = .ok (.goto 9, 3) := by decide +kernel
theorem dX7_costOf_56 : decode cX7_costOf 56 = .ok (.aload_n 0, 1) := by decide +kernel
theorem dX7_costOf_57 : decode cX7_costOf 57 = .ok (.iload 4, 2) := by decide +kernel
theorem dX7_costOf_59 : decode cX7_costOf 59 = .ok (.invokevirtual 121, 3) := by decide +kernel
theorem dX7_costOf_62 : decode cX7_costOf 62 = .ok (.ireturn, 1) := by decide +kernel
set_option maxRecDepth 20000 in
theorem ggX7_oldestOne_X7_is : GoodIn wsX7_oldestOne wsX7_is := goodIn_r _ [5, 6, 7, 8, 4, 9, 10, 14, 15, 16, 17, 18, 19, 20, 21, 22, 23, 24, 25, 26, 27, 28, 29] (by decide +kernel) (by decide +kernel)
set_option maxRecDepth 20000 in
theorem gX7_oldestOne_X7_is : GoodIn wsX7_oldestOne (wsV RX7 48 RX7 yX7_is wsX7_is) := goodIn_app (goodIn_of _ (by decide +kernel)) ggX7_oldestOne_X7_is
set_option maxRecDepth 20000 in
theorem ggX7_oldestOne_X7_of : GoodIn wsX7_oldestOne wsX7_of := goodIn_r _ [9, 10, 14, 15, 16, 17, 18, 19, 20, 21, 22, 23, 24, 25, 26, 27, 28, 29] (by decide +kernel) (by decide +kernel)
set_option maxRecDepth 20000 in
theorem gX7_oldestOne_X7_of : GoodIn wsX7_oldestOne (wsV RX7 40 RX7 yX7_of wsX7_of) := goodIn_app (goodIn_of _ (by decide +kernel)) ggX7_oldestOne_X7_of
set_option maxRecDepth 20000 in
theorem ggX7_oldestOne_X7_codeOf : GoodIn wsX7_oldestOne wsX7_codeOf := goodIn_r _ [13] (by decide +kernel) (by decide +kernel)
set_option maxRecDepth 20000 in
theorem gX7_oldestOne_X7_codeOf : GoodIn wsX7_oldestOne (va_wsS RX7 178 yX7_codeOf wsX7_codeOf) := goodIn_app (goodIn_of _ (by decide +kernel)) ggX7_oldestOne_X7_codeOf
theorem dX7_oldestOne_0 : decode cX7_oldestOne 0 = .ok (.iconst (-1), 1) := by decide +kernel
theorem dX7_oldestOne_1 : decode cX7_oldestOne 1 = .ok (.istore_n 1, 1) := by decide +kernel
theorem dX7_oldestOne_2 : decode cX7_oldestOne 2 = .ok (.iconst 0, 1) := by decide +kernel
theorem dX7_oldestOne_3 : decode cX7_oldestOne 3 = .ok (.istore_n 2, 1) := by decide +kernel
theorem dX7_oldestOne_4 : decode cX7_oldestOne 4 = .ok (.iload_n 2, 1) := by decide +kernel
theorem dX7_oldestOne_5 : decode cX7_oldestOne 5 = .ok (.sipush 144, 3) := by decide +kernel
theorem dX7_oldestOne_8 : decode cX7_oldestOne 8 = .ok (.if_icmp .ge 43, 3) := by decide +kernel
theorem dX7_oldestOne_11 : decode cX7_oldestOne 11 = .ok (.aload_n 0, 1) := by decide +kernel
theorem dX7_oldestOne_12 : decode cX7_oldestOne 12 = .ok (.iload_n 2, 1) := by decide +kernel
theorem dX7_oldestOne_13 : decode cX7_oldestOne 13 = .ok (.invokevirtual 48, 3) := by decide +kernel
theorem dX7_oldestOne_16 : decode cX7_oldestOne 16 = .ok (.ifCond .eq 27, 3) := by decide +kernel
theorem dX7_oldestOne_19 : decode cX7_oldestOne 19 = .ok (.iload_n 1, 1) := by decide +kernel
theorem dX7_oldestOne_20 : decode cX7_oldestOne 20 = .ok (.iconst (-1), 1) := by decide +kernel
theorem dX7_oldestOne_21 : decode cX7_oldestOne 21 = .ok (.if_icmp .eq 18, 3) := by decide +kernel
theorem dX7_oldestOne_24 : decode cX7_oldestOne 24 = .ok (.aload_n 0, 1) := by decide +kernel
theorem dX7_oldestOne_25 : decode cX7_oldestOne 25 = .ok (.iload_n 2, 1) := by decide +kernel
theorem dX7_oldestOne_26 : decode cX7_oldestOne 26 = .ok (.iconst 3, 1) := by decide +kernel
theorem dX7_oldestOne_27 : decode cX7_oldestOne 27 = .ok (.invokevirtual 40, 3) := by decide +kernel
theorem dX7_oldestOne_30 : decode cX7_oldestOne 30 = .ok (.aload_n 0, 1) := by decide +kernel
theorem dX7_oldestOne_31 : decode cX7_oldestOne 31 = .ok (.iload_n 1, 1) := by decide +kernel
theorem dX7_oldestOne_32 : decode cX7_oldestOne 32 = .ok (.iconst 3, 1) := by decide +kernel
theorem dX7_oldestOne_33 : decode cX7_oldestOne 33 = .ok (.invokevirtual 40, 3) := by decide +kernel
theorem dX7_oldestOne_36 : decode cX7_oldestOne 36 = .ok (.if_icmp .ge 7, 3) := by decide +kernel
theorem dX7_oldestOne_39 : decode cX7_oldestOne 39 = .ok (.iload_n 2, 1) := by decide +kernel
theorem dX7_oldestOne_40 : decode cX7_oldestOne 40 = .ok (.goto 4, 3) := by decide +kernel
theorem dX7_oldestOne_43 : decode cX7_oldestOne 43 = .ok (.iload_n 1, 1) := by decide +kernel
theorem dX7_oldestOne_44 : decode cX7_oldestOne 44 = .ok (.istore_n 1, 1) := by decide +kernel
theorem dX7_oldestOne_45 : decode cX7_oldestOne 45 = .ok (.iinc 2 1, 3) := by decide +kernel
theorem dX7_oldestOne_48 : decode cX7_oldestOne 48 = .ok (.goto (-44), 3) := by decide +kernel
theorem dX7_oldestOne_51 : decode cX7_oldestOne 51 = .ok (.iload_n 1, 1) := by decide +kernel
theorem dX7_oldestOne_52 : decode cX7_oldestOne 52 = .ok (.iconst (-1), 1) := by decide +kernel
theorem dX7_oldestOne_53 : decode cX7_oldestOne 53 = .ok (.if_icmp .ne 7, 3) := by decide +kernel
theorem dX7_oldestOne_56 : decode cX7_oldestOne 56 = .ok (.iconst (-1), 1) := by decide +kernel
theorem dX7_oldestOne_57 : decode cX7_oldestOne 57 = .ok (.goto 7, 3) := by decide +kernel
theorem dX7_oldestOne_60 : decode cX7_oldestOne 60 = .ok (.iload_n 1, 1) := by decide +kernel
theorem dX7_oldestOne_61 : decode cX7_oldestOne 61 = .ok (.invokestatic 178, 3) := by decide +kernel
theorem dX7_oldestOne_64 : decode cX7_oldestOne 64 = .ok (.ireturn, 1) := by decide +kernel
set_option maxRecDepth 20000 in
theorem ggX7_oldest_X7_oldestOne : GoodIn wsX7_oldest wsX7_oldestOne := goodIn_r _ [6, 7, 8, 9, 5, 10, 11, 12, 13, 14, 15, 16, 17, 18, 19, 20, 21, 22, 23, 24, 25, 26, 27, 28, 29, 30, 31, 32, 33, 34] (by decide +kernel) (by decide +kernel)
set_option maxRecDepth 20000 in
theorem gX7_oldest_X7_oldestOne : GoodIn wsX7_oldest (wsV RX7 193 RX7 yX7_oldestOne wsX7_oldestOne) := goodIn_app (goodIn_of _ (by decide +kernel)) ggX7_oldest_X7_oldestOne
theorem dX7_oldest_0 : decode cX7_oldest 0 = .ok (.aload_n 0, 1) := by decide +kernel
theorem dX7_oldest_1 : decode cX7_oldest 1 = .ok (.iconst 0, 1) := by decide +kernel
theorem dX7_oldest_2 : decode cX7_oldest 2 = .ok (.putfield 26, 3) := by decide +kernel
theorem dX7_oldest_5 : decode cX7_oldest 5 = .ok (.aload_n 0, 1) := by decide +kernel
theorem dX7_oldest_6 : decode cX7_oldest 6 = .ok (.invokevirtual 193, 3) := by decide +kernel
theorem dX7_oldest_9 : decode cX7_oldest 9 = .ok (.ireturn, 1) := by decide +kernel
set_option maxRecDepth 20000 in
theorem ggX7_widestArea_X7_gapsOf : GoodIn wsX7_widestArea wsX7_gapsOf := goodIn_r _ [6, 7, 8, 9, 5, 10, 11, 12, 13, 14, 15, 1, 16, 17, 18, 19, 20, 21, 22, 23, 24, 25, 26, 27, 32, 33, 34, 35, 36, 37, 38, 39, 40, 41, 42, 43, 44, 45, 46, 47] (by decide +kernel) (by decide +kernel)
set_option maxRecDepth 20000 in
theorem gX7_widestArea_X7_gapsOf : GoodIn wsX7_widestArea (wsV RX7 171 RX7 yX7_gapsOf wsX7_gapsOf) := goodIn_app (goodIn_of _ (by decide +kernel)) ggX7_widestArea_X7_gapsOf
set_option maxRecDepth 20000 in
theorem ggX7_widestArea_X7_tall : GoodIn wsX7_widestArea wsX7_tall := goodIn_r _ [31, 1, 32, 33, 34, 35, 36, 37, 38, 39, 40, 41, 42, 43, 44, 45, 46, 47] (by decide +kernel) (by decide +kernel)
set_option maxRecDepth 20000 in
theorem gX7_widestArea_X7_tall : GoodIn wsX7_widestArea (wsV RX7 52 RX7 yX7_tall wsX7_tall) := goodIn_app (goodIn_of _ (by decide +kernel)) ggX7_widestArea_X7_tall
theorem dX7_widestArea_0 : decode cX7_widestArea 0 = .ok (.iconst 0, 1) := by decide +kernel
theorem dX7_widestArea_1 : decode cX7_widestArea 1 = .ok (.istore_n 1, 1) := by decide +kernel
theorem dX7_widestArea_2 : decode cX7_widestArea 2 = .ok (.iconst 0, 1) := by decide +kernel
theorem dX7_widestArea_3 : decode cX7_widestArea 3 = .ok (.istore_n 2, 1) := by decide +kernel
theorem dX7_widestArea_4 : decode cX7_widestArea 4 = .ok (.iload_n 2, 1) := by decide +kernel
theorem dX7_widestArea_5 : decode cX7_widestArea 5 = .ok (.aload_n 0, 1) := by decide +kernel
theorem dX7_widestArea_6 : decode cX7_widestArea 6 = .ok (.getfield 7, 3) := by decide +kernel
theorem dX7_widestArea_9 : decode cX7_widestArea 9 = .ok (.iconst 0, 1) := by decide +kernel
theorem dX7_widestArea_10 : decode cX7_widestArea 10 = .ok (.iaload, 1) := by decide +kernel
theorem dX7_widestArea_11 : decode cX7_widestArea 11 = .ok (.if_icmp .ge 59, 3) := by decide +kernel
theorem dX7_widestArea_14 : decode cX7_widestArea 14 = .ok (.iconst 0, 1) := by decide +kernel
theorem dX7_widestArea_15 : decode cX7_widestArea 15 = .ok (.istore_n 3, 1) := by decide +kernel
theorem dX7_widestArea_16 : decode cX7_widestArea 16 = .ok (.iload_n 3, 1) := by decide +kernel
theorem dX7_widestArea_17 : decode cX7_widestArea 17 = .ok (.aload_n 0, 1) := by decide +kernel
theorem dX7_widestArea_18 : decode cX7_widestArea 18 = .ok (.getfield 7, 3) := by decide +kernel
theorem dX7_widestArea_21 : decode cX7_widestArea 21 = .ok (.bipush 44, 2) := by decide +kernel
theorem dX7_widestArea_23 : decode cX7_widestArea 23 = .ok (.iload_n 2, 1) := by decide +kernel
theorem dX7_widestArea_24 : decode cX7_widestArea 24 = .ok (.iadd, 1) := by decide +kernel
theorem dX7_widestArea_25 : decode cX7_widestArea 25 = .ok (.iaload, 1) := by decide +kernel
theorem dX7_widestArea_26 : decode cX7_widestArea 26 = .ok (.if_icmp .ge 38, 3) := by decide +kernel
theorem dX7_widestArea_29 : decode cX7_widestArea 29 = .ok (.aload_n 0, 1) := by decide +kernel
theorem dX7_widestArea_30 : decode cX7_widestArea 30 = .ok (.iload_n 2, 1) := by decide +kernel
theorem dX7_widestArea_31 : decode cX7_widestArea 31 = .ok (.iload_n 3, 1) := by decide +kernel
theorem dX7_widestArea_32 : decode cX7_widestArea 32 = .ok (.iconst 0, 1) := by decide +kernel
theorem dX7_widestArea_33 : decode cX7_widestArea 33 = .ok (.invokevirtual 171, 3) := by decide +kernel
theorem dX7_widestArea_36 : decode cX7_widestArea 36 = .ok (.aload_n 0, 1) := by decide +kernel
theorem dX7_widestArea_37 : decode cX7_widestArea 37 = .ok (.iload_n 2, 1) := by decide +kernel
theorem dX7_widestArea_38 : decode cX7_widestArea 38 = .ok (.iload_n 3, 1) := by decide +kernel
theorem dX7_widestArea_39 : decode cX7_widestArea 39 = .ok (.invokevirtual 52, 3) := by decide +kernel
theorem dX7_widestArea_42 : decode cX7_widestArea 42 = .ok (.imul, 1) := by decide +kernel
theorem dX7_widestArea_43 : decode cX7_widestArea 43 = .ok (.istore 4, 2) := by decide +kernel
theorem dX7_widestArea_45 : decode cX7_widestArea 45 = .ok (.iload 4, 2) := by decide +kernel
theorem dX7_widestArea_47 : decode cX7_widestArea 47 = .ok (.iload_n 1, 1) := by decide +kernel
theorem dX7_widestArea_48 : decode cX7_widestArea 48 = .ok (.if_icmp .le 8, 3) := by decide +kernel
theorem dX7_widestArea_51 : decode cX7_widestArea 51 = .ok (.iload 4, 2) := by decide +kernel
theorem dX7_widestArea_53 : decode cX7_widestArea 53 = .ok (.goto 4, 3) := by decide +kernel
theorem dX7_widestArea_56 : decode cX7_widestArea 56 = .ok (.iload_n 1, 1) := by decide +kernel
theorem dX7_widestArea_57 : decode cX7_widestArea 57 = .ok (.istore_n 1, 1) := by decide +kernel
theorem dX7_widestArea_58 : decode cX7_widestArea 58 = .ok (.iinc 3 1, 3) := by decide +kernel
theorem dX7_widestArea_61 : decode cX7_widestArea 61 = .ok (.goto (-45), 3) := by decide +kernel
theorem dX7_widestArea_64 : decode cX7_widestArea 64 = .ok (.iinc 2 1, 3) := by decide +kernel
theorem dX7_widestArea_67 : decode cX7_widestArea 67 = .ok (.goto (-63), 3) := by decide +kernel
theorem dX7_widestArea_70 : decode cX7_widestArea 70 = .ok (.iload_n 1, 1) := by decide +kernel
theorem dX7_widestArea_71 : decode cX7_widestArea 71 = .ok (.ireturn, 1) := by decide +kernel
set_option maxRecDepth 20000 in
theorem ggX7_greatestGap_X7_widestArea : GoodIn wsX7_greatestGap wsX7_widestArea := goodIn_r _ [6, 7, 8, 9, 10, 5, 11, 12, 13, 14, 15, 16, 17, 18, 19, 20, 21, 22, 23, 24, 25, 26, 27, 28, 29, 30, 31, 32, 33, 34, 35, 36, 37, 38, 39, 40, 41, 42, 43, 44, 45, 46, 47, 48, 49, 50, 51, 52] (by decide +kernel) (by decide +kernel)
set_option maxRecDepth 20000 in
theorem gX7_greatestGap_X7_widestArea : GoodIn wsX7_greatestGap (wsV RX7 196 RX7 yX7_widestArea wsX7_widestArea) := goodIn_app (goodIn_of _ (by decide +kernel)) ggX7_greatestGap_X7_widestArea
theorem dX7_greatestGap_0 : decode cX7_greatestGap 0 = .ok (.aload_n 0, 1) := by decide +kernel
theorem dX7_greatestGap_1 : decode cX7_greatestGap 1 = .ok (.iconst 0, 1) := by decide +kernel
theorem dX7_greatestGap_2 : decode cX7_greatestGap 2 = .ok (.putfield 26, 3) := by decide +kernel
theorem dX7_greatestGap_5 : decode cX7_greatestGap 5 = .ok (.aload_n 0, 1) := by decide +kernel
theorem dX7_greatestGap_6 : decode cX7_greatestGap 6 = .ok (.invokevirtual 196, 3) := by decide +kernel
theorem dX7_greatestGap_9 : decode cX7_greatestGap 9 = .ok (.ireturn, 1) := by decide +kernel
set_option maxRecDepth 20000 in
theorem ggX7_type_X7_in : GoodIn wsX7_type wsX7_in := goodIn_r _ [7] (by decide +kernel) (by decide +kernel)
set_option maxRecDepth 20000 in
theorem gX7_type_X7_in : GoodIn wsX7_type (va_wsS RX7 44 yX7_in wsX7_in) := goodIn_app (goodIn_of _ (by decide +kernel)) ggX7_type_X7_in
theorem dX7_type_0 : decode cX7_type 0 = .ok (.aload_n 0, 1) := by decide +kernel
theorem dX7_type_1 : decode cX7_type 1 = .ok (.iload_n 1, 1) := by decide +kernel
theorem dX7_type_2 : decode cX7_type 2 = .ok (.iconst 0, 1) := by decide +kernel
theorem dX7_type_3 : decode cX7_type 3 = .ok (.bipush 127, 2) := by decide +kernel
theorem dX7_type_5 : decode cX7_type 5 = .ok (.invokestatic 44, 3) := by decide +kernel
theorem dX7_type_8 : decode cX7_type 8 = .ok (.ifCond .ne 7, 3) := by decide +kernel
theorem dX7_type_11 : decode cX7_type 11 = .ok (.iconst 1, 1) := by decide +kernel
theorem dX7_type_12 : decode cX7_type 12 = .ok (.goto 18, 3) := by decide +kernel
theorem dX7_type_15 : decode cX7_type 15 = .ok (.aload_n 0, 1) := by decide +kernel
theorem dX7_type_16 : decode cX7_type 16 = .ok (.getfield 187, 3) := by decide +kernel
theorem dX7_type_19 : decode cX7_type 19 = .ok (.sipush 150, 3) := by decide +kernel
theorem dX7_type_22 : decode cX7_type 22 = .ok (.if_icmp .ne 7, 3) := by decide +kernel
theorem dX7_type_25 : decode cX7_type 25 = .ok (.iconst 2, 1) := by decide +kernel
theorem dX7_type_26 : decode cX7_type 26 = .ok (.goto 4, 3) := by decide +kernel
theorem dX7_type_29 : decode cX7_type 29 = .ok (.iconst 0, 1) := by decide +kernel
theorem dX7_type_30 : decode cX7_type 30 = .ok (.putfield 26, 3) := by decide +kernel
theorem dX7_type_33 : decode cX7_type 33 = .ok (.aload_n 0, 1) := by decide +kernel
theorem dX7_type_34 : decode cX7_type 34 = .ok (.getfield 26, 3) := by decide +kernel
theorem dX7_type_37 : decode cX7_type 37 = .ok (.ifCond .le 5, 3) := by decide +kernel
theorem dX7_type_40 : decode cX7_type 40 = .ok (.iconst 0, 1) := by decide +kernel
theorem dX7_type_41 : decode cX7_type 41 = .ok (.ireturn, 1) := by decide +kernel
theorem dX7_type_42 : decode cX7_type 42 = .ok (.aload_n 0, 1) := by decide +kernel
theorem dX7_type_43 : decode cX7_type 43 = .ok (.getfield 20, 3) := by decide +kernel
theorem dX7_type_46 : decode cX7_type 46 = .ok (.aload_n 0, 1) := by decide +kernel
theorem dX7_type_47 : decode cX7_type 47 = .ok (.getfield 187, 3) := by decide +kernel
theorem dX7_type_50 : decode cX7_type 50 = .ok (.iload_n 1, 1) := by decide +kernel
theorem dX7_type_51 : decode cX7_type 51 = .ok (.iastore, 1) := by decide +kernel
theorem dX7_type_52 : decode cX7_type 52 = .ok (.aload_n 0, 1) := by decide +kernel
theorem dX7_type_53 : decode cX7_type 53 = .ok (.dup, 1) := by decide +kernel
theorem dX7_type_54 : decode cX7_type 54 = .ok (.getfield 187, 3) := by decide +kernel
theorem dX7_type_57 : decode cX7_type 57 = .ok (.iconst 1, 1) := by decide +kernel
theorem dX7_type_58 : decode cX7_type 58 = .ok (.iadd, 1) := by decide +kernel
theorem dX7_type_59 : decode cX7_type 59 = .ok (.putfield 187, 3) := by decide +kernel
theorem dX7_type_62 : decode cX7_type 62 = .ok (.aload_n 0, 1) := by decide +kernel
theorem dX7_type_63 : decode cX7_type 63 = .ok (.getfield 187, 3) := by decide +kernel
theorem dX7_type_66 : decode cX7_type 66 = .ok (.ireturn, 1) := by decide +kernel
theorem dX7_clearCommands_0 : decode cX7_clearCommands 0 = .ok (.aload_n 0, 1) := by decide +kernel
theorem dX7_clearCommands_1 : decode cX7_clearCommands 1 = .ok (.iconst 0, 1) := by decide +kernel
theorem dX7_clearCommands_2 : decode cX7_clearCommands 2 = .ok (.putfield 26, 3) := by decide +kernel
theorem dX7_clearCommands_5 : decode cX7_clearCommands 5 = .ok (.aload_n 0, 1) := by decide +kernel
theorem dX7_clearCommands_6 : decode cX7_clearCommands 6 = .ok (.getfield 187, 3) := by decide +kernel
theorem dX7_clearCommands_9 : decode cX7_clearCommands 9 = .ok (.istore_n 1, 1) := by decide +kernel
theorem dX7_clearCommands_10 : decode cX7_clearCommands 10 = .ok (.aload_n 0, 1) := by decide +kernel
theorem dX7_clearCommands_11 : decode cX7_clearCommands 11 = .ok (.iconst 0, 1) := by decide +kernel
theorem dX7_clearCommands_12 : decode cX7_clearCommands 12 = .ok (.putfield 187, 3) := by decide +kernel
theorem dX7_clearCommands_15 : decode cX7_clearCommands 15 = .ok (.iload_n 1, 1) := by decide +kernel
theorem dX7_clearCommands_16 : decode cX7_clearCommands 16 = .ok (.ireturn, 1) := by decide +kernel
theorem dX7_look_0 : decode cX7_look 0 = .ok (.aload_n 0, 1) := by decide +kernel
theorem dX7_look_1 : decode cX7_look 1 = .ok (.getfield 199, 3) := by decide +kernel
theorem dX7_look_4 : decode cX7_look 4 = .ok (.aload_n 0, 1) := by decide +kernel
theorem dX7_look_5 : decode cX7_look 5 = .ok (.getfield 187, 3) := by decide +kernel
theorem dX7_look_8 : decode cX7_look 8 = .ok (.if_icmp .ge 15, 3) := by decide +kernel
theorem dX7_look_11 : decode cX7_look 11 = .ok (.aload_n 0, 1) := by decide +kernel
theorem dX7_look_12 : decode cX7_look 12 = .ok (.getfield 20, 3) := by decide +kernel
theorem dX7_look_15 : decode cX7_look 15 = .ok (.aload_n 0, 1) := by decide +kernel
theorem dX7_look_16 : decode cX7_look 16 = .ok (.getfield 199, 3) := by decide +kernel
theorem dX7_look_19 : decode cX7_look 19 = .ok (.iaload, 1) := by decide +kernel
theorem dX7_look_20 : decode cX7_look 20 = .ok (.goto 4, 3) := by decide +kernel
theorem dX7_look_23 : decode cX7_look 23 = .ok (.iconst (-1), 1) := by decide +kernel
theorem dX7_look_24 : decode cX7_look 24 = .ok (.ireturn, 1) := by decide +kernel
set_option maxRecDepth 20000 in
theorem ggX7_skips_X7_look : GoodIn wsX7_skips wsX7_look := goodIn_r _ [6, 1, 7, 8, 9, 10, 11, 12, 13, 14, 15, 16, 17, 18, 19, 20, 21, 22, 23, 24] (by decide +kernel) (by decide +kernel)
set_option maxRecDepth 20000 in
theorem gX7_skips_X7_look : GoodIn wsX7_skips (wsV RX7 202 RX7 yX7_look wsX7_look) := goodIn_app (goodIn_of _ (by decide +kernel)) ggX7_skips_X7_look
theorem dX7_skips_0 : decode cX7_skips 0 = .ok (.iconst 0, 1) := by decide +kernel
theorem dX7_skips_1 : decode cX7_skips 1 = .ok (.istore_n 1, 1) := by decide +kernel
theorem dX7_skips_2 : decode cX7_skips 2 = .ok (.aload_n 0, 1) := by decide +kernel
theorem dX7_skips_3 : decode cX7_skips 3 = .ok (.invokevirtual 202, 3) := by decide +kernel
theorem dX7_skips_6 : decode cX7_skips 6 = .ok (.bipush 32, 2) := by decide +kernel
theorem dX7_skips_8 : decode cX7_skips 8 = .ok (.if_icmp .ne 19, 3) := by decide +kernel
theorem dX7_skips_11 : decode cX7_skips 11 = .ok (.aload_n 0, 1) := by decide +kernel
theorem dX7_skips_12 : decode cX7_skips 12 = .ok (.dup, 1) := by decide +kernel
theorem dX7_skips_13 : decode cX7_skips 13 = .ok (.getfield 199, 3) := by decide +kernel
theorem dX7_skips_16 : decode cX7_skips 16 = .ok (.iconst 1, 1) := by decide +kernel
theorem dX7_skips_17 : decode cX7_skips 17 = .ok (.iadd, 1) := by decide +kernel
theorem dX7_skips_18 : decode cX7_skips 18 = .ok (.putfield 199, 3) := by decide +kernel
theorem dX7_skips_21 : decode cX7_skips 21 = .ok (.iinc 1 1, 3) := by decide +kernel
theorem dX7_skips_24 : decode cX7_skips 24 = .ok (.goto (-22), 3) := by decide +kernel
theorem dX7_skips_27 : decode cX7_skips 27 = .ok (.iload_n 1, 1) := by decide +kernel
theorem dX7_skips_28 : decode cX7_skips 28 = .ok (.ireturn, 1) := by decide +kernel
set_option maxRecDepth 20000 in
theorem ggX7_readsWord_X7_look : GoodIn wsX7_readsWord wsX7_look := goodIn_r _ [6, 1, 7, 8, 12, 13, 14, 15, 16, 17, 18, 19, 20, 21, 22, 23, 24, 25, 26, 27] (by decide +kernel) (by decide +kernel)
set_option maxRecDepth 20000 in
theorem gX7_readsWord_X7_look : GoodIn wsX7_readsWord (wsV RX7 202 RX7 yX7_look wsX7_look) := goodIn_app (goodIn_of _ (by decide +kernel)) ggX7_readsWord_X7_look
set_option maxRecDepth 20000 in
theorem ggX7_readsWord_X7_in : GoodIn wsX7_readsWord wsX7_in := goodIn_r _ [11] (by decide +kernel) (by decide +kernel)
set_option maxRecDepth 20000 in
theorem gX7_readsWord_X7_in : GoodIn wsX7_readsWord (va_wsS RX7 44 yX7_in wsX7_in) := goodIn_app (goodIn_of _ (by decide +kernel)) ggX7_readsWord_X7_in
theorem dX7_readsWord_0 : decode cX7_readsWord 0 = .ok (.iconst 0, 1) := by decide +kernel
theorem dX7_readsWord_1 : decode cX7_readsWord 1 = .ok (.istore_n 1, 1) := by decide +kernel
theorem dX7_readsWord_2 : decode cX7_readsWord 2 = .ok (.iconst 0, 1) := by decide +kernel
theorem dX7_readsWord_3 : decode cX7_readsWord 3 = .ok (.istore_n 2, 1) := by decide +kernel
theorem dX7_readsWord_4 : decode cX7_readsWord 4 = .ok (.aload_n 0, 1) := by decide +kernel
theorem dX7_readsWord_5 : decode cX7_readsWord 5 = .ok (.invokevirtual 202, 3) := by decide +kernel
theorem dX7_readsWord_8 : decode cX7_readsWord 8 = .ok (.bipush 97, 2) := by decide +kernel
theorem dX7_readsWord_10 : decode cX7_readsWord 10 = .ok (.bipush 122, 2) := by decide +kernel
theorem dX7_readsWord_12 : decode cX7_readsWord 12 = .ok (.invokestatic 44, 3) := by decide +kernel
theorem dX7_readsWord_15 : decode cX7_readsWord 15 = .ok (.ifCond .eq 43, 3) := by decide +kernel
theorem dX7_readsWord_18 : decode cX7_readsWord 18 = .ok (.iload_n 2, 1) := by decide +kernel
theorem dX7_readsWord_19 : decode cX7_readsWord 19 = .ok (.iconst 5, 1) := by decide +kernel
theorem dX7_readsWord_20 : decode cX7_readsWord 20 = .ok (.if_icmp .ge 20, 3) := by decide +kernel
theorem dX7_readsWord_23 : decode cX7_readsWord 23 = .ok (.bipush 27, 2) := by decide +kernel
theorem dX7_readsWord_25 : decode cX7_readsWord 25 = .ok (.iload_n 1, 1) := by decide +kernel
theorem dX7_readsWord_26 : decode cX7_readsWord 26 = .ok (.imul, 1) := by decide +kernel
theorem dX7_readsWord_27 : decode cX7_readsWord 27 = .ok (.aload_n 0, 1) := by decide +kernel
theorem dX7_readsWord_28 : decode cX7_readsWord 28 = .ok (.invokevirtual 202, 3) := by decide +kernel
theorem dX7_readsWord_31 : decode cX7_readsWord 31 = .ok (.iadd, 1) := by decide +kernel
theorem dX7_readsWord_32 : decode cX7_readsWord 32 = .ok (.bipush 97, 2) := by decide +kernel
theorem dX7_readsWord_34 : decode cX7_readsWord 34 = .ok (.isub, 1) := by decide +kernel
theorem dX7_readsWord_35 : decode cX7_readsWord 35 = .ok (.iconst 1, 1) := by decide +kernel
theorem dX7_readsWord_36 : decode cX7_readsWord 36 = .ok (.iadd, 1) := by decide +kernel
theorem dX7_readsWord_37 : decode cX7_readsWord 37 = .ok (.goto 4, 3) := by decide +kernel
theorem dX7_readsWord_40 : decode cX7_readsWord 40 = .ok (.iconst 0, 1) := by decide +kernel
theorem dX7_readsWord_41 : decode cX7_readsWord 41 = .ok (.istore_n 1, 1) := by decide +kernel
theorem dX7_readsWord_42 : decode cX7_readsWord 42 = .ok (.iinc 2 1, 3) := by decide +kernel
theorem dX7_readsWord_45 : decode cX7_readsWord 45 = .ok (.aload_n 0, 1) := by decide +kernel
theorem dX7_readsWord_46 : decode cX7_readsWord 46 = .ok (.dup, 1) := by decide +kernel
theorem dX7_readsWord_47 : decode cX7_readsWord 47 = .ok (.getfield 199, 3) := by decide +kernel
theorem dX7_readsWord_50 : decode cX7_readsWord 50 = .ok (.iconst 1, 1) := by decide +kernel
theorem dX7_readsWord_51 : decode cX7_readsWord 51 = .ok (.iadd, 1) := by decide +kernel
theorem dX7_readsWord_52 : decode cX7_readsWord 52 = .ok (.putfield 199, 3) := by decide +kernel
theorem dX7_readsWord_55 : decode cX7_readsWord 55 = .ok (.goto (-51), 3) := by decide +kernel
theorem dX7_readsWord_58 : decode cX7_readsWord 58 = .ok (.iload_n 2, 1) := by decide +kernel
theorem dX7_readsWord_59 : decode cX7_readsWord 59 = .ok (.iconst 5, 1) := by decide +kernel
theorem dX7_readsWord_60 : decode cX7_readsWord 60 = .ok (.if_icmp .le 7, 3) := by decide +kernel
theorem dX7_readsWord_63 : decode cX7_readsWord 63 = .ok (.iconst 0, 1) := by decide +kernel
theorem dX7_readsWord_64 : decode cX7_readsWord 64 = .ok (.goto 4, 3) := by decide +kernel
theorem dX7_readsWord_67 : decode cX7_readsWord 67 = .ok (.iload_n 1, 1) := by decide +kernel
theorem dX7_readsWord_68 : decode cX7_readsWord 68 = .ok (.ireturn, 1) := by decide +kernel
theorem dX7_wordOf_0 : decode cX7_wordOf 0 = .ok (.bipush 27, 2) := by decide +kernel
theorem dX7_wordOf_2 : decode cX7_wordOf 2 = .ok (.bipush 27, 2) := by decide +kernel
theorem dX7_wordOf_4 : decode cX7_wordOf 4 = .ok (.iload_n 0, 1) := by decide +kernel
theorem dX7_wordOf_5 : decode cX7_wordOf 5 = .ok (.bipush 97, 2) := by decide +kernel
theorem dX7_wordOf_7 : decode cX7_wordOf 7 = .ok (.isub, 1) := by decide +kernel
theorem dX7_wordOf_8 : decode cX7_wordOf 8 = .ok (.iconst 1, 1) := by decide +kernel
theorem dX7_wordOf_9 : decode cX7_wordOf 9 = .ok (.iadd, 1) := by decide +kernel
theorem dX7_wordOf_10 : decode cX7_wordOf 10 = .ok (.imul, 1) := by decide +kernel
theorem dX7_wordOf_11 : decode cX7_wordOf 11 = .ok (.iload_n 1, 1) := by decide +kernel
theorem dX7_wordOf_12 : decode cX7_wordOf 12 = .ok (.iadd, 1) := by decide +kernel
theorem dX7_wordOf_13 : decode cX7_wordOf 13 = .ok (.bipush 97, 2) := by decide +kernel
theorem dX7_wordOf_15 : decode cX7_wordOf 15 = .ok (.isub, 1) := by decide +kernel
theorem dX7_wordOf_16 : decode cX7_wordOf 16 = .ok (.iconst 1, 1) := by decide +kernel
theorem dX7_wordOf_17 : decode cX7_wordOf 17 = .ok (.iadd, 1) := by decide +kernel
theorem dX7_wordOf_18 : decode cX7_wordOf 18 = .ok (.imul, 1) := by decide +kernel
theorem dX7_wordOf_19 : decode cX7_wordOf 19 = .ok (.iload_n 2, 1) := by decide +kernel
theorem dX7_wordOf_20 : decode cX7_wordOf 20 = .ok (.iadd, 1) := by decide +kernel
theorem dX7_wordOf_21 : decode cX7_wordOf 21 = .ok (.bipush 97, 2) := by decide +kernel
theorem dX7_wordOf_23 : decode cX7_wordOf 23 = .ok (.isub, 1) := by decide +kernel
theorem dX7_wordOf_24 : decode cX7_wordOf 24 = .ok (.iconst 1, 1) := by decide +kernel
theorem dX7_wordOf_25 : decode cX7_wordOf 25 = .ok (.iadd, 1) := by decide +kernel
theorem dX7_wordOf_26 : decode cX7_wordOf 26 = .ok (.istore 5, 2) := by decide +kernel
theorem dX7_wordOf_28 : decode cX7_wordOf 28 = .ok (.iload_n 3, 1) := by decide +kernel
theorem dX7_wordOf_29 : decode cX7_wordOf 29 = .ok (.bipush 32, 2) := by decide +kernel
theorem dX7_wordOf_31 : decode cX7_wordOf 31 = .ok (.if_icmp .ne 8, 3) := by decide +kernel
theorem dX7_wordOf_34 : decode cX7_wordOf 34 = .ok (.iload 5, 2) := by decide +kernel
theorem dX7_wordOf_36 : decode cX7_wordOf 36 = .ok (.goto 15, 3) := by decide +kernel
theorem dX7_wordOf_39 : decode cX7_wordOf 39 = .ok (.bipush 27, 2) := by decide +kernel
theorem dX7_wordOf_41 : decode cX7_wordOf 41 = .ok (.iload 5, 2) := by decide +kernel
theorem dX7_wordOf_43 : decode cX7_wordOf 43 = .ok (.imul, 1) := by decide +kernel
theorem dX7_wordOf_44 : decode cX7_wordOf 44 = .ok (.iload_n 3, 1) := by decide +kernel
theorem dX7_wordOf_45 : decode cX7_wordOf 45 = .ok (.iadd, 1) := by decide +kernel
theorem dX7_wordOf_46 : decode cX7_wordOf 46 = .ok (.bipush 97, 2) := by decide +kernel
theorem dX7_wordOf_48 : decode cX7_wordOf 48 = .ok (.isub, 1) := by decide +kernel
theorem dX7_wordOf_49 : decode cX7_wordOf 49 = .ok (.iconst 1, 1) := by decide +kernel
theorem dX7_wordOf_50 : decode cX7_wordOf 50 = .ok (.iadd, 1) := by decide +kernel
theorem dX7_wordOf_51 : decode cX7_wordOf 51 = .ok (.istore 5, 2) := by decide +kernel
theorem dX7_wordOf_53 : decode cX7_wordOf 53 = .ok (.iload 4, 2) := by decide +kernel
theorem dX7_wordOf_55 : decode cX7_wordOf 55 = .ok (.bipush 32, 2) := by decide +kernel
theorem dX7_wordOf_57 : decode cX7_wordOf 57 = .ok (.if_icmp .ne 8, 3) := by decide +kernel
theorem dX7_wordOf_60 : decode cX7_wordOf 60 = .ok (.iload 5, 2) := by decide +kernel
theorem dX7_wordOf_62 : decode cX7_wordOf 62 = .ok (.goto 16, 3) := by decide +kernel
theorem dX7_wordOf_65 : decode cX7_wordOf 65 = .ok (.bipush 27, 2) := by decide +kernel
theorem dX7_wordOf_67 : decode cX7_wordOf 67 = .ok (.iload 5, 2) := by decide +kernel
theorem dX7_wordOf_69 : decode cX7_wordOf 69 = .ok (.imul, 1) := by decide +kernel
theorem dX7_wordOf_70 : decode cX7_wordOf 70 = .ok (.iload 4, 2) := by decide +kernel
theorem dX7_wordOf_72 : decode cX7_wordOf 72 = .ok (.iadd, 1) := by decide +kernel
theorem dX7_wordOf_73 : decode cX7_wordOf 73 = .ok (.bipush 97, 2) := by decide +kernel
theorem dX7_wordOf_75 : decode cX7_wordOf 75 = .ok (.isub, 1) := by decide +kernel
theorem dX7_wordOf_76 : decode cX7_wordOf 76 = .ok (.iconst 1, 1) := by decide +kernel
theorem dX7_wordOf_77 : decode cX7_wordOf 77 = .ok (.iadd, 1) := by decide +kernel
theorem dX7_wordOf_78 : decode cX7_wordOf 78 = .ok (.ireturn, 1) := by decide +kernel
set_option maxRecDepth 20000 in
theorem ggX7_kindOf_X7_wordOf : GoodIn wsX7_kindOf wsX7_wordOf := goodIn_r _ [4] (by decide +kernel) (by decide +kernel)
set_option maxRecDepth 20000 in
theorem gX7_kindOf_X7_wordOf : GoodIn wsX7_kindOf (va_wsS RX7 205 yX7_wordOf wsX7_wordOf) := goodIn_app (goodIn_of _ (by decide +kernel)) ggX7_kindOf_X7_wordOf
theorem dX7_kindOf_0 : decode cX7_kindOf 0 = .ok (.iload_n 0, 1) := by decide +kernel
theorem dX7_kindOf_1 : decode cX7_kindOf 1 = .ok (.bipush 99, 2) := by decide +kernel
theorem dX7_kindOf_3 : decode cX7_kindOf 3 = .ok (.bipush 117, 2) := by decide +kernel
theorem dX7_kindOf_5 : decode cX7_kindOf 5 = .ok (.bipush 116, 2) := by decide +kernel
theorem dX7_kindOf_7 : decode cX7_kindOf 7 = .ok (.bipush 32, 2) := by decide +kernel
theorem dX7_kindOf_9 : decode cX7_kindOf 9 = .ok (.bipush 32, 2) := by decide +kernel
theorem dX7_kindOf_11 : decode cX7_kindOf 11 = .ok (.invokestatic 205, 3) := by decide +kernel
theorem dX7_kindOf_14 : decode cX7_kindOf 14 = .ok (.if_icmp .ne 7, 3) := by decide +kernel
theorem dX7_kindOf_17 : decode cX7_kindOf 17 = .ok (.iconst 1, 1) := by decide +kernel
theorem dX7_kindOf_18 : decode cX7_kindOf 18 = .ok (.goto 110, 3) := by decide +kernel
theorem dX7_kindOf_21 : decode cX7_kindOf 21 = .ok (.iload_n 0, 1) := by decide +kernel
theorem dX7_kindOf_22 : decode cX7_kindOf 22 = .ok (.bipush 117, 2) := by decide +kernel
theorem dX7_kindOf_24 : decode cX7_kindOf 24 = .ok (.bipush 115, 2) := by decide +kernel
theorem dX7_kindOf_26 : decode cX7_kindOf 26 = .ok (.bipush 101, 2) := by decide +kernel
theorem dX7_kindOf_28 : decode cX7_kindOf 28 = .ok (.bipush 32, 2) := by decide +kernel
theorem dX7_kindOf_30 : decode cX7_kindOf 30 = .ok (.bipush 32, 2) := by decide +kernel
theorem dX7_kindOf_32 : decode cX7_kindOf 32 = .ok (.invokestatic 205, 3) := by decide +kernel
theorem dX7_kindOf_35 : decode cX7_kindOf 35 = .ok (.if_icmp .ne 7, 3) := by decide +kernel
theorem dX7_kindOf_38 : decode cX7_kindOf 38 = .ok (.iconst 2, 1) := by decide +kernel
theorem dX7_kindOf_39 : decode cX7_kindOf 39 = .ok (.goto 89, 3) := by decide +kernel
theorem dX7_kindOf_42 : decode cX7_kindOf 42 = .ok (.iload_n 0, 1) := by decide +kernel
theorem dX7_kindOf_43 : decode cX7_kindOf 43 = .ok (.bipush 100, 2) := by decide +kernel
theorem dX7_kindOf_45 : decode cX7_kindOf 45 = .ok (.bipush 114, 2) := by decide +kernel
theorem dX7_kindOf_47 : decode cX7_kindOf 47 = .ok (.bipush 111, 2) := by decide +kernel
theorem dX7_kindOf_49 : decode cX7_kindOf 49 = .ok (.bipush 112, 2) := by decide +kernel
theorem dX7_kindOf_51 : decode cX7_kindOf 51 = .ok (.bipush 32, 2) := by decide +kernel
theorem dX7_kindOf_53 : decode cX7_kindOf 53 = .ok (.invokestatic 205, 3) := by decide +kernel
theorem dX7_kindOf_56 : decode cX7_kindOf 56 = .ok (.if_icmp .ne 7, 3) := by decide +kernel
theorem dX7_kindOf_59 : decode cX7_kindOf 59 = .ok (.iconst 3, 1) := by decide +kernel
theorem dX7_kindOf_60 : decode cX7_kindOf 60 = .ok (.goto 68, 3) := by decide +kernel
theorem dX7_kindOf_63 : decode cX7_kindOf 63 = .ok (.iload_n 0, 1) := by decide +kernel
theorem dX7_kindOf_64 : decode cX7_kindOf 64 = .ok (.bipush 108, 2) := by decide +kernel
theorem dX7_kindOf_66 : decode cX7_kindOf 66 = .ok (.bipush 105, 2) := by decide +kernel
theorem dX7_kindOf_68 : decode cX7_kindOf 68 = .ok (.bipush 110, 2) := by decide +kernel
theorem dX7_kindOf_70 : decode cX7_kindOf 70 = .ok (.bipush 101, 2) := by decide +kernel
theorem dX7_kindOf_72 : decode cX7_kindOf 72 = .ok (.bipush 32, 2) := by decide +kernel
theorem dX7_kindOf_74 : decode cX7_kindOf 74 = .ok (.invokestatic 205, 3) := by decide +kernel
theorem dX7_kindOf_77 : decode cX7_kindOf 77 = .ok (.if_icmp .ne 7, 3) := by decide +kernel
theorem dX7_kindOf_80 : decode cX7_kindOf 80 = .ok (.iconst 4, 1) := by decide +kernel
theorem dX7_kindOf_81 : decode cX7_kindOf 81 = .ok (.goto 47, 3) := by decide +kernel
theorem dX7_kindOf_84 : decode cX7_kindOf 84 = .ok (.iload_n 0, 1) := by decide +kernel
theorem dX7_kindOf_85 : decode cX7_kindOf 85 = .ok (.bipush 116, 2) := by decide +kernel
theorem dX7_kindOf_87 : decode cX7_kindOf 87 = .ok (.bipush 114, 2) := by decide +kernel
theorem dX7_kindOf_89 : decode cX7_kindOf 89 = .ok (.bipush 97, 2) := by decide +kernel
theorem dX7_kindOf_91 : decode cX7_kindOf 91 = .ok (.bipush 121, 2) := by decide +kernel
theorem dX7_kindOf_93 : decode cX7_kindOf 93 = .ok (.bipush 32, 2) := by decide +kernel
theorem dX7_kindOf_95 : decode cX7_kindOf 95 = .ok (.invokestatic 205, 3) := by decide +kernel
theorem dX7_kindOf_98 : decode cX7_kindOf 98 = .ok (.if_icmp .ne 7, 3) := by decide +kernel
theorem dX7_kindOf_101 : decode cX7_kindOf 101 = .ok (.iconst 5, 1) := by decide +kernel
theorem dX7_kindOf_102 : decode cX7_kindOf 102 = .ok (.goto 26, 3) := by decide +kernel
theorem dX7_kindOf_105 : decode cX7_kindOf 105 = .ok (.iload_n 0, 1) := by decide +kernel
theorem dX7_kindOf_106 : decode cX7_kindOf 106 = .ok (.bipush 99, 2) := by decide +kernel
theorem dX7_kindOf_108 : decode cX7_kindOf 108 = .ok (.bipush 108, 2) := by decide +kernel
theorem dX7_kindOf_110 : decode cX7_kindOf 110 = .ok (.bipush 111, 2) := by decide +kernel
theorem dX7_kindOf_112 : decode cX7_kindOf 112 = .ok (.bipush 115, 2) := by decide +kernel
theorem dX7_kindOf_114 : decode cX7_kindOf 114 = .ok (.bipush 101, 2) := by decide +kernel
theorem dX7_kindOf_116 : decode cX7_kindOf 116 = .ok (.invokestatic 205, 3) := by decide +kernel
theorem dX7_kindOf_119 : decode cX7_kindOf 119 = .ok (.if_icmp .ne 8, 3) := by decide +kernel
theorem dX7_kindOf_122 : decode cX7_kindOf 122 = .ok (.bipush 6, 2) := by decide +kernel
theorem dX7_kindOf_124 : decode cX7_kindOf 124 = .ok (.goto 4, 3) := by decide +kernel
theorem dX7_kindOf_127 : decode cX7_kindOf 127 = .ok (.iconst 0, 1) := by decide +kernel
theorem dX7_kindOf_128 : decode cX7_kindOf 128 = .ok (.ireturn, 1) := by decide +kernel
set_option maxRecDepth 20000 in
theorem ggX7_readsNumber_X7_skips : GoodIn wsX7_readsNumber wsX7_skips := goodIn_r _ [8, 1, 9, 10, 11, 7, 12, 13, 14, 18, 19, 20, 21, 22, 23, 24, 25, 26, 27, 28, 29, 30, 31, 32, 33] (by decide +kernel) (by decide +kernel)
set_option maxRecDepth 20000 in
theorem gX7_readsNumber_X7_skips : GoodIn wsX7_readsNumber (wsV RX7 209 RX7 yX7_skips wsX7_skips) := goodIn_app (goodIn_of _ (by decide +kernel)) ggX7_readsNumber_X7_skips
set_option maxRecDepth 20000 in
theorem ggX7_readsNumber_X7_look : GoodIn wsX7_readsNumber wsX7_look := goodIn_r _ [12, 1, 13, 14, 18, 19, 20, 21, 22, 23, 24, 25, 26, 27, 28, 29, 30, 31, 32, 33] (by decide +kernel) (by decide +kernel)
set_option maxRecDepth 20000 in
theorem gX7_readsNumber_X7_look : GoodIn wsX7_readsNumber (wsV RX7 202 RX7 yX7_look wsX7_look) := goodIn_app (goodIn_of _ (by decide +kernel)) ggX7_readsNumber_X7_look
set_option maxRecDepth 20000 in
theorem ggX7_readsNumber_X7_in : GoodIn wsX7_readsNumber wsX7_in := goodIn_r _ [17] (by decide +kernel) (by decide +kernel)
set_option maxRecDepth 20000 in
theorem gX7_readsNumber_X7_in : GoodIn wsX7_readsNumber (va_wsS RX7 44 yX7_in wsX7_in) := goodIn_app (goodIn_of _ (by decide +kernel)) ggX7_readsNumber_X7_in
theorem dX7_readsNumber_0 : decode cX7_readsNumber 0 = .ok (.aload_n 0, 1) := by decide +kernel
theorem dX7_readsNumber_1 : decode cX7_readsNumber 1 = .ok (.invokevirtual 209, 3) := by decide +kernel
theorem dX7_readsNumber_4 : decode cX7_readsNumber 4 = .ok (.ifCond .eq 17, 3) := by decide +kernel
theorem dX7_readsNumber_7 : decode cX7_readsNumber 7 = .ok (.aload_n 0, 1) := by decide +kernel
theorem dX7_readsNumber_8 : decode cX7_readsNumber 8 = .ok (.invokevirtual 202, 3) := by decide +kernel
theorem dX7_readsNumber_11 : decode cX7_readsNumber 11 = .ok (.bipush 48, 2) := by decide +kernel
theorem dX7_readsNumber_13 : decode cX7_readsNumber 13 = .ok (.bipush 57, 2) := by decide +kernel
theorem dX7_readsNumber_15 : decode cX7_readsNumber 15 = .ok (.invokestatic 44, 3) := by decide +kernel
theorem dX7_readsNumber_18 : decode cX7_readsNumber 18 = .ok (.ifCond .ne 5, 3) := by decide +kernel
theorem dX7_readsNumber_21 : decode cX7_readsNumber 21 = .ok (.iconst 0, 1) := by decide +kernel
theorem dX7_readsNumber_22 : decode cX7_readsNumber 22 = .ok (.ireturn, 1) := by decide +kernel
theorem dX7_readsNumber_23 : decode cX7_readsNumber 23 = .ok (.iconst 0, 1) := by decide +kernel
theorem dX7_readsNumber_24 : decode cX7_readsNumber 24 = .ok (.istore_n 2, 1) := by decide +kernel
theorem dX7_readsNumber_25 : decode cX7_readsNumber 25 = .ok (.iconst 0, 1) := by decide +kernel
theorem dX7_readsNumber_26 : decode cX7_readsNumber 26 = .ok (.istore_n 3, 1) := by decide +kernel
theorem dX7_readsNumber_27 : decode cX7_readsNumber 27 = .ok (.iload_n 3, 1) := by decide +kernel
theorem dX7_readsNumber_28 : decode cX7_readsNumber 28 = .ok (.iconst 2, 1) := by decide +kernel
theorem dX7_readsNumber_29 : decode cX7_readsNumber 29 = .ok (.if_icmp .ge 46, 3) := by decide +kernel
theorem dX7_readsNumber_32 : decode cX7_readsNumber 32 = .ok (.aload_n 0, 1) := by decide +kernel
theorem dX7_readsNumber_33 : decode cX7_readsNumber 33 = .ok (.invokevirtual 202, 3) := by decide +kernel
theorem dX7_readsNumber_36 : decode cX7_readsNumber 36 = .ok (.bipush 48, 2) := by decide +kernel
theorem dX7_readsNumber_38 : decode cX7_readsNumber 38 = .ok (.bipush 57, 2) := by decide +kernel
theorem dX7_readsNumber_40 : decode cX7_readsNumber 40 = .ok (.invokestatic 44, 3) := by decide +kernel
theorem dX7_readsNumber_43 : decode cX7_readsNumber 43 = .ok (.ifCond .eq 32, 3) := by decide +kernel
theorem dX7_readsNumber_46 : decode cX7_readsNumber 46 = .ok (.bipush 10, 2) := by decide +kernel
theorem dX7_readsNumber_48 : decode cX7_readsNumber 48 = .ok (.iload_n 2, 1) := by decide +kernel
theorem dX7_readsNumber_49 : decode cX7_readsNumber 49 = .ok (.imul, 1) := by decide +kernel
theorem dX7_readsNumber_50 : decode cX7_readsNumber 50 = .ok (.aload_n 0, 1) := by decide +kernel
theorem dX7_readsNumber_51 : decode cX7_readsNumber 51 = .ok (.invokevirtual 202, 3) := by decide +kernel
theorem dX7_readsNumber_54 : decode cX7_readsNumber 54 = .ok (.iadd, 1) := by decide +kernel
theorem dX7_readsNumber_55 : decode cX7_readsNumber 55 = .ok (.bipush 48, 2) := by decide +kernel
theorem dX7_readsNumber_57 : decode cX7_readsNumber 57 = .ok (.isub, 1) := by decide +kernel
theorem dX7_readsNumber_58 : decode cX7_readsNumber 58 = .ok (.istore_n 2, 1) := by decide +kernel
theorem dX7_readsNumber_59 : decode cX7_readsNumber 59 = .ok (.aload_n 0, 1) := by decide +kernel
theorem dX7_readsNumber_60 : decode cX7_readsNumber 60 = .ok (.dup, 1) := by decide +kernel
theorem dX7_readsNumber_61 : decode cX7_readsNumber 61 = .ok (.getfield 199, 3) := by decide +kernel
theorem dX7_readsNumber_64 : decode cX7_readsNumber 64 = .ok (.iconst 1, 1) := by decide +kernel
theorem dX7_readsNumber_65 : decode cX7_readsNumber 65 = .ok (.iadd, 1) := by decide +kernel
theorem dX7_readsNumber_66 : decode cX7_readsNumber 66 = .ok (.putfield 199, 3) := by decide +kernel
theorem dX7_readsNumber_69 : decode cX7_readsNumber 69 = .ok (.iinc 3 1, 3) := by decide +kernel
theorem dX7_readsNumber_72 : decode cX7_readsNumber 72 = .ok (.goto (-45), 3) := by decide +kernel
theorem dX7_readsNumber_75 : decode cX7_readsNumber 75 = .ok (.aload_n 0, 1) := by decide +kernel
theorem dX7_readsNumber_76 : decode cX7_readsNumber 76 = .ok (.getfield 23, 3) := by decide +kernel
theorem dX7_readsNumber_79 : decode cX7_readsNumber 79 = .ok (.iconst 4, 1) := by decide +kernel
theorem dX7_readsNumber_80 : decode cX7_readsNumber 80 = .ok (.aload_n 0, 1) := by decide +kernel
theorem dX7_readsNumber_81 : decode cX7_readsNumber 81 = .ok (.getfield 212, 3) := by decide +kernel
theorem dX7_readsNumber_84 : decode cX7_readsNumber 84 = .ok (.imul, 1) := by decide +kernel
theorem dX7_readsNumber_85 : decode cX7_readsNumber 85 = .ok (.iload_n 1, 1) := by decide +kernel
theorem dX7_readsNumber_86 : decode cX7_readsNumber 86 = .ok (.iadd, 1) := by decide +kernel
theorem dX7_readsNumber_87 : decode cX7_readsNumber 87 = .ok (.iload_n 2, 1) := by decide +kernel
theorem dX7_readsNumber_88 : decode cX7_readsNumber 88 = .ok (.iastore, 1) := by decide +kernel
theorem dX7_readsNumber_89 : decode cX7_readsNumber 89 = .ok (.iconst 1, 1) := by decide +kernel
theorem dX7_readsNumber_90 : decode cX7_readsNumber 90 = .ok (.ireturn, 1) := by decide +kernel
set_option maxRecDepth 20000 in
theorem ggX7_readsCommand_X7_readsWord : GoodIn wsX7_readsCommand wsX7_readsWord := goodIn_r _ [8, 1, 9, 10, 11, 7, 12, 13, 14, 15, 16, 17, 32, 33, 34, 35, 36, 37, 38, 39, 40, 41, 42, 43, 44, 45, 46, 47] (by decide +kernel) (by decide +kernel)
set_option maxRecDepth 20000 in
theorem gX7_readsCommand_X7_readsWord : GoodIn wsX7_readsCommand (wsV RX7 215 RX7 yX7_readsWord wsX7_readsWord) := goodIn_app (goodIn_of _ (by decide +kernel)) ggX7_readsCommand_X7_readsWord
set_option maxRecDepth 20000 in
theorem ggX7_readsCommand_X7_kindOf : GoodIn wsX7_readsCommand wsX7_kindOf := goodIn_r _ [20, 21, 22, 7, 23] (by decide +kernel) (by decide +kernel)
set_option maxRecDepth 20000 in
theorem gX7_readsCommand_X7_kindOf : GoodIn wsX7_readsCommand (va_wsS RX7 218 yX7_kindOf wsX7_kindOf) := goodIn_app (goodIn_of _ (by decide +kernel)) ggX7_readsCommand_X7_kindOf
set_option maxRecDepth 20000 in
theorem ggX7_readsCommand_X7_readsNumber : GoodIn wsX7_readsCommand wsX7_readsNumber := goodIn_r _ [27, 1, 2, 3, 28, 29, 30, 7, 31, 9, 10, 11, 12, 13, 14, 15, 16, 17, 32, 33, 34, 35, 36, 37, 38, 39, 40, 41, 42, 43, 44, 45, 46, 47] (by decide +kernel) (by decide +kernel)
set_option maxRecDepth 20000 in
theorem gX7_readsCommand_X7_readsNumber : GoodIn wsX7_readsCommand (wsV RX7 221 RX7 yX7_readsNumber wsX7_readsNumber) := goodIn_app (goodIn_of _ (by decide +kernel)) ggX7_readsCommand_X7_readsNumber
set_option maxRecDepth 20000 in
theorem ggX7_readsCommand_X7_skips : GoodIn wsX7_readsCommand wsX7_skips := goodIn_r _ [31, 1, 9, 10, 11, 7, 12, 13, 14, 32, 33, 34, 35, 36, 37, 38, 39, 40, 41, 42, 43, 44, 45, 46, 47] (by decide +kernel) (by decide +kernel)
set_option maxRecDepth 20000 in
theorem gX7_readsCommand_X7_skips : GoodIn wsX7_readsCommand (wsV RX7 209 RX7 yX7_skips wsX7_skips) := goodIn_app (goodIn_of _ (by decide +kernel)) ggX7_readsCommand_X7_skips
set_option maxRecDepth 20000 in
theorem ggX7_readsCommand_X7_look : GoodIn wsX7_readsCommand wsX7_look := goodIn_r _ [12, 1, 13, 14, 32, 33, 34, 35, 36, 37, 38, 39, 40, 41, 42, 43, 44, 45, 46, 47] (by decide +kernel) (by decide +kernel)
set_option maxRecDepth 20000 in
theorem gX7_readsCommand_X7_look : GoodIn wsX7_readsCommand (wsV RX7 202 RX7 yX7_look wsX7_look) := goodIn_app (goodIn_of _ (by decide +kernel)) ggX7_readsCommand_X7_look
theorem dX7_readsCommand_0 : decode cX7_readsCommand 0 = .ok (.aload_n 0, 1) := by decide +kernel
theorem dX7_readsCommand_1 : decode cX7_readsCommand 1 = .ok (.getfield 199, 3) := by decide +kernel
theorem dX7_readsCommand_4 : decode cX7_readsCommand 4 = .ok (.istore_n 1, 1) := by decide +kernel
theorem dX7_readsCommand_5 : decode cX7_readsCommand 5 = .ok (.aload_n 0, 1) := by decide +kernel
theorem dX7_readsCommand_6 : decode cX7_readsCommand 6 = .ok (.invokevirtual 215, 3) := by decide +kernel
theorem dX7_readsCommand_9 : decode cX7_readsCommand 9 = .ok (.invokestatic 218, 3) := by decide +kernel
theorem dX7_readsCommand_12 : decode cX7_readsCommand 12 = .ok (.istore_n 2, 1) := by decide +kernel
theorem dX7_readsCommand_13 : decode cX7_readsCommand 13 = .ok (.iload_n 2, 1) := by decide +kernel
theorem dX7_readsCommand_14 : decode cX7_readsCommand 14 = .ok (.ifCond .ne 10, 3) := by decide +kernel
theorem dX7_readsCommand_17 : decode cX7_readsCommand 17 = .ok (.aload_n 0, 1) := by decide +kernel
theorem dX7_readsCommand_18 : decode cX7_readsCommand 18 = .ok (.iload_n 1, 1) := by decide +kernel
theorem dX7_readsCommand_19 : decode cX7_readsCommand 19 = .ok (.putfield 199, 3) := by decide +kernel
theorem dX7_readsCommand_22 : decode cX7_readsCommand 22 = .ok (.iconst 0, 1) := by decide +kernel
theorem dX7_readsCommand_23 : decode cX7_readsCommand 23 = .ok (.ireturn, 1) := by decide +kernel
theorem dX7_readsCommand_24 : decode cX7_readsCommand 24 = .ok (.aload_n 0, 1) := by decide +kernel
theorem dX7_readsCommand_25 : decode cX7_readsCommand 25 = .ok (.getfield 23, 3) := by decide +kernel
theorem dX7_readsCommand_28 : decode cX7_readsCommand 28 = .ok (.iconst 4, 1) := by decide +kernel
theorem dX7_readsCommand_29 : decode cX7_readsCommand 29 = .ok (.aload_n 0, 1) := by decide +kernel
theorem dX7_readsCommand_30 : decode cX7_readsCommand 30 = .ok (.getfield 212, 3) := by decide +kernel
theorem dX7_readsCommand_33 : decode cX7_readsCommand 33 = .ok (.imul, 1) := by decide +kernel
theorem dX7_readsCommand_34 : decode cX7_readsCommand 34 = .ok (.iload_n 2, 1) := by decide +kernel
theorem dX7_readsCommand_35 : decode cX7_readsCommand 35 = .ok (.iastore, 1) := by decide +kernel
theorem dX7_readsCommand_36 : decode cX7_readsCommand 36 = .ok (.iconst 1, 1) := by decide +kernel
theorem dX7_readsCommand_37 : decode cX7_readsCommand 37 = .ok (.istore_n 3, 1) := by decide +kernel
theorem dX7_readsCommand_38 : decode cX7_readsCommand 38 = .ok (.iload_n 3, 1) := by decide +kernel
theorem dX7_readsCommand_39 : decode cX7_readsCommand 39 = .ok (.iconst 4, 1) := by decide +kernel
theorem dX7_readsCommand_40 : decode cX7_readsCommand 40 = .ok (.if_icmp .ge 24, 3) := by decide +kernel
theorem dX7_readsCommand_43 : decode cX7_readsCommand 43 = .ok (.iload_n 2, 1) := by decide +kernel
theorem dX7_readsCommand_44 : decode cX7_readsCommand 44 = .ok (.iconst 4, 1) := by decide +kernel
theorem dX7_readsCommand_45 : decode cX7_readsCommand 45 = .ok (.if_icmp .ge 19, 3) := by decide +kernel
theorem dX7_readsCommand_48 : decode cX7_readsCommand 48 = .ok (.aload_n 0, 1) := by decide +kernel
theorem dX7_readsCommand_49 : decode cX7_readsCommand 49 = .ok (.iload_n 3, 1) := by decide +kernel
theorem dX7_readsCommand_50 : decode cX7_readsCommand 50 = .ok (.invokevirtual 221, 3) := by decide +kernel
theorem dX7_readsCommand_53 : decode cX7_readsCommand 53 = .ok (.ifCond .ne 5, 3) := by decide +kernel
theorem dX7_readsCommand_56 : decode cX7_readsCommand 56 = .ok (.iconst 0, 1) := by decide +kernel
theorem dX7_readsCommand_57 : decode cX7_readsCommand 57 = .ok (.ireturn, 1) := by decide +kernel
theorem dX7_readsCommand_58 : decode cX7_readsCommand 58 = .ok (.iinc 3 1, 3) := by decide +kernel
theorem dX7_readsCommand_61 : decode cX7_readsCommand 61 = .ok (.goto (-23), 3) := by decide +kernel
theorem dX7_readsCommand_64 : decode cX7_readsCommand 64 = .ok (.aload_n 0, 1) := by decide +kernel
theorem dX7_readsCommand_65 : decode cX7_readsCommand 65 = .ok (.invokevirtual 209, 3) := by decide +kernel
theorem dX7_readsCommand_68 : decode cX7_readsCommand 68 = .ok (.pop, 1) := by decide +kernel
theorem dX7_readsCommand_69 : decode cX7_readsCommand 69 = .ok (.aload_n 0, 1) := by decide +kernel
theorem dX7_readsCommand_70 : decode cX7_readsCommand 70 = .ok (.invokevirtual 202, 3) := by decide +kernel
theorem dX7_readsCommand_73 : decode cX7_readsCommand 73 = .ok (.bipush 59, 2) := by decide +kernel
theorem dX7_readsCommand_75 : decode cX7_readsCommand 75 = .ok (.if_icmp .eq 5, 3) := by decide +kernel
theorem dX7_readsCommand_78 : decode cX7_readsCommand 78 = .ok (.iconst 0, 1) := by decide +kernel
theorem dX7_readsCommand_79 : decode cX7_readsCommand 79 = .ok (.ireturn, 1) := by decide +kernel
theorem dX7_readsCommand_80 : decode cX7_readsCommand 80 = .ok (.aload_n 0, 1) := by decide +kernel
theorem dX7_readsCommand_81 : decode cX7_readsCommand 81 = .ok (.dup, 1) := by decide +kernel
theorem dX7_readsCommand_82 : decode cX7_readsCommand 82 = .ok (.getfield 199, 3) := by decide +kernel
theorem dX7_readsCommand_85 : decode cX7_readsCommand 85 = .ok (.iconst 1, 1) := by decide +kernel
theorem dX7_readsCommand_86 : decode cX7_readsCommand 86 = .ok (.iadd, 1) := by decide +kernel
theorem dX7_readsCommand_87 : decode cX7_readsCommand 87 = .ok (.putfield 199, 3) := by decide +kernel
theorem dX7_readsCommand_90 : decode cX7_readsCommand 90 = .ok (.aload_n 0, 1) := by decide +kernel
theorem dX7_readsCommand_91 : decode cX7_readsCommand 91 = .ok (.dup, 1) := by decide +kernel
theorem dX7_readsCommand_92 : decode cX7_readsCommand 92 = .ok (.getfield 212, 3) := by decide +kernel
theorem dX7_readsCommand_95 : decode cX7_readsCommand 95 = .ok (.iconst 1, 1) := by decide +kernel
theorem dX7_readsCommand_96 : decode cX7_readsCommand 96 = .ok (.iadd, 1) := by decide +kernel
theorem dX7_readsCommand_97 : decode cX7_readsCommand 97 = .ok (.putfield 212, 3) := by decide +kernel
theorem dX7_readsCommand_100 : decode cX7_readsCommand 100 = .ok (.iconst 1, 1) := by decide +kernel
theorem dX7_readsCommand_101 : decode cX7_readsCommand 101 = .ok (.ireturn, 1) := by decide +kernel
set_option maxRecDepth 20000 in
theorem ggX7_reads_X7_skips : GoodIn wsX7_reads wsX7_skips := goodIn_r _ [8, 1, 9, 10, 11, 7, 12, 3, 13, 36, 37, 38, 39, 40, 41, 42, 43, 44, 45, 46, 47, 48, 49, 50, 51] (by decide +kernel) (by decide +kernel)
set_option maxRecDepth 20000 in
theorem gX7_reads_X7_skips : GoodIn wsX7_reads (wsV RX7 209 RX7 yX7_skips wsX7_skips) := goodIn_app (goodIn_of _ (by decide +kernel)) ggX7_reads_X7_skips
set_option maxRecDepth 20000 in
theorem ggX7_reads_X7_readsCommand : GoodIn wsX7_reads wsX7_readsCommand := goodIn_r _ [17, 1, 18, 2, 19, 20, 21, 7, 22, 9, 10, 11, 12, 3, 13, 23, 24, 25, 26, 27, 28, 29, 30, 31, 32, 33, 34, 35, 4, 5, 6, 8, 36, 37, 38, 39, 40, 41, 42, 43, 44, 45, 46, 47, 48, 49, 50, 51] (by decide +kernel) (by decide +kernel)
set_option maxRecDepth 20000 in
theorem gX7_reads_X7_readsCommand : GoodIn wsX7_reads (wsV RX7 224 RX7 yX7_readsCommand wsX7_readsCommand) := goodIn_app (goodIn_of _ (by decide +kernel)) ggX7_reads_X7_readsCommand
theorem dX7_reads_0 : decode cX7_reads 0 = .ok (.aload_n 0, 1) := by decide +kernel
theorem dX7_reads_1 : decode cX7_reads 1 = .ok (.iconst 0, 1) := by decide +kernel
theorem dX7_reads_2 : decode cX7_reads 2 = .ok (.putfield 199, 3) := by decide +kernel
theorem dX7_reads_5 : decode cX7_reads 5 = .ok (.aload_n 0, 1) := by decide +kernel
theorem dX7_reads_6 : decode cX7_reads 6 = .ok (.iconst 0, 1) := by decide +kernel
theorem dX7_reads_7 : decode cX7_reads 7 = .ok (.putfield 212, 3) := by decide +kernel
theorem dX7_reads_10 : decode cX7_reads 10 = .ok (.aload_n 0, 1) := by decide +kernel
theorem dX7_reads_11 : decode cX7_reads 11 = .ok (.invokevirtual 209, 3) := by decide +kernel
theorem dX7_reads_14 : decode cX7_reads 14 = .ok (.pop, 1) := by decide +kernel
theorem dX7_reads_15 : decode cX7_reads 15 = .ok (.iconst 1, 1) := by decide +kernel
theorem dX7_reads_16 : decode cX7_reads 16 = .ok (.istore_n 1, 1) := by decide +kernel
theorem dX7_reads_17 : decode cX7_reads 17 = .ok (.iload_n 1, 1) := by decide +kernel
theorem dX7_reads_18 : decode cX7_reads 18 = .ok (.ifCond .eq 31, 3) := by decide +kernel
theorem dX7_reads_21 : decode cX7_reads 21 = .ok (.aload_n 0, 1) := by decide +kernel
theorem dX7_reads_22 : decode cX7_reads 22 = .ok (.getfield 199, 3) := by decide +kernel
theorem dX7_reads_25 : decode cX7_reads 25 = .ok (.aload_n 0, 1) := by decide +kernel
theorem dX7_reads_26 : decode cX7_reads 26 = .ok (.getfield 187, 3) := by decide +kernel
theorem dX7_reads_29 : decode cX7_reads 29 = .ok (.if_icmp .ge 20, 3) := by decide +kernel
theorem dX7_reads_32 : decode cX7_reads 32 = .ok (.aload_n 0, 1) := by decide +kernel
theorem dX7_reads_33 : decode cX7_reads 33 = .ok (.invokevirtual 224, 3) := by decide +kernel
theorem dX7_reads_36 : decode cX7_reads 36 = .ok (.istore_n 1, 1) := by decide +kernel
theorem dX7_reads_37 : decode cX7_reads 37 = .ok (.iload_n 1, 1) := by decide +kernel
theorem dX7_reads_38 : decode cX7_reads 38 = .ok (.ifCond .eq (-21), 3) := by decide +kernel
theorem dX7_reads_41 : decode cX7_reads 41 = .ok (.aload_n 0, 1) := by decide +kernel
theorem dX7_reads_42 : decode cX7_reads 42 = .ok (.invokevirtual 209, 3) := by decide +kernel
theorem dX7_reads_45 : decode cX7_reads 45 = .ok (.pop, 1) := by decide +kernel
theorem dX7_reads_46 : decode cX7_reads 46 = .ok (.goto (-29), 3) := by decide +kernel
theorem dX7_reads_49 : decode cX7_reads 49 = .ok (.iload_n 1, 1) := by decide +kernel
theorem dX7_reads_50 : decode cX7_reads 50 = .ok (.ireturn, 1) := by decide +kernel
set_option maxRecDepth 20000 in
theorem ggX7_does_X7_cutBars : GoodIn wsX7_does wsX7_cutBars := goodIn_r _ [6, 7, 8, 5, 9] (by decide +kernel) (by decide +kernel)
set_option maxRecDepth 20000 in
theorem gX7_does_X7_cutBars : GoodIn wsX7_does (va_wsS RX7 127 yX7_cutBars wsX7_cutBars) := goodIn_app (goodIn_of _ (by decide +kernel)) ggX7_does_X7_cutBars
set_option maxRecDepth 20000 in
theorem ggX7_does_X7_cuts : GoodIn wsX7_does wsX7_cuts := goodIn_r _ [13, 2, 14, 15, 16, 5, 17, 18, 19, 20, 21, 22, 23, 24, 25, 127, 128, 129, 130, 131, 132, 133, 134, 135, 136, 137, 138, 139, 140, 141, 142] (by decide +kernel) (by decide +kernel)
set_option maxRecDepth 20000 in
theorem gX7_does_X7_cuts : GoodIn wsX7_does (wsV RX7 134 RX7 yX7_cuts wsX7_cuts) := goodIn_app (goodIn_of _ (by decide +kernel)) ggX7_does_X7_cuts
set_option maxRecDepth 20000 in
theorem ggX7_does_X7_bars : GoodIn wsX7_does wsX7_bars := goodIn_r _ [28, 7, 8, 5, 9] (by decide +kernel) (by decide +kernel)
set_option maxRecDepth 20000 in
theorem gX7_does_X7_bars : GoodIn wsX7_does (va_wsS RX7 137 yX7_bars wsX7_bars) := goodIn_app (goodIn_of _ (by decide +kernel)) ggX7_does_X7_bars
set_option maxRecDepth 20000 in
theorem ggX7_does_X7_number : GoodIn wsX7_does wsX7_number := goodIn_r _ [31] (by decide +kernel) (by decide +kernel)
set_option maxRecDepth 20000 in
theorem gX7_does_X7_number : GoodIn wsX7_does (va_wsS RX7 140 yX7_number wsX7_number) := goodIn_app (goodIn_of _ (by decide +kernel)) ggX7_does_X7_number
set_option maxRecDepth 20000 in
theorem ggX7_does_X7_uses : GoodIn wsX7_does wsX7_uses := goodIn_r _ [35, 36, 2, 37, 38, 39, 5, 40, 41, 42, 14, 15, 16, 17, 18, 19, 20, 21, 43, 44, 45, 46, 47, 48, 49, 50, 51, 52, 53, 54, 55, 56, 57, 58, 59, 60, 61, 62, 63, 64, 65, 66, 67, 68, 69, 70, 71, 72, 73, 74, 75, 76, 77, 78, 79, 80, 81, 82, 83, 84, 85, 86, 87, 88, 89, 90, 91, 92, 93, 94, 95, 96, 97, 98, 99, 100, 101, 102, 103, 104, 105, 106, 107, 108, 109, 110, 111, 112, 113, 114, 115, 116, 117, 118, 22, 23, 24, 25, 127, 128, 129, 130, 131, 132, 133, 134, 135, 136, 137, 138, 139, 140, 141, 142] (by decide +kernel) (by decide +kernel)
set_option maxRecDepth 20000 in
theorem gX7_does_X7_uses : GoodIn wsX7_does (wsV RX7 143 RX7 yX7_uses wsX7_uses) := goodIn_app (goodIn_of _ (by decide +kernel)) ggX7_does_X7_uses
set_option maxRecDepth 20000 in
theorem ggX7_does_X7_is : GoodIn wsX7_does wsX7_is := goodIn_r _ [17, 18, 19, 20, 5, 21, 2, 127, 128, 129, 130, 131, 132, 133, 134, 135, 136, 137, 138, 139, 140, 141, 142] (by decide +kernel) (by decide +kernel)
set_option maxRecDepth 20000 in
theorem gX7_does_X7_is : GoodIn wsX7_does (wsV RX7 48 RX7 yX7_is wsX7_is) := goodIn_app (goodIn_of _ (by decide +kernel)) ggX7_does_X7_is
set_option maxRecDepth 20000 in
theorem ggX7_does_X7_goes : GoodIn wsX7_does wsX7_goes := goodIn_r _ [25, 2, 18, 19, 20, 5, 21, 127, 128, 129, 130, 131, 132, 133, 134, 135, 136, 137, 138, 139, 140, 141, 142] (by decide +kernel) (by decide +kernel)
set_option maxRecDepth 20000 in
theorem gX7_does_X7_goes : GoodIn wsX7_does (wsV RX7 115 RX7 yX7_goes wsX7_goes) := goodIn_app (goodIn_of _ (by decide +kernel)) ggX7_does_X7_goes
set_option maxRecDepth 20000 in
theorem ggX7_does_X7_addsTray : GoodIn wsX7_does wsX7_addsTray := goodIn_r _ [122, 2, 127, 128, 129, 130, 131, 132, 133, 134, 135, 136, 137, 138, 139, 140, 141, 142] (by decide +kernel) (by decide +kernel)
set_option maxRecDepth 20000 in
theorem gX7_does_X7_addsTray : GoodIn wsX7_does (wsV RX7 150 RX7 yX7_addsTray wsX7_addsTray) := goodIn_app (goodIn_of _ (by decide +kernel)) ggX7_does_X7_addsTray
set_option maxRecDepth 20000 in
theorem ggX7_does_X7_closes : GoodIn wsX7_does wsX7_closes := goodIn_r _ [126, 2, 99, 100, 101, 5, 102, 67, 68, 69, 70, 18, 19, 20, 21, 50, 51, 52, 53, 127, 128, 129, 130, 131, 132, 133, 134, 135, 136, 137, 138, 139, 140, 141, 142] (by decide +kernel) (by decide +kernel)
set_option maxRecDepth 20000 in
theorem gX7_does_X7_closes : GoodIn wsX7_does (wsV RX7 153 RX7 yX7_closes wsX7_closes) := goodIn_app (goodIn_of _ (by decide +kernel)) ggX7_does_X7_closes
theorem dX7_does_0 : decode cX7_does 0 = .ok (.aload_n 0, 1) := by decide +kernel
theorem dX7_does_1 : decode cX7_does 1 = .ok (.getfield 23, 3) := by decide +kernel
theorem dX7_does_4 : decode cX7_does 4 = .ok (.iload_n 1, 1) := by decide +kernel
theorem dX7_does_5 : decode cX7_does 5 = .ok (.iconst 1, 1) := by decide +kernel
theorem dX7_does_6 : decode cX7_does 6 = .ok (.iadd, 1) := by decide +kernel
theorem dX7_does_7 : decode cX7_does 7 = .ok (.iaload, 1) := by decide +kernel
theorem dX7_does_8 : decode cX7_does 8 = .ok (.istore_n 2, 1) := by decide +kernel
theorem dX7_does_9 : decode cX7_does 9 = .ok (.aload_n 0, 1) := by decide +kernel
theorem dX7_does_10 : decode cX7_does 10 = .ok (.getfield 23, 3) := by decide +kernel
theorem dX7_does_13 : decode cX7_does 13 = .ok (.iload_n 1, 1) := by decide +kernel
theorem dX7_does_14 : decode cX7_does 14 = .ok (.iconst 2, 1) := by decide +kernel
theorem dX7_does_15 : decode cX7_does 15 = .ok (.iadd, 1) := by decide +kernel
theorem dX7_does_16 : decode cX7_does 16 = .ok (.iaload, 1) := by decide +kernel
theorem dX7_does_17 : decode cX7_does 17 = .ok (.istore_n 3, 1) := by decide +kernel
theorem dX7_does_18 : decode cX7_does 18 = .ok (.aload_n 0, 1) := by decide +kernel
theorem dX7_does_19 : decode cX7_does 19 = .ok (.getfield 23, 3) := by decide +kernel
theorem dX7_does_22 : decode cX7_does 22 = .ok (.iload_n 1, 1) := by decide +kernel
theorem dX7_does_23 : decode cX7_does 23 = .ok (.iconst 3, 1) := by decide +kernel
theorem dX7_does_24 : decode cX7_does 24 = .ok (.iadd, 1) := by decide +kernel
theorem dX7_does_25 : decode cX7_does 25 = .ok (.iaload, 1) := by decide +kernel
theorem dX7_does_26 : decode cX7_does 26 = .ok (.istore 4, 2) := by decide +kernel
theorem dX7_does_28 : decode cX7_does 28 = .ok (.aload_n 0, 1) := by decide +kernel
theorem dX7_does_29 : decode cX7_does 29 = .ok (.getfield 23, 3) := by decide +kernel
theorem dX7_does_32 : decode cX7_does 32 = .ok (.iload_n 1, 1) := by decide +kernel
theorem dX7_does_33 : decode cX7_does 33 = .ok (.iaload, 1) := by decide +kernel
theorem dX7_does_34 : decode cX7_does 34 = .ok (.tableswitch 166 1 5 #[34, 61, 92, 131, 143], 34) := by decide +kernel
theorem dX7_does_68 : decode cX7_does 68 = .ok (.iload_n 2, 1) := by decide +kernel
theorem dX7_does_69 : decode cX7_does 69 = .ok (.iload_n 3, 1) := by decide +kernel
theorem dX7_does_70 : decode cX7_does 70 = .ok (.iload 4, 2) := by decide +kernel
theorem dX7_does_72 : decode cX7_does 72 = .ok (.invokestatic 127, 3) := by decide +kernel
theorem dX7_does_75 : decode cX7_does 75 = .ok (.ifCond .ne 18, 3) := by decide +kernel
theorem dX7_does_78 : decode cX7_does 78 = .ok (.aload_n 0, 1) := by decide +kernel
theorem dX7_does_79 : decode cX7_does 79 = .ok (.iload_n 2, 1) := by decide +kernel
theorem dX7_does_80 : decode cX7_does 80 = .ok (.iload_n 3, 1) := by decide +kernel
theorem dX7_does_81 : decode cX7_does 81 = .ok (.iload 4, 2) := by decide +kernel
theorem dX7_does_83 : decode cX7_does 83 = .ok (.invokevirtual 134, 3) := by decide +kernel
theorem dX7_does_86 : decode cX7_does 86 = .ok (.ifCond .lt 7, 3) := by decide +kernel
theorem dX7_does_89 : decode cX7_does 89 = .ok (.iconst 1, 1) := by decide +kernel
theorem dX7_does_90 : decode cX7_does 90 = .ok (.goto 4, 3) := by decide +kernel
theorem dX7_does_93 : decode cX7_does 93 = .ok (.iconst 0, 1) := by decide +kernel
theorem dX7_does_94 : decode cX7_does 94 = .ok (.ireturn, 1) := by decide +kernel
theorem dX7_does_95 : decode cX7_does 95 = .ok (.iload_n 2, 1) := by decide +kernel
theorem dX7_does_96 : decode cX7_does 96 = .ok (.iload_n 3, 1) := by decide +kernel
theorem dX7_does_97 : decode cX7_does 97 = .ok (.iload 4, 2) := by decide +kernel
theorem dX7_does_99 : decode cX7_does 99 = .ok (.invokestatic 137, 3) := by decide +kernel
theorem dX7_does_102 : decode cX7_does 102 = .ok (.ifCond .ne 22, 3) := by decide +kernel
theorem dX7_does_105 : decode cX7_does 105 = .ok (.aload_n 0, 1) := by decide +kernel
theorem dX7_does_106 : decode cX7_does 106 = .ok (.iload_n 2, 1) := by decide +kernel
theorem dX7_does_107 : decode cX7_does 107 = .ok (.iload_n 3, 1) := by decide +kernel
theorem dX7_does_108 : decode cX7_does 108 = .ok (.iload 4, 2) := by decide +kernel
theorem dX7_does_110 : decode cX7_does 110 = .ok (.invokestatic 140, 3) := by decide +kernel
theorem dX7_does_113 : decode cX7_does 113 = .ok (.invokevirtual 143, 3) := by decide +kernel
theorem dX7_does_116 : decode cX7_does 116 = .ok (.iconst (-1), 1) := by decide +kernel
theorem dX7_does_117 : decode cX7_does 117 = .ok (.if_icmp .eq 7, 3) := by decide +kernel
theorem dX7_does_120 : decode cX7_does 120 = .ok (.iconst 1, 1) := by decide +kernel
theorem dX7_does_121 : decode cX7_does 121 = .ok (.goto 4, 3) := by decide +kernel
theorem dX7_does_124 : decode cX7_does 124 = .ok (.iconst 0, 1) := by decide +kernel
theorem dX7_does_125 : decode cX7_does 125 = .ok (.ireturn, 1) := by decide +kernel
theorem dX7_does_126 : decode cX7_does 126 = .ok (.iload_n 2, 1) := by decide +kernel
theorem dX7_does_127 : decode cX7_does 127 = .ok (.iload_n 3, 1) := by decide +kernel
theorem dX7_does_128 : decode cX7_does 128 = .ok (.iload 4, 2) := by decide +kernel
theorem dX7_does_130 : decode cX7_does 130 = .ok (.invokestatic 137, 3) := by decide +kernel
theorem dX7_does_133 : decode cX7_does 133 = .ok (.ifCond .gt 17, 3) := by decide +kernel
theorem dX7_does_136 : decode cX7_does 136 = .ok (.aload_n 0, 1) := by decide +kernel
theorem dX7_does_137 : decode cX7_does 137 = .ok (.iload_n 2, 1) := by decide +kernel
theorem dX7_does_138 : decode cX7_does 138 = .ok (.iload_n 3, 1) := by decide +kernel
theorem dX7_does_139 : decode cX7_does 139 = .ok (.iload 4, 2) := by decide +kernel
theorem dX7_does_141 : decode cX7_does 141 = .ok (.invokestatic 140, 3) := by decide +kernel
theorem dX7_does_144 : decode cX7_does 144 = .ok (.invokevirtual 48, 3) := by decide +kernel
theorem dX7_does_147 : decode cX7_does 147 = .ok (.ifCond .ne 5, 3) := by decide +kernel
theorem dX7_does_150 : decode cX7_does 150 = .ok (.iconst 0, 1) := by decide +kernel
theorem dX7_does_151 : decode cX7_does 151 = .ok (.ireturn, 1) := by decide +kernel
theorem dX7_does_152 : decode cX7_does 152 = .ok (.aload_n 0, 1) := by decide +kernel
theorem dX7_does_153 : decode cX7_does 153 = .ok (.iload_n 2, 1) := by decide +kernel
theorem dX7_does_154 : decode cX7_does 154 = .ok (.iload_n 3, 1) := by decide +kernel
theorem dX7_does_155 : decode cX7_does 155 = .ok (.iload 4, 2) := by decide +kernel
theorem dX7_does_157 : decode cX7_does 157 = .ok (.invokestatic 140, 3) := by decide +kernel
theorem dX7_does_160 : decode cX7_does 160 = .ok (.invokevirtual 115, 3) := by decide +kernel
theorem dX7_does_163 : decode cX7_does 163 = .ok (.iconst 1, 1) := by decide +kernel
theorem dX7_does_164 : decode cX7_does 164 = .ok (.ireturn, 1) := by decide +kernel
theorem dX7_does_165 : decode cX7_does 165 = .ok (.aload_n 0, 1) := by decide +kernel
theorem dX7_does_166 : decode cX7_does 166 = .ok (.getfield 7, 3) := by decide +kernel
theorem dX7_does_169 : decode cX7_does 169 = .ok (.iconst 1, 1) := by decide +kernel
theorem dX7_does_170 : decode cX7_does 170 = .ok (.dup2, 1) := by decide +kernel
theorem dX7_does_171 : decode cX7_does 171 = .ok (.iaload, 1) := by decide +kernel
theorem dX7_does_172 : decode cX7_does 172 = .ok (.iconst 1, 1) := by decide +kernel
theorem dX7_does_173 : decode cX7_does 173 = .ok (.iadd, 1) := by decide +kernel
theorem dX7_does_174 : decode cX7_does 174 = .ok (.iastore, 1) := by decide +kernel
theorem dX7_does_175 : decode cX7_does 175 = .ok (.iconst 1, 1) := by decide +kernel
theorem dX7_does_176 : decode cX7_does 176 = .ok (.ireturn, 1) := by decide +kernel
theorem dX7_does_177 : decode cX7_does 177 = .ok (.aload_n 0, 1) := by decide +kernel
theorem dX7_does_178 : decode cX7_does 178 = .ok (.getfield 7, 3) := by decide +kernel
theorem dX7_does_181 : decode cX7_does 181 = .ok (.iconst 0, 1) := by decide +kernel
theorem dX7_does_182 : decode cX7_does 182 = .ok (.iaload, 1) := by decide +kernel
theorem dX7_does_183 : decode cX7_does 183 = .ok (.iconst 3, 1) := by decide +kernel
theorem dX7_does_184 : decode cX7_does 184 = .ok (.if_icmp .ge 14, 3) := by decide +kernel
theorem dX7_does_187 : decode cX7_does 187 = .ok (.aload_n 0, 1) := by decide +kernel
theorem dX7_does_188 : decode cX7_does 188 = .ok (.invokevirtual 150, 3) := by decide +kernel
theorem dX7_does_191 : decode cX7_does 191 = .ok (.ifCond .le 7, 3) := by decide +kernel
theorem dX7_does_194 : decode cX7_does 194 = .ok (.iconst 1, 1) := by decide +kernel
theorem dX7_does_195 : decode cX7_does 195 = .ok (.goto 4, 3) := by decide +kernel
theorem dX7_does_198 : decode cX7_does 198 = .ok (.iconst 0, 1) := by decide +kernel
theorem dX7_does_199 : decode cX7_does 199 = .ok (.ireturn, 1) := by decide +kernel
theorem dX7_does_200 : decode cX7_does 200 = .ok (.aload_n 0, 1) := by decide +kernel
theorem dX7_does_201 : decode cX7_does 201 = .ok (.invokevirtual 153, 3) := by decide +kernel
theorem dX7_does_204 : decode cX7_does 204 = .ok (.ifCond .lt 7, 3) := by decide +kernel
theorem dX7_does_207 : decode cX7_does 207 = .ok (.iconst 1, 1) := by decide +kernel
theorem dX7_does_208 : decode cX7_does 208 = .ok (.goto 4, 3) := by decide +kernel
theorem dX7_does_211 : decode cX7_does 211 = .ok (.iconst 0, 1) := by decide +kernel
theorem dX7_does_212 : decode cX7_does 212 = .ok (.ireturn, 1) := by decide +kernel
set_option maxRecDepth 20000 in
theorem ggX7_runCommands_X7_reads : GoodIn wsX7_runCommands wsX7_reads := goodIn_r _ [8, 2, 3, 9, 10, 11, 12, 7, 13, 14, 15, 16, 17, 18, 19, 20, 21, 22, 23, 24, 25, 26, 27, 28, 29, 30, 31, 32, 33, 34, 35, 36, 37, 38, 39, 40, 172, 173, 174, 175, 176, 177, 178, 179, 180, 181, 182, 183, 184, 185, 186, 187] (by decide +kernel) (by decide +kernel)
set_option maxRecDepth 20000 in
theorem gX7_runCommands_X7_reads : GoodIn wsX7_runCommands (wsV RX7 228 RX7 yX7_reads wsX7_reads) := goodIn_app (goodIn_of _ (by decide +kernel)) ggX7_runCommands_X7_reads
set_option maxRecDepth 20000 in
theorem ggX7_runCommands_X7_saves : GoodIn wsX7_runCommands wsX7_saves := goodIn_r _ [44, 45, 46, 47, 172, 173, 174, 175, 176, 177, 178, 179, 180, 181, 182, 183, 184, 185, 186, 187] (by decide +kernel) (by decide +kernel)
set_option maxRecDepth 20000 in
theorem gX7_runCommands_X7_saves : GoodIn wsX7_runCommands (wsV RX7 131 RX7 yX7_saves wsX7_saves) := goodIn_app (goodIn_of _ (by decide +kernel)) ggX7_runCommands_X7_saves
set_option maxRecDepth 20000 in
theorem ggX7_runCommands_X7_does : GoodIn wsX7_runCommands wsX7_does := goodIn_r _ [51, 23, 47, 52, 53, 7, 54, 28, 29, 30, 55, 56, 57, 58, 59, 60, 61, 62, 63, 64, 65, 66, 67, 68, 69, 70, 71, 72, 73, 74, 75, 76, 77, 78, 79, 80, 81, 82, 83, 84, 85, 86, 87, 88, 89, 90, 91, 92, 93, 94, 95, 96, 97, 98, 99, 100, 101, 102, 103, 104, 105, 106, 107, 108, 109, 110, 111, 112, 113, 114, 115, 116, 117, 118, 119, 120, 121, 122, 123, 124, 125, 126, 127, 128, 129, 130, 131, 132, 133, 134, 135, 136, 137, 138, 139, 140, 141, 142, 143, 144, 145, 146, 147, 148, 149, 150, 151, 152, 153, 154, 155, 156, 157, 158, 159, 160, 161, 162, 163, 164, 165, 166, 167, 168, 169, 170, 171, 172, 173, 174, 175, 176, 177, 178, 179, 180, 181, 182, 183, 184, 185, 186, 187] (by decide +kernel) (by decide +kernel)
set_option maxRecDepth 20000 in
theorem gX7_runCommands_X7_does : GoodIn wsX7_runCommands (wsV RX7 231 RX7 yX7_does wsX7_does) := goodIn_app (goodIn_of _ (by decide +kernel)) ggX7_runCommands_X7_does
theorem dX7_runCommands_0 : decode cX7_runCommands 0 = .ok (.aload_n 0, 1) := by decide +kernel
theorem dX7_runCommands_1 : decode cX7_runCommands 1 = .ok (.iconst 0, 1) := by decide +kernel
theorem dX7_runCommands_2 : decode cX7_runCommands 2 = .ok (.putfield 26, 3) := by decide +kernel
theorem dX7_runCommands_5 : decode cX7_runCommands 5 = .ok (.aload_n 0, 1) := by decide +kernel
theorem dX7_runCommands_6 : decode cX7_runCommands 6 = .ok (.invokevirtual 228, 3) := by decide +kernel
theorem dX7_runCommands_9 : decode cX7_runCommands 9 = .ok (.ifCond .ne 11, 3) := by decide +kernel
theorem dX7_runCommands_12 : decode cX7_runCommands 12 = .ok (.bipush (-10), 2) := by decide +kernel
theorem dX7_runCommands_14 : decode cX7_runCommands 14 = .ok (.aload_n 0, 1) := by decide +kernel
theorem dX7_runCommands_15 : decode cX7_runCommands 15 = .ok (.getfield 199, 3) := by decide +kernel
theorem dX7_runCommands_18 : decode cX7_runCommands 18 = .ok (.isub, 1) := by decide +kernel
theorem dX7_runCommands_19 : decode cX7_runCommands 19 = .ok (.ireturn, 1) := by decide +kernel
theorem dX7_runCommands_20 : decode cX7_runCommands 20 = .ok (.aload_n 0, 1) := by decide +kernel
theorem dX7_runCommands_21 : decode cX7_runCommands 21 = .ok (.invokevirtual 131, 3) := by decide +kernel
theorem dX7_runCommands_24 : decode cX7_runCommands 24 = .ok (.iconst 0, 1) := by decide +kernel
theorem dX7_runCommands_25 : decode cX7_runCommands 25 = .ok (.istore_n 1, 1) := by decide +kernel
theorem dX7_runCommands_26 : decode cX7_runCommands 26 = .ok (.iload_n 1, 1) := by decide +kernel
theorem dX7_runCommands_27 : decode cX7_runCommands 27 = .ok (.aload_n 0, 1) := by decide +kernel
theorem dX7_runCommands_28 : decode cX7_runCommands 28 = .ok (.getfield 212, 3) := by decide +kernel
theorem dX7_runCommands_31 : decode cX7_runCommands 31 = .ok (.if_icmp .ge 19, 3) := by decide +kernel
theorem dX7_runCommands_34 : decode cX7_runCommands 34 = .ok (.aload_n 0, 1) := by decide +kernel
theorem dX7_runCommands_35 : decode cX7_runCommands 35 = .ok (.iconst 4, 1) := by decide +kernel
theorem dX7_runCommands_36 : decode cX7_runCommands 36 = .ok (.iload_n 1, 1) := by decide +kernel
theorem dX7_runCommands_37 : decode cX7_runCommands 37 = .ok (.imul, 1) := by decide +kernel
theorem dX7_runCommands_38 : decode cX7_runCommands 38 = .ok (.invokevirtual 231, 3) := by decide +kernel
theorem dX7_runCommands_41 : decode cX7_runCommands 41 = .ok (.ifCond .eq 9, 3) := by decide +kernel
theorem dX7_runCommands_44 : decode cX7_runCommands 44 = .ok (.iinc 1 1, 3) := by decide +kernel
theorem dX7_runCommands_47 : decode cX7_runCommands 47 = .ok (.goto (-21), 3) := by decide +kernel
theorem dX7_runCommands_50 : decode cX7_runCommands 50 = .ok (.iload_n 1, 1) := by decide +kernel
theorem dX7_runCommands_51 : decode cX7_runCommands 51 = .ok (.ireturn, 1) := by decide +kernel
set_option maxRecDepth 20000 in
theorem ggX7_digest_X7_wholeBy : GoodIn wsX7_digest wsX7_wholeBy := goodIn_r _ [10, 5, 11, 12, 13, 14, 9, 15, 16, 17, 18, 19, 20, 21, 22, 23, 24, 25, 26, 27, 28, 29, 30, 31, 32, 33, 34, 35, 36, 37, 38, 39, 40, 41, 42, 43, 44, 45, 46, 47, 48, 49, 50, 51, 52, 53, 54, 55, 119, 120, 121, 122, 123, 124, 125, 126, 127, 128, 129, 130, 131, 132, 133, 134] (by decide +kernel) (by decide +kernel)
set_option maxRecDepth 20000 in
theorem gX7_digest_X7_wholeBy : GoodIn wsX7_digest (wsV RX7 190 RX7 yX7_wholeBy wsX7_wholeBy) := goodIn_app (goodIn_of _ (by decide +kernel)) ggX7_digest_X7_wholeBy
set_option maxRecDepth 20000 in
theorem ggX7_digest_X7_signBy : GoodIn wsX7_digest wsX7_signBy := goodIn_r _ [59, 5, 52, 53, 54, 9, 55, 20, 21, 22, 23, 60, 61, 62, 63, 64, 65, 66, 119, 120, 121, 122, 123, 124, 125, 126, 127, 128, 129, 130, 131, 132, 133, 134] (by decide +kernel) (by decide +kernel)
set_option maxRecDepth 20000 in
theorem gX7_digest_X7_signBy : GoodIn wsX7_digest (wsV RX7 162 RX7 yX7_signBy wsX7_signBy) := goodIn_app (goodIn_of _ (by decide +kernel)) ggX7_digest_X7_signBy
set_option maxRecDepth 20000 in
theorem ggX7_digest_X7_letterBy : GoodIn wsX7_digest wsX7_letterBy := goodIn_r _ [70, 28, 29, 30, 9, 31, 5, 32, 33, 34, 35, 52, 53, 54, 55, 20, 21, 22, 23, 60, 61, 62, 63, 64, 65, 66, 36, 37, 38, 39, 40, 41, 42, 43, 119, 120, 121, 122, 123, 124, 125, 126, 127, 128, 129, 130, 131, 132, 133, 134] (by decide +kernel) (by decide +kernel)
set_option maxRecDepth 20000 in
theorem gX7_digest_X7_letterBy : GoodIn wsX7_digest (wsV RX7 159 RX7 yX7_letterBy wsX7_letterBy) := goodIn_app (goodIn_of _ (by decide +kernel)) ggX7_digest_X7_letterBy
set_option maxRecDepth 20000 in
theorem ggX7_digest_X7_trayBy : GoodIn wsX7_digest wsX7_trayBy := goodIn_r _ [19, 5, 20, 21, 22, 9, 23, 24, 25, 26, 27, 28, 29, 30, 31, 32, 33, 34, 35, 36, 37, 38, 39, 40, 41, 42, 43, 119, 120, 121, 122, 123, 124, 125, 126, 127, 128, 129, 130, 131, 132, 133, 134] (by decide +kernel) (by decide +kernel)
set_option maxRecDepth 20000 in
theorem gX7_digest_X7_trayBy : GoodIn wsX7_digest (wsV RX7 168 RX7 yX7_trayBy wsX7_trayBy) := goodIn_app (goodIn_of _ (by decide +kernel)) ggX7_digest_X7_trayBy
set_option maxRecDepth 20000 in
theorem ggX7_digest_X7_shelfBy : GoodIn wsX7_digest wsX7_shelfBy := goodIn_r _ [74, 36, 37, 38, 9, 39, 40, 41, 42, 43, 5, 75, 76, 77, 78, 79, 80, 81, 82, 20, 21, 22, 23, 83, 84, 85, 86, 87, 88, 89, 90, 91, 28, 29, 30, 31, 92, 93, 94, 95, 96, 97, 98, 99, 100, 101, 102, 103, 48, 49, 50, 51, 52, 53, 54, 55, 119, 120, 121, 122, 123, 124, 125, 126, 127, 128, 129, 130, 131, 132, 133, 134] (by decide +kernel) (by decide +kernel)
set_option maxRecDepth 20000 in
theorem gX7_digest_X7_shelfBy : GoodIn wsX7_digest (wsV RX7 175 RX7 yX7_shelfBy wsX7_shelfBy) := goodIn_app (goodIn_of _ (by decide +kernel)) ggX7_digest_X7_shelfBy
set_option maxRecDepth 20000 in
theorem ggX7_digest_X7_streetAt : GoodIn wsX7_digest wsX7_streetAt := goodIn_r _ [107, 5, 108, 109, 9, 110, 119, 120, 121, 122, 123, 124, 125, 126, 127, 128, 129, 130, 131, 132, 133, 134] (by decide +kernel) (by decide +kernel)
set_option maxRecDepth 20000 in
theorem gX7_digest_X7_streetAt : GoodIn wsX7_digest (wsV RX7 181 RX7 yX7_streetAt wsX7_streetAt) := goodIn_app (goodIn_of _ (by decide +kernel)) ggX7_digest_X7_streetAt
set_option maxRecDepth 20000 in
theorem ggX7_digest_X7_oldestOne : GoodIn wsX7_digest wsX7_oldestOne := goodIn_r _ [114, 52, 53, 54, 9, 55, 20, 21, 22, 23, 5, 108, 109, 110, 119, 120, 121, 122, 123, 124, 125, 126, 127, 128, 129, 130, 131, 132, 133, 134] (by decide +kernel) (by decide +kernel)
set_option maxRecDepth 20000 in
theorem gX7_digest_X7_oldestOne : GoodIn wsX7_digest (wsV RX7 193 RX7 yX7_oldestOne wsX7_oldestOne) := goodIn_app (goodIn_of _ (by decide +kernel)) ggX7_digest_X7_oldestOne
set_option maxRecDepth 20000 in
theorem ggX7_digest_X7_widestArea : GoodIn wsX7_digest wsX7_widestArea := goodIn_r _ [118, 5, 83, 84, 85, 9, 86, 87, 88, 89, 90, 91, 28, 29, 30, 31, 79, 80, 81, 82, 20, 21, 22, 23, 92, 93, 94, 95, 40, 41, 42, 43, 119, 120, 121, 122, 123, 124, 125, 126, 127, 128, 129, 130, 131, 132, 133, 134] (by decide +kernel) (by decide +kernel)
set_option maxRecDepth 20000 in
theorem gX7_digest_X7_widestArea : GoodIn wsX7_digest (wsV RX7 196 RX7 yX7_widestArea wsX7_widestArea) := goodIn_app (goodIn_of _ (by decide +kernel)) ggX7_digest_X7_widestArea
theorem dX7_digest_0 : decode cX7_digest 0 = .ok (.aload_n 0, 1) := by decide +kernel
theorem dX7_digest_1 : decode cX7_digest 1 = .ok (.iconst 0, 1) := by decide +kernel
theorem dX7_digest_2 : decode cX7_digest 2 = .ok (.putfield 26, 3) := by decide +kernel
theorem dX7_digest_5 : decode cX7_digest 5 = .ok (.ldc2_w 234, 3) := by decide +kernel
theorem dX7_digest_8 : decode cX7_digest 8 = .ok (.aload_n 0, 1) := by decide +kernel
theorem dX7_digest_9 : decode cX7_digest 9 = .ok (.getfield 30, 3) := by decide +kernel
theorem dX7_digest_12 : decode cX7_digest 12 = .ok (.i2l, 1) := by decide +kernel
theorem dX7_digest_13 : decode cX7_digest 13 = .ok (.ladd, 1) := by decide +kernel
theorem dX7_digest_14 : decode cX7_digest 14 = .ok (.lstore_n 1, 1) := by decide +kernel
theorem dX7_digest_15 : decode cX7_digest 15 = .ok (.iconst 0, 1) := by decide +kernel
theorem dX7_digest_16 : decode cX7_digest 16 = .ok (.istore_n 3, 1) := by decide +kernel
theorem dX7_digest_17 : decode cX7_digest 17 = .ok (.iload_n 3, 1) := by decide +kernel
theorem dX7_digest_18 : decode cX7_digest 18 = .ok (.bipush 13, 2) := by decide +kernel
theorem dX7_digest_20 : decode cX7_digest 20 = .ok (.if_icmp .ge 22, 3) := by decide +kernel
theorem dX7_digest_23 : decode cX7_digest 23 = .ok (.ldc2_w 236, 3) := by decide +kernel
theorem dX7_digest_26 : decode cX7_digest 26 = .ok (.lload_n 1, 1) := by decide +kernel
theorem dX7_digest_27 : decode cX7_digest 27 = .ok (.lmul, 1) := by decide +kernel
theorem dX7_digest_28 : decode cX7_digest 28 = .ok (.aload_n 0, 1) := by decide +kernel
theorem dX7_digest_29 : decode cX7_digest 29 = .ok (.iload_n 3, 1) := by decide +kernel
theorem dX7_digest_30 : decode cX7_digest 30 = .ok (.invokevirtual 190, 3) := by decide +kernel
theorem dX7_digest_33 : decode cX7_digest 33 = .ok (.i2l, 1) := by decide +kernel
theorem dX7_digest_34 : decode cX7_digest 34 = .ok (.ladd, 1) := by decide +kernel
theorem dX7_digest_35 : decode cX7_digest 35 = .ok (.lstore_n 1, 1) := by decide +kernel
theorem dX7_digest_36 : decode cX7_digest 36 = .ok (.iinc 3 1, 3) := by decide +kernel
theorem dX7_digest_39 : decode cX7_digest 39 = .ok (.goto (-22), 3) := by decide +kernel
theorem dX7_digest_42 : decode cX7_digest 42 = .ok (.iconst 0, 1) := by decide +kernel
theorem dX7_digest_43 : decode cX7_digest 43 = .ok (.istore_n 3, 1) := by decide +kernel
theorem dX7_digest_44 : decode cX7_digest 44 = .ok (.iload_n 3, 1) := by decide +kernel
theorem dX7_digest_45 : decode cX7_digest 45 = .ok (.bipush 64, 2) := by decide +kernel
theorem dX7_digest_47 : decode cX7_digest 47 = .ok (.if_icmp .ge 27, 3) := by decide +kernel
theorem dX7_digest_50 : decode cX7_digest 50 = .ok (.ldc2_w 236, 3) := by decide +kernel
theorem dX7_digest_53 : decode cX7_digest 53 = .ok (.lload_n 1, 1) := by decide +kernel
theorem dX7_digest_54 : decode cX7_digest 54 = .ok (.lmul, 1) := by decide +kernel
theorem dX7_digest_55 : decode cX7_digest 55 = .ok (.aload_n 0, 1) := by decide +kernel
theorem dX7_digest_56 : decode cX7_digest 56 = .ok (.iload_n 3, 1) := by decide +kernel
theorem dX7_digest_57 : decode cX7_digest 57 = .ok (.iconst 4, 1) := by decide +kernel
theorem dX7_digest_58 : decode cX7_digest 58 = .ok (.idiv, 1) := by decide +kernel
theorem dX7_digest_59 : decode cX7_digest 59 = .ok (.iload_n 3, 1) := by decide +kernel
theorem dX7_digest_60 : decode cX7_digest 60 = .ok (.iconst 4, 1) := by decide +kernel
theorem dX7_digest_61 : decode cX7_digest 61 = .ok (.irem, 1) := by decide +kernel
theorem dX7_digest_62 : decode cX7_digest 62 = .ok (.invokevirtual 162, 3) := by decide +kernel
theorem dX7_digest_65 : decode cX7_digest 65 = .ok (.i2l, 1) := by decide +kernel
theorem dX7_digest_66 : decode cX7_digest 66 = .ok (.ladd, 1) := by decide +kernel
theorem dX7_digest_67 : decode cX7_digest 67 = .ok (.lstore_n 1, 1) := by decide +kernel
theorem dX7_digest_68 : decode cX7_digest 68 = .ok (.iinc 3 1, 3) := by decide +kernel
theorem dX7_digest_71 : decode cX7_digest 71 = .ok (.goto (-27), 3) := by decide +kernel
theorem dX7_digest_74 : decode cX7_digest 74 = .ok (.iconst 0, 1) := by decide +kernel
theorem dX7_digest_75 : decode cX7_digest 75 = .ok (.istore_n 3, 1) := by decide +kernel
theorem dX7_digest_76 : decode cX7_digest 76 = .ok (.iload_n 3, 1) := by decide +kernel
theorem dX7_digest_77 : decode cX7_digest 77 = .ok (.sipush 1296, 3) := by decide +kernel
theorem dX7_digest_80 : decode cX7_digest 80 = .ok (.if_icmp .ge 29, 3) := by decide +kernel
theorem dX7_digest_83 : decode cX7_digest 83 = .ok (.ldc2_w 236, 3) := by decide +kernel
theorem dX7_digest_86 : decode cX7_digest 86 = .ok (.lload_n 1, 1) := by decide +kernel
theorem dX7_digest_87 : decode cX7_digest 87 = .ok (.lmul, 1) := by decide +kernel
theorem dX7_digest_88 : decode cX7_digest 88 = .ok (.aload_n 0, 1) := by decide +kernel
theorem dX7_digest_89 : decode cX7_digest 89 = .ok (.iload_n 3, 1) := by decide +kernel
theorem dX7_digest_90 : decode cX7_digest 90 = .ok (.bipush 9, 2) := by decide +kernel
theorem dX7_digest_92 : decode cX7_digest 92 = .ok (.idiv, 1) := by decide +kernel
theorem dX7_digest_93 : decode cX7_digest 93 = .ok (.iload_n 3, 1) := by decide +kernel
theorem dX7_digest_94 : decode cX7_digest 94 = .ok (.bipush 9, 2) := by decide +kernel
theorem dX7_digest_96 : decode cX7_digest 96 = .ok (.irem, 1) := by decide +kernel
theorem dX7_digest_97 : decode cX7_digest 97 = .ok (.invokevirtual 159, 3) := by decide +kernel
theorem dX7_digest_100 : decode cX7_digest 100 = .ok (.i2l, 1) := by decide +kernel
theorem dX7_digest_101 : decode cX7_digest 101 = .ok (.ladd, 1) := by decide +kernel
theorem dX7_digest_102 : decode cX7_digest 102 = .ok (.lstore_n 1, 1) := by decide +kernel
theorem dX7_digest_103 : decode cX7_digest 103 = .ok (.iinc 3 1, 3) := by decide +kernel
theorem dX7_digest_106 : decode cX7_digest 106 = .ok (.goto (-30), 3) := by decide +kernel
theorem dX7_digest_109 : decode cX7_digest 109 = .ok (.iconst 0, 1) := by decide +kernel
theorem dX7_digest_110 : decode cX7_digest 110 = .ok (.istore_n 3, 1) := by decide +kernel
theorem dX7_digest_111 : decode cX7_digest 111 = .ok (.iload_n 3, 1) := by decide +kernel
theorem dX7_digest_112 : decode cX7_digest 112 = .ok (.aload_n 0, 1) := by decide +kernel
theorem dX7_digest_113 : decode cX7_digest 113 = .ok (.getfield 7, 3) := by decide +kernel
theorem dX7_digest_116 : decode cX7_digest 116 = .ok (.iconst 0, 1) := by decide +kernel
theorem dX7_digest_117 : decode cX7_digest 117 = .ok (.iaload, 1) := by decide +kernel
theorem dX7_digest_118 : decode cX7_digest 118 = .ok (.if_icmp .ge 88, 3) := by decide +kernel
theorem dX7_digest_121 : decode cX7_digest 121 = .ok (.iconst 0, 1) := by decide +kernel
theorem dX7_digest_122 : decode cX7_digest 122 = .ok (.istore 4, 2) := by decide +kernel
theorem dX7_digest_124 : decode cX7_digest 124 = .ok (.iload 4, 2) := by decide +kernel
theorem dX7_digest_126 : decode cX7_digest 126 = .ok (.iconst 4, 1) := by decide +kernel
theorem dX7_digest_127 : decode cX7_digest 127 = .ok (.if_icmp .ge 24, 3) := by decide +kernel
theorem dX7_digest_130 : decode cX7_digest 130 = .ok (.ldc2_w 236, 3) := by decide +kernel
theorem dX7_digest_133 : decode cX7_digest 133 = .ok (.lload_n 1, 1) := by decide +kernel
theorem dX7_digest_134 : decode cX7_digest 134 = .ok (.lmul, 1) := by decide +kernel
theorem dX7_digest_135 : decode cX7_digest 135 = .ok (.aload_n 0, 1) := by decide +kernel
theorem dX7_digest_136 : decode cX7_digest 136 = .ok (.iload_n 3, 1) := by decide +kernel
theorem dX7_digest_137 : decode cX7_digest 137 = .ok (.iload 4, 2) := by decide +kernel
theorem dX7_digest_139 : decode cX7_digest 139 = .ok (.invokevirtual 168, 3) := by decide +kernel
theorem dX7_digest_142 : decode cX7_digest 142 = .ok (.i2l, 1) := by decide +kernel
theorem dX7_digest_143 : decode cX7_digest 143 = .ok (.ladd, 1) := by decide +kernel
theorem dX7_digest_144 : decode cX7_digest 144 = .ok (.lstore_n 1, 1) := by decide +kernel
theorem dX7_digest_145 : decode cX7_digest 145 = .ok (.iinc 4 1, 3) := by decide +kernel
theorem dX7_digest_148 : decode cX7_digest 148 = .ok (.goto (-24), 3) := by decide +kernel
theorem dX7_digest_151 : decode cX7_digest 151 = .ok (.iconst 0, 1) := by decide +kernel
theorem dX7_digest_152 : decode cX7_digest 152 = .ok (.istore 4, 2) := by decide +kernel
theorem dX7_digest_154 : decode cX7_digest 154 = .ok (.iload 4, 2) := by decide +kernel
theorem dX7_digest_156 : decode cX7_digest 156 = .ok (.bipush 7, 2) := by decide +kernel
theorem dX7_digest_158 : decode cX7_digest 158 = .ok (.aload_n 0, 1) := by decide +kernel
theorem dX7_digest_159 : decode cX7_digest 159 = .ok (.getfield 7, 3) := by decide +kernel
theorem dX7_digest_162 : decode cX7_digest 162 = .ok (.bipush 44, 2) := by decide +kernel
theorem dX7_digest_164 : decode cX7_digest 164 = .ok (.iload_n 3, 1) := by decide +kernel
theorem dX7_digest_165 : decode cX7_digest 165 = .ok (.iadd, 1) := by decide +kernel
theorem dX7_digest_166 : decode cX7_digest 166 = .ok (.iaload, 1) := by decide +kernel
theorem dX7_digest_167 : decode cX7_digest 167 = .ok (.imul, 1) := by decide +kernel
theorem dX7_digest_168 : decode cX7_digest 168 = .ok (.if_icmp .ge 32, 3) := by decide +kernel
theorem dX7_digest_171 : decode cX7_digest 171 = .ok (.ldc2_w 236, 3) := by decide +kernel
theorem dX7_digest_174 : decode cX7_digest 174 = .ok (.lload_n 1, 1) := by decide +kernel
theorem dX7_digest_175 : decode cX7_digest 175 = .ok (.lmul, 1) := by decide +kernel
theorem dX7_digest_176 : decode cX7_digest 176 = .ok (.aload_n 0, 1) := by decide +kernel
theorem dX7_digest_177 : decode cX7_digest 177 = .ok (.iload_n 3, 1) := by decide +kernel
theorem dX7_digest_178 : decode cX7_digest 178 = .ok (.iload 4, 2) := by decide +kernel
theorem dX7_digest_180 : decode cX7_digest 180 = .ok (.bipush 7, 2) := by decide +kernel
theorem dX7_digest_182 : decode cX7_digest 182 = .ok (.idiv, 1) := by decide +kernel
theorem dX7_digest_183 : decode cX7_digest 183 = .ok (.iload 4, 2) := by decide +kernel
theorem dX7_digest_185 : decode cX7_digest 185 = .ok (.bipush 7, 2) := by decide +kernel
theorem dX7_digest_187 : decode cX7_digest 187 = .ok (.irem, 1) := by decide +kernel
theorem dX7_digest_188 : decode cX7_digest 188 = .ok (.invokevirtual 175, 3) := by decide +kernel
theorem dX7_digest_191 : decode cX7_digest 191 = .ok (.i2l, 1) := by decide +kernel
theorem dX7_digest_192 : decode cX7_digest 192 = .ok (.ladd, 1) := by decide +kernel
theorem dX7_digest_193 : decode cX7_digest 193 = .ok (.lstore_n 1, 1) := by decide +kernel
theorem dX7_digest_194 : decode cX7_digest 194 = .ok (.iinc 4 1, 3) := by decide +kernel
theorem dX7_digest_197 : decode cX7_digest 197 = .ok (.goto (-43), 3) := by decide +kernel
theorem dX7_digest_200 : decode cX7_digest 200 = .ok (.iinc 3 1, 3) := by decide +kernel
theorem dX7_digest_203 : decode cX7_digest 203 = .ok (.goto (-92), 3) := by decide +kernel
theorem dX7_digest_206 : decode cX7_digest 206 = .ok (.iconst 0, 1) := by decide +kernel
theorem dX7_digest_207 : decode cX7_digest 207 = .ok (.istore_n 3, 1) := by decide +kernel
theorem dX7_digest_208 : decode cX7_digest 208 = .ok (.iload_n 3, 1) := by decide +kernel
theorem dX7_digest_209 : decode cX7_digest 209 = .ok (.aload_n 0, 1) := by decide +kernel
theorem dX7_digest_210 : decode cX7_digest 210 = .ok (.getfield 7, 3) := by decide +kernel
theorem dX7_digest_213 : decode cX7_digest 213 = .ok (.bipush 7, 2) := by decide +kernel
theorem dX7_digest_215 : decode cX7_digest 215 = .ok (.iaload, 1) := by decide +kernel
theorem dX7_digest_216 : decode cX7_digest 216 = .ok (.if_icmp .ge 22, 3) := by decide +kernel
theorem dX7_digest_219 : decode cX7_digest 219 = .ok (.ldc2_w 236, 3) := by decide +kernel
theorem dX7_digest_222 : decode cX7_digest 222 = .ok (.lload_n 1, 1) := by decide +kernel
theorem dX7_digest_223 : decode cX7_digest 223 = .ok (.lmul, 1) := by decide +kernel
theorem dX7_digest_224 : decode cX7_digest 224 = .ok (.aload_n 0, 1) := by decide +kernel
theorem dX7_digest_225 : decode cX7_digest 225 = .ok (.iload_n 3, 1) := by decide +kernel
theorem dX7_digest_226 : decode cX7_digest 226 = .ok (.invokevirtual 181, 3) := by decide +kernel
theorem dX7_digest_229 : decode cX7_digest 229 = .ok (.i2l, 1) := by decide +kernel
theorem dX7_digest_230 : decode cX7_digest 230 = .ok (.ladd, 1) := by decide +kernel
theorem dX7_digest_231 : decode cX7_digest 231 = .ok (.lstore_n 1, 1) := by decide +kernel
theorem dX7_digest_232 : decode cX7_digest 232 = .ok (.iinc 3 1, 3) := by decide +kernel
theorem dX7_digest_235 : decode cX7_digest 235 = .ok (.goto (-27), 3) := by decide +kernel
theorem dX7_digest_238 : decode cX7_digest 238 = .ok (.ldc2_w 236, 3) := by decide +kernel
theorem dX7_digest_241 : decode cX7_digest 241 = .ok (.lload_n 1, 1) := by decide +kernel
theorem dX7_digest_242 : decode cX7_digest 242 = .ok (.lmul, 1) := by decide +kernel
theorem dX7_digest_243 : decode cX7_digest 243 = .ok (.aload_n 0, 1) := by decide +kernel
theorem dX7_digest_244 : decode cX7_digest 244 = .ok (.invokevirtual 193, 3) := by decide +kernel
theorem dX7_digest_247 : decode cX7_digest 247 = .ok (.i2l, 1) := by decide +kernel
theorem dX7_digest_248 : decode cX7_digest 248 = .ok (.ladd, 1) := by decide +kernel
theorem dX7_digest_249 : decode cX7_digest 249 = .ok (.lstore_n 1, 1) := by decide +kernel
theorem dX7_digest_250 : decode cX7_digest 250 = .ok (.ldc2_w 236, 3) := by decide +kernel
theorem dX7_digest_253 : decode cX7_digest 253 = .ok (.lload_n 1, 1) := by decide +kernel
theorem dX7_digest_254 : decode cX7_digest 254 = .ok (.lmul, 1) := by decide +kernel
theorem dX7_digest_255 : decode cX7_digest 255 = .ok (.aload_n 0, 1) := by decide +kernel
theorem dX7_digest_256 : decode cX7_digest 256 = .ok (.invokevirtual 196, 3) := by decide +kernel
theorem dX7_digest_259 : decode cX7_digest 259 = .ok (.i2l, 1) := by decide +kernel
theorem dX7_digest_260 : decode cX7_digest 260 = .ok (.ladd, 1) := by decide +kernel
theorem dX7_digest_261 : decode cX7_digest 261 = .ok (.lreturn, 1) := by decide +kernel
theorem dJ9_max_7cf53_0 : decode cJ9_max_7cf53 0 = .ok (.iload_n 0, 1) := by decide +kernel
theorem dJ9_max_7cf53_1 : decode cJ9_max_7cf53 1 = .ok (.iload_n 1, 1) := by decide +kernel
theorem dJ9_max_7cf53_2 : decode cJ9_max_7cf53 2 = .ok (.if_icmp .lt 7, 3) := by decide +kernel
theorem dJ9_max_7cf53_5 : decode cJ9_max_7cf53 5 = .ok (.iload_n 0, 1) := by decide +kernel
theorem dJ9_max_7cf53_6 : decode cJ9_max_7cf53 6 = .ok (.goto 4, 3) := by decide +kernel
theorem dJ9_max_7cf53_9 : decode cJ9_max_7cf53 9 = .ok (.iload_n 1, 1) := by decide +kernel
theorem dJ9_max_7cf53_10 : decode cJ9_max_7cf53 10 = .ok (.ireturn, 1) := by decide +kernel
theorem dJ9_min_7cf53_0 : decode cJ9_min_7cf53 0 = .ok (.iload_n 0, 1) := by decide +kernel
theorem dJ9_min_7cf53_1 : decode cJ9_min_7cf53 1 = .ok (.iload_n 1, 1) := by decide +kernel
theorem dJ9_min_7cf53_2 : decode cJ9_min_7cf53 2 = .ok (.if_icmp .gt 7, 3) := by decide +kernel
theorem dJ9_min_7cf53_5 : decode cJ9_min_7cf53 5 = .ok (.iload_n 0, 1) := by decide +kernel
theorem dJ9_min_7cf53_6 : decode cJ9_min_7cf53 6 = .ok (.goto 4, 3) := by decide +kernel
theorem dJ9_min_7cf53_9 : decode cJ9_min_7cf53 9 = .ok (.iload_n 1, 1) := by decide +kernel
theorem dJ9_min_7cf53_10 : decode cJ9_min_7cf53 10 = .ok (.ireturn, 1) := by decide +kernel
set_option maxRecDepth 20000 in
theorem ggJ0_length_8abf5_J0_coder_7d493 : GoodIn wsJ0_length_8abf5 wsJ0_coder_7d493 := goodIn_r _ [6, 7, 8] (by decide +kernel) (by decide +kernel)
set_option maxRecDepth 20000 in
theorem gJ0_length_8abf5_J0_coder_7d493 : GoodIn wsJ0_length_8abf5 (wsV RJ0 335 RJ0 yJ0_coder_7d493 wsJ0_coder_7d493) := goodIn_app (goodIn_of _ (by decide +kernel)) ggJ0_length_8abf5_J0_coder_7d493
theorem dJ0_length_8abf5_0 : decode cJ0_length_8abf5 0 = .ok (.aload_n 0, 1) := by decide +kernel
theorem dJ0_length_8abf5_1 : decode cJ0_length_8abf5 1 = .ok (.getfield 9, 3) := by decide +kernel
theorem dJ0_length_8abf5_4 : decode cJ0_length_8abf5 4 = .ok (.arraylength, 1) := by decide +kernel
theorem dJ0_length_8abf5_5 : decode cJ0_length_8abf5 5 = .ok (.aload_n 0, 1) := by decide +kernel
theorem dJ0_length_8abf5_6 : decode cJ0_length_8abf5 6 = .ok (.invokevirtual 335, 3) := by decide +kernel
theorem dJ0_length_8abf5_9 : decode cJ0_length_8abf5 9 = .ok (.ishr, 1) := by decide +kernel
theorem dJ0_length_8abf5_10 : decode cJ0_length_8abf5 10 = .ok (.ireturn, 1) := by decide +kernel
set_option maxRecDepth 20000 in
theorem ggJ0_charAt_5068e_J0_isLatin1_aae02 : GoodIn wsJ0_charAt_5068e wsJ0_isLatin1_aae02 := goodIn_r _ [6, 7, 8] (by decide +kernel) (by decide +kernel)
set_option maxRecDepth 20000 in
theorem gJ0_charAt_5068e_J0_isLatin1_aae02 : GoodIn wsJ0_charAt_5068e (wsV RJ0 492 RJ0 yJ0_isLatin1_aae02 wsJ0_isLatin1_aae02) := goodIn_app (goodIn_of _ (by decide +kernel)) ggJ0_charAt_5068e_J0_isLatin1_aae02
set_option maxRecDepth 20000 in
theorem ggJ0_charAt_5068e_J1_charAt_3b067 : GoodIn wsJ0_charAt_5068e wsJ1_charAt_3b067 := goodIn_r _ [12, 13, 14, 5, 15, 16, 17, 18, 19, 20] (by decide +kernel) (by decide +kernel)
set_option maxRecDepth 20000 in
theorem gJ0_charAt_5068e_J1_charAt_3b067 : GoodIn wsJ0_charAt_5068e (va_wsS RJ0 495 yJ1_charAt_3b067 wsJ1_charAt_3b067) := goodIn_app (goodIn_of _ (by decide +kernel)) ggJ0_charAt_5068e_J1_charAt_3b067
set_option maxRecDepth 20000 in
theorem ggJ0_charAt_5068e_J2_charAt_3b067 : GoodIn wsJ0_charAt_5068e wsJ2_charAt_3b067 := goodIn_r _ [24, 25, 26, 23, 27, 28, 29, 30, 31, 14, 5, 15, 16, 17, 18, 19, 20, 32, 33, 34, 35, 36, 37] (by decide +kernel) (by decide +kernel)
set_option maxRecDepth 20000 in
theorem gJ0_charAt_5068e_J2_charAt_3b067 : GoodIn wsJ0_charAt_5068e (va_wsS RJ0 498 yJ2_charAt_3b067 wsJ2_charAt_3b067) := goodIn_app (goodIn_of _ (by decide +kernel)) ggJ0_charAt_5068e_J2_charAt_3b067
