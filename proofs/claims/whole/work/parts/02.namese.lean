theorem dX4_copyFrom_0 : decode cX4_copyFrom 0 = .ok (.aload_n 0, 1) := by decide +kernel
theorem dX4_copyFrom_1 : decode cX4_copyFrom 1 = .ok (.getfield 14, 3) := by decide +kernel
theorem dX4_copyFrom_4 : decode cX4_copyFrom 4 = .ok (.aload_n 1, 1) := by decide +kernel
theorem dX4_copyFrom_5 : decode cX4_copyFrom 5 = .ok (.getfield 14, 3) := by decide +kernel
theorem dX4_copyFrom_8 : decode cX4_copyFrom 8 = .ok (.invokevirtual 75, 3) := by decide +kernel
theorem dX4_copyFrom_11 : decode cX4_copyFrom 11 = .ok (.aload_n 0, 1) := by decide +kernel
theorem dX4_copyFrom_12 : decode cX4_copyFrom 12 = .ok (.getfield 20, 3) := by decide +kernel
theorem dX4_copyFrom_15 : decode cX4_copyFrom 15 = .ok (.aload_n 1, 1) := by decide +kernel
theorem dX4_copyFrom_16 : decode cX4_copyFrom 16 = .ok (.getfield 20, 3) := by decide +kernel
theorem dX4_copyFrom_19 : decode cX4_copyFrom 19 = .ok (.invokevirtual 75, 3) := by decide +kernel
theorem dX4_copyFrom_22 : decode cX4_copyFrom 22 = .ok (.aload_n 0, 1) := by decide +kernel
theorem dX4_copyFrom_23 : decode cX4_copyFrom 23 = .ok (.getfield 23, 3) := by decide +kernel
theorem dX4_copyFrom_26 : decode cX4_copyFrom 26 = .ok (.aload_n 1, 1) := by decide +kernel
theorem dX4_copyFrom_27 : decode cX4_copyFrom 27 = .ok (.getfield 23, 3) := by decide +kernel
theorem dX4_copyFrom_30 : decode cX4_copyFrom 30 = .ok (.invokevirtual 75, 3) := by decide +kernel
theorem dX4_copyFrom_33 : decode cX4_copyFrom 33 = .ok (.aload_n 0, 1) := by decide +kernel
theorem dX4_copyFrom_34 : decode cX4_copyFrom 34 = .ok (.getfield 26, 3) := by decide +kernel
theorem dX4_copyFrom_37 : decode cX4_copyFrom 37 = .ok (.aload_n 1, 1) := by decide +kernel
theorem dX4_copyFrom_38 : decode cX4_copyFrom 38 = .ok (.getfield 26, 3) := by decide +kernel
theorem dX4_copyFrom_41 : decode cX4_copyFrom 41 = .ok (.invokevirtual 75, 3) := by decide +kernel
theorem dX4_copyFrom_44 : decode cX4_copyFrom 44 = .ok (.aload_n 0, 1) := by decide +kernel
theorem dX4_copyFrom_45 : decode cX4_copyFrom 45 = .ok (.getfield 29, 3) := by decide +kernel
theorem dX4_copyFrom_48 : decode cX4_copyFrom 48 = .ok (.aload_n 1, 1) := by decide +kernel
theorem dX4_copyFrom_49 : decode cX4_copyFrom 49 = .ok (.getfield 29, 3) := by decide +kernel
theorem dX4_copyFrom_52 : decode cX4_copyFrom 52 = .ok (.invokevirtual 75, 3) := by decide +kernel
theorem dX4_copyFrom_55 : decode cX4_copyFrom 55 = .ok (.aload_n 0, 1) := by decide +kernel
theorem dX4_copyFrom_56 : decode cX4_copyFrom 56 = .ok (.getfield 32, 3) := by decide +kernel
theorem dX4_copyFrom_59 : decode cX4_copyFrom 59 = .ok (.aload_n 1, 1) := by decide +kernel
theorem dX4_copyFrom_60 : decode cX4_copyFrom 60 = .ok (.getfield 32, 3) := by decide +kernel
theorem dX4_copyFrom_63 : decode cX4_copyFrom 63 = .ok (.invokevirtual 75, 3) := by decide +kernel
theorem dX4_copyFrom_66 : decode cX4_copyFrom 66 = .ok (.aload_n 0, 1) := by decide +kernel
theorem dX4_copyFrom_67 : decode cX4_copyFrom 67 = .ok (.getfield 35, 3) := by decide +kernel
theorem dX4_copyFrom_70 : decode cX4_copyFrom 70 = .ok (.aload_n 1, 1) := by decide +kernel
theorem dX4_copyFrom_71 : decode cX4_copyFrom 71 = .ok (.getfield 35, 3) := by decide +kernel
theorem dX4_copyFrom_74 : decode cX4_copyFrom 74 = .ok (.invokevirtual 75, 3) := by decide +kernel
theorem dX4_copyFrom_77 : decode cX4_copyFrom 77 = .ok (.aload_n 0, 1) := by decide +kernel
theorem dX4_copyFrom_78 : decode cX4_copyFrom 78 = .ok (.getfield 38, 3) := by decide +kernel
theorem dX4_copyFrom_81 : decode cX4_copyFrom 81 = .ok (.aload_n 1, 1) := by decide +kernel
theorem dX4_copyFrom_82 : decode cX4_copyFrom 82 = .ok (.getfield 38, 3) := by decide +kernel
theorem dX4_copyFrom_85 : decode cX4_copyFrom 85 = .ok (.invokevirtual 75, 3) := by decide +kernel
theorem dX4_copyFrom_88 : decode cX4_copyFrom 88 = .ok (.aload_n 0, 1) := by decide +kernel
theorem dX4_copyFrom_89 : decode cX4_copyFrom 89 = .ok (.getfield 41, 3) := by decide +kernel
theorem dX4_copyFrom_92 : decode cX4_copyFrom 92 = .ok (.aload_n 1, 1) := by decide +kernel
theorem dX4_copyFrom_93 : decode cX4_copyFrom 93 = .ok (.getfield 41, 3) := by decide +kernel
theorem dX4_copyFrom_96 : decode cX4_copyFrom 96 = .ok (.invokevirtual 75, 3) := by decide +kernel
theorem dX4_copyFrom_99 : decode cX4_copyFrom 99 = .ok (.aload_n 0, 1) := by decide +kernel
theorem dX4_copyFrom_100 : decode cX4_copyFrom 100 = .ok (.getfield 44, 3) := by decide +kernel
theorem dX4_copyFrom_103 : decode cX4_copyFrom 103 = .ok (.aload_n 1, 1) := by decide +kernel
theorem dX4_copyFrom_104 : decode cX4_copyFrom 104 = .ok (.getfield 44, 3) := by decide +kernel
theorem dX4_copyFrom_107 : decode cX4_copyFrom 107 = .ok (.invokevirtual 75, 3) := by decide +kernel
theorem dX4_copyFrom_110 : decode cX4_copyFrom 110 = .ok (.aload_n 0, 1) := by decide +kernel
theorem dX4_copyFrom_111 : decode cX4_copyFrom 111 = .ok (.aload_n 1, 1) := by decide +kernel
theorem dX4_copyFrom_112 : decode cX4_copyFrom 112 = .ok (.getfield 47, 3) := by decide +kernel
theorem dX4_copyFrom_115 : decode cX4_copyFrom 115 = .ok (.putfield 47, 3) := by decide +kernel
theorem dX4_copyFrom_118 : decode cX4_copyFrom 118 = .ok (.aload_n 0, 1) := by decide +kernel
theorem dX4_copyFrom_119 : decode cX4_copyFrom 119 = .ok (.aload_n 1, 1) := by decide +kernel
theorem dX4_copyFrom_120 : decode cX4_copyFrom 120 = .ok (.getfield 51, 3) := by decide +kernel
theorem dX4_copyFrom_123 : decode cX4_copyFrom 123 = .ok (.putfield 51, 3) := by decide +kernel
theorem dX4_copyFrom_126 : decode cX4_copyFrom 126 = .ok (.aload_n 0, 1) := by decide +kernel
theorem dX4_copyFrom_127 : decode cX4_copyFrom 127 = .ok (.aload_n 1, 1) := by decide +kernel
theorem dX4_copyFrom_128 : decode cX4_copyFrom 128 = .ok (.getfield 54, 3) := by decide +kernel
theorem dX4_copyFrom_131 : decode cX4_copyFrom 131 = .ok (.putfield 54, 3) := by decide +kernel
theorem dX4_copyFrom_134 : decode cX4_copyFrom 134 = .ok (.aload_n 0, 1) := by decide +kernel
theorem dX4_copyFrom_135 : decode cX4_copyFrom 135 = .ok (.aload_n 1, 1) := by decide +kernel
theorem dX4_copyFrom_136 : decode cX4_copyFrom 136 = .ok (.getfield 57, 3) := by decide +kernel
theorem dX4_copyFrom_139 : decode cX4_copyFrom 139 = .ok (.putfield 57, 3) := by decide +kernel
theorem dX4_copyFrom_142 : decode cX4_copyFrom 142 = .ok (.aload_n 0, 1) := by decide +kernel
theorem dX4_copyFrom_143 : decode cX4_copyFrom 143 = .ok (.aload_n 1, 1) := by decide +kernel
theorem dX4_copyFrom_144 : decode cX4_copyFrom 144 = .ok (.getfield 60, 3) := by decide +kernel
theorem dX4_copyFrom_147 : decode cX4_copyFrom 147 = .ok (.putfield 60, 3) := by decide +kernel
theorem dX4_copyFrom_150 : decode cX4_copyFrom 150 = .ok (.aload_n 0, 1) := by decide +kernel
theorem dX4_copyFrom_151 : decode cX4_copyFrom 151 = .ok (.aload_n 1, 1) := by decide +kernel
theorem dX4_copyFrom_152 : decode cX4_copyFrom 152 = .ok (.getfield 63, 3) := by decide +kernel
theorem dX4_copyFrom_155 : decode cX4_copyFrom 155 = .ok (.putfield 63, 3) := by decide +kernel
theorem dX4_copyFrom_158 : decode cX4_copyFrom 158 = .ok (.aload_n 0, 1) := by decide +kernel
theorem dX4_copyFrom_159 : decode cX4_copyFrom 159 = .ok (.aload_n 1, 1) := by decide +kernel
theorem dX4_copyFrom_160 : decode cX4_copyFrom 160 = .ok (.getfield 66, 3) := by decide +kernel
theorem dX4_copyFrom_163 : decode cX4_copyFrom 163 = .ok (.putfield 66, 3) := by decide +kernel
theorem dX4_copyFrom_166 : decode cX4_copyFrom 166 = .ok (.aload_n 0, 1) := by decide +kernel
theorem dX4_copyFrom_167 : decode cX4_copyFrom 167 = .ok (.aload_n 1, 1) := by decide +kernel
theorem dX4_copyFrom_168 : decode cX4_copyFrom 168 = .ok (.getfield 69, 3) := by decide +kernel
theorem dX4_copyFrom_171 : decode cX4_copyFrom 171 = .ok (.putfield 69, 3) := by decide +kernel
theorem dX4_copyFrom_174 : decode cX4_copyFrom 174 = .ok (.return_, 1) := by decide +kernel
set_option maxRecDepth 20000 in
theorem ggX4_cutSign_X3_get : GoodIn wsX4_cutSign wsX3_get := goodIn_r _ [7, 8, 44] (by decide +kernel) (by decide +kernel)
set_option maxRecDepth 20000 in
theorem gX4_cutSign_X3_get : GoodIn wsX4_cutSign (wsV RX4 79 RX3 yX3_get wsX3_get) := goodIn_app (goodIn_of _ (by decide +kernel)) ggX4_cutSign_X3_get
set_option maxRecDepth 20000 in
theorem ggX4_cutSign_X3_put : GoodIn wsX4_cutSign wsX3_put := goodIn_r _ [12, 8, 44] (by decide +kernel) (by decide +kernel)
set_option maxRecDepth 20000 in
theorem gX4_cutSign_X3_put : GoodIn wsX4_cutSign (wsV RX4 83 RX3 yX3_put wsX3_put) := goodIn_app (goodIn_of _ (by decide +kernel)) ggX4_cutSign_X3_put
set_option maxRecDepth 20000 in
theorem ggX4_cutSign_X4_isThere : GoodIn wsX4_cutSign wsX4_isThere := goodIn_r _ [17, 18, 3, 4, 5, 6, 7, 8, 26, 27, 28, 29, 30, 31, 32, 33, 34, 35, 36, 37, 38, 39, 40, 41, 42, 43, 44] (by decide +kernel) (by decide +kernel)
set_option maxRecDepth 20000 in
theorem gX4_cutSign_X4_isThere : GoodIn wsX4_cutSign (wsV RX4 87 RX4 yX4_isThere wsX4_isThere) := goodIn_app (goodIn_of _ (by decide +kernel)) ggX4_cutSign_X4_isThere
set_option maxRecDepth 20000 in
theorem ggX4_cutSign_X4_takeAway : GoodIn wsX4_cutSign wsX4_takeAway := goodIn_r _ [22, 23, 24, 18, 25, 3, 4, 5, 6, 7, 8, 9, 10, 11, 12, 26, 27, 28, 29, 30, 31, 32, 33, 34, 35, 36, 37, 38, 39, 40, 41, 42, 43, 44] (by decide +kernel) (by decide +kernel)
set_option maxRecDepth 20000 in
theorem gX4_cutSign_X4_takeAway : GoodIn wsX4_cutSign (wsV RX4 91 RX4 yX4_takeAway wsX4_takeAway) := goodIn_app (goodIn_of _ (by decide +kernel)) ggX4_cutSign_X4_takeAway
theorem dX4_cutSign_0 : decode cX4_cutSign 0 = .ok (.aload_n 0, 1) := by decide +kernel
theorem dX4_cutSign_1 : decode cX4_cutSign 1 = .ok (.getfield 14, 3) := by decide +kernel
theorem dX4_cutSign_4 : decode cX4_cutSign 4 = .ok (.iload_n 1, 1) := by decide +kernel
theorem dX4_cutSign_5 : decode cX4_cutSign 5 = .ok (.invokevirtual 79, 3) := by decide +kernel
theorem dX4_cutSign_8 : decode cX4_cutSign 8 = .ok (.iload_n 2, 1) := by decide +kernel
theorem dX4_cutSign_9 : decode cX4_cutSign 9 = .ok (.if_icmp .ne 17, 3) := by decide +kernel
theorem dX4_cutSign_12 : decode cX4_cutSign 12 = .ok (.aload_n 0, 1) := by decide +kernel
theorem dX4_cutSign_13 : decode cX4_cutSign 13 = .ok (.getfield 20, 3) := by decide +kernel
theorem dX4_cutSign_16 : decode cX4_cutSign 16 = .ok (.iload_n 1, 1) := by decide +kernel
theorem dX4_cutSign_17 : decode cX4_cutSign 17 = .ok (.invokevirtual 79, 3) := by decide +kernel
theorem dX4_cutSign_20 : decode cX4_cutSign 20 = .ok (.iload_n 3, 1) := by decide +kernel
theorem dX4_cutSign_21 : decode cX4_cutSign 21 = .ok (.if_icmp .ne 5, 3) := by decide +kernel
theorem dX4_cutSign_24 : decode cX4_cutSign 24 = .ok (.iconst 0, 1) := by decide +kernel
theorem dX4_cutSign_25 : decode cX4_cutSign 25 = .ok (.ireturn, 1) := by decide +kernel
theorem dX4_cutSign_26 : decode cX4_cutSign 26 = .ok (.aload_n 0, 1) := by decide +kernel
theorem dX4_cutSign_27 : decode cX4_cutSign 27 = .ok (.getfield 14, 3) := by decide +kernel
theorem dX4_cutSign_30 : decode cX4_cutSign 30 = .ok (.iload_n 1, 1) := by decide +kernel
theorem dX4_cutSign_31 : decode cX4_cutSign 31 = .ok (.iload_n 2, 1) := by decide +kernel
theorem dX4_cutSign_32 : decode cX4_cutSign 32 = .ok (.invokevirtual 83, 3) := by decide +kernel
theorem dX4_cutSign_35 : decode cX4_cutSign 35 = .ok (.aload_n 0, 1) := by decide +kernel
theorem dX4_cutSign_36 : decode cX4_cutSign 36 = .ok (.getfield 20, 3) := by decide +kernel
theorem dX4_cutSign_39 : decode cX4_cutSign 39 = .ok (.iload_n 1, 1) := by decide +kernel
theorem dX4_cutSign_40 : decode cX4_cutSign 40 = .ok (.iload_n 3, 1) := by decide +kernel
theorem dX4_cutSign_41 : decode cX4_cutSign 41 = .ok (.invokevirtual 83, 3) := by decide +kernel
theorem dX4_cutSign_44 : decode cX4_cutSign 44 = .ok (.iload_n 1, 1) := by decide +kernel
theorem dX4_cutSign_45 : decode cX4_cutSign 45 = .ok (.bipush 9, 2) := by decide +kernel
theorem dX4_cutSign_47 : decode cX4_cutSign 47 = .ok (.imul, 1) := by decide +kernel
theorem dX4_cutSign_48 : decode cX4_cutSign 48 = .ok (.istore 4, 2) := by decide +kernel
theorem dX4_cutSign_50 : decode cX4_cutSign 50 = .ok (.iconst 0, 1) := by decide +kernel
theorem dX4_cutSign_51 : decode cX4_cutSign 51 = .ok (.istore 5, 2) := by decide +kernel
theorem dX4_cutSign_53 : decode cX4_cutSign 53 = .ok (.iload 4, 2) := by decide +kernel
theorem dX4_cutSign_55 : decode cX4_cutSign 55 = .ok (.istore 6, 2) := by decide +kernel
theorem dX4_cutSign_57 : decode cX4_cutSign 57 = .ok (.iload 6, 2) := by decide +kernel
theorem dX4_cutSign_59 : decode cX4_cutSign 59 = .ok (.iload 4, 2) := by decide +kernel
theorem dX4_cutSign_61 : decode cX4_cutSign 61 = .ok (.bipush 9, 2) := by decide +kernel
theorem dX4_cutSign_63 : decode cX4_cutSign 63 = .ok (.iadd, 1) := by decide +kernel
theorem dX4_cutSign_64 : decode cX4_cutSign 64 = .ok (.if_icmp .ge 27, 3) := by decide +kernel
theorem dX4_cutSign_67 : decode cX4_cutSign 67 = .ok (.aload_n 0, 1) := by decide +kernel
theorem dX4_cutSign_68 : decode cX4_cutSign 68 = .ok (.iload 6, 2) := by decide +kernel
theorem dX4_cutSign_70 : decode cX4_cutSign 70 = .ok (.invokevirtual 87, 3) := by decide +kernel
theorem dX4_cutSign_73 : decode cX4_cutSign 73 = .ok (.ifCond .eq 12, 3) := by decide +kernel
theorem dX4_cutSign_76 : decode cX4_cutSign 76 = .ok (.aload_n 0, 1) := by decide +kernel
theorem dX4_cutSign_77 : decode cX4_cutSign 77 = .ok (.iload 6, 2) := by decide +kernel
theorem dX4_cutSign_79 : decode cX4_cutSign 79 = .ok (.invokevirtual 91, 3) := by decide +kernel
theorem dX4_cutSign_82 : decode cX4_cutSign 82 = .ok (.iinc 5 1, 3) := by decide +kernel
theorem dX4_cutSign_85 : decode cX4_cutSign 85 = .ok (.iinc 6 1, 3) := by decide +kernel
theorem dX4_cutSign_88 : decode cX4_cutSign 88 = .ok (.goto (-31), 3) := by decide +kernel
theorem dX4_cutSign_91 : decode cX4_cutSign 91 = .ok (.iload 5, 2) := by decide +kernel
theorem dX4_cutSign_93 : decode cX4_cutSign 93 = .ok (.ireturn, 1) := by decide +kernel
set_option maxRecDepth 20000 in
theorem ggX4_useLetter_X4_makeLetter : GoodIn wsX4_useLetter wsX4_makeLetter := goodIn_r _ [11, 12, 13, 14, 15, 16, 17, 6, 18, 19, 20, 21, 22, 10, 23, 24, 25, 26, 27, 28, 29, 30, 31, 32, 33, 34, 35, 36, 37, 38, 39, 40, 41, 42, 43, 44, 45, 46, 47, 48, 49, 50, 51, 52, 53, 54, 55, 56, 57, 58, 59, 60, 61, 62, 63, 64, 65, 66, 67, 73, 74, 75, 76, 77, 78, 79, 80, 81, 82, 83, 84, 85, 86, 87, 88, 89, 90, 68, 69, 70, 71, 72, 91] (by decide +kernel) (by decide +kernel)
set_option maxRecDepth 20000 in
theorem gX4_useLetter_X4_makeLetter : GoodIn wsX4_useLetter (wsV RX4 99 RX4 yX4_makeLetter wsX4_makeLetter) := goodIn_app (goodIn_of _ (by decide +kernel)) ggX4_useLetter_X4_makeLetter
set_option maxRecDepth 20000 in
theorem ggX4_useLetter_X3_put : GoodIn wsX4_useLetter wsX3_put := goodIn_r _ [58, 43, 91] (by decide +kernel) (by decide +kernel)
set_option maxRecDepth 20000 in
theorem gX4_useLetter_X3_put : GoodIn wsX4_useLetter (wsV RX4 83 RX3 yX3_put wsX3_put) := goodIn_app (goodIn_of _ (by decide +kernel)) ggX4_useLetter_X3_put
set_option maxRecDepth 20000 in
theorem ggX4_useLetter_X3_get : GoodIn wsX4_useLetter wsX3_get := goodIn_r _ [42, 43, 91] (by decide +kernel) (by decide +kernel)
set_option maxRecDepth 20000 in
theorem gX4_useLetter_X3_get : GoodIn wsX4_useLetter (wsV RX4 79 RX3 yX3_get wsX3_get) := goodIn_app (goodIn_of _ (by decide +kernel)) ggX4_useLetter_X3_get
theorem dX4_useLetter_0 : decode cX4_useLetter 0 = .ok (.aload_n 2, 1) := by decide +kernel
theorem dX4_useLetter_1 : decode cX4_useLetter 1 = .ok (.getfield 94, 3) := by decide +kernel
theorem dX4_useLetter_4 : decode cX4_useLetter 4 = .ok (.ifCond .ne 16, 3) := by decide +kernel
theorem dX4_useLetter_7 : decode cX4_useLetter 7 = .ok (.aload_n 0, 1) := by decide +kernel
theorem dX4_useLetter_8 : decode cX4_useLetter 8 = .ok (.dup, 1) := by decide +kernel
theorem dX4_useLetter_9 : decode cX4_useLetter 9 = .ok (.getfield 60, 3) := by decide +kernel
theorem dX4_useLetter_12 : decode cX4_useLetter 12 = .ok (.iconst 1, 1) := by decide +kernel
theorem dX4_useLetter_13 : decode cX4_useLetter 13 = .ok (.iadd, 1) := by decide +kernel
theorem dX4_useLetter_14 : decode cX4_useLetter 14 = .ok (.putfield 60, 3) := by decide +kernel
theorem dX4_useLetter_17 : decode cX4_useLetter 17 = .ok (.goto 9, 3) := by decide +kernel
theorem dX4_useLetter_20 : decode cX4_useLetter 20 = .ok (.aload_n 0, 1) := by decide +kernel
theorem dX4_useLetter_21 : decode cX4_useLetter 21 = .ok (.iload_n 1, 1) := by decide +kernel
theorem dX4_useLetter_22 : decode cX4_useLetter 22 = .ok (.aload_n 2, 1) := by decide +kernel
theorem dX4_useLetter_23 : decode cX4_useLetter 23 = .ok (.invokevirtual 99, 3) := by decide +kernel
theorem dX4_useLetter_26 : decode cX4_useLetter 26 = .ok (.aload_n 0, 1) := by decide +kernel
theorem dX4_useLetter_27 : decode cX4_useLetter 27 = .ok (.dup, 1) := by decide +kernel
theorem dX4_useLetter_28 : decode cX4_useLetter 28 = .ok (.getfield 57, 3) := by decide +kernel
theorem dX4_useLetter_31 : decode cX4_useLetter 31 = .ok (.iconst 1, 1) := by decide +kernel
theorem dX4_useLetter_32 : decode cX4_useLetter 32 = .ok (.iadd, 1) := by decide +kernel
theorem dX4_useLetter_33 : decode cX4_useLetter 33 = .ok (.putfield 57, 3) := by decide +kernel
theorem dX4_useLetter_36 : decode cX4_useLetter 36 = .ok (.aload_n 0, 1) := by decide +kernel
theorem dX4_useLetter_37 : decode cX4_useLetter 37 = .ok (.getfield 35, 3) := by decide +kernel
theorem dX4_useLetter_40 : decode cX4_useLetter 40 = .ok (.iload_n 1, 1) := by decide +kernel
theorem dX4_useLetter_41 : decode cX4_useLetter 41 = .ok (.aload_n 0, 1) := by decide +kernel
theorem dX4_useLetter_42 : decode cX4_useLetter 42 = .ok (.getfield 57, 3) := by decide +kernel
theorem dX4_useLetter_45 : decode cX4_useLetter 45 = .ok (.invokevirtual 83, 3) := by decide +kernel
theorem dX4_useLetter_48 : decode cX4_useLetter 48 = .ok (.aload_n 0, 1) := by decide +kernel
theorem dX4_useLetter_49 : decode cX4_useLetter 49 = .ok (.getfield 38, 3) := by decide +kernel
theorem dX4_useLetter_52 : decode cX4_useLetter 52 = .ok (.iload_n 1, 1) := by decide +kernel
theorem dX4_useLetter_53 : decode cX4_useLetter 53 = .ok (.aload_n 0, 1) := by decide +kernel
theorem dX4_useLetter_54 : decode cX4_useLetter 54 = .ok (.getfield 54, 3) := by decide +kernel
theorem dX4_useLetter_57 : decode cX4_useLetter 57 = .ok (.invokevirtual 83, 3) := by decide +kernel
theorem dX4_useLetter_60 : decode cX4_useLetter 60 = .ok (.aload_n 0, 1) := by decide +kernel
theorem dX4_useLetter_61 : decode cX4_useLetter 61 = .ok (.getfield 41, 3) := by decide +kernel
theorem dX4_useLetter_64 : decode cX4_useLetter 64 = .ok (.iload_n 1, 1) := by decide +kernel
theorem dX4_useLetter_65 : decode cX4_useLetter 65 = .ok (.aload_n 0, 1) := by decide +kernel
theorem dX4_useLetter_66 : decode cX4_useLetter 66 = .ok (.getfield 41, 3) := by decide +kernel
theorem dX4_useLetter_69 : decode cX4_useLetter 69 = .ok (.iload_n 1, 1) := by decide +kernel
theorem dX4_useLetter_70 : decode cX4_useLetter 70 = .ok (.invokevirtual 79, 3) := by decide +kernel
theorem dX4_useLetter_73 : decode cX4_useLetter 73 = .ok (.iconst 1, 1) := by decide +kernel
theorem dX4_useLetter_74 : decode cX4_useLetter 74 = .ok (.iadd, 1) := by decide +kernel
theorem dX4_useLetter_75 : decode cX4_useLetter 75 = .ok (.invokevirtual 83, 3) := by decide +kernel
theorem dX4_useLetter_78 : decode cX4_useLetter 78 = .ok (.return_, 1) := by decide +kernel
set_option maxRecDepth 20000 in
theorem ggX4_makeLetter_X4_inkFor : GoodIn wsX4_makeLetter wsX4_inkFor := goodIn_r _ [14, 15, 16, 17, 18, 19, 20, 13, 21, 22, 23, 24, 25, 26, 27, 28, 29, 30, 31, 32, 33, 34, 35, 36, 37, 38, 39, 40, 41, 42, 43, 44, 45, 4, 59, 60, 61, 62, 63, 64, 65, 66, 67, 68, 69, 70, 71, 72, 73, 74, 75, 76, 82] (by decide +kernel) (by decide +kernel)
set_option maxRecDepth 20000 in
theorem gX4_makeLetter_X4_inkFor : GoodIn wsX4_makeLetter (wsV RX4 103 RX4 yX4_inkFor wsX4_inkFor) := goodIn_app (goodIn_of _ (by decide +kernel)) ggX4_makeLetter_X4_inkFor
set_option maxRecDepth 20000 in
theorem ggX4_makeLetter_X4_heightOf : GoodIn wsX4_makeLetter wsX4_heightOf := goodIn_r _ [40, 41, 27, 16, 28, 29, 30, 31, 32, 33, 34, 35, 36, 15, 17, 59, 60, 61, 62, 63, 64, 65, 66, 67, 68, 69, 70, 71, 72, 73, 74, 75, 76, 82] (by decide +kernel) (by decide +kernel)
set_option maxRecDepth 20000 in
theorem gX4_makeLetter_X4_heightOf : GoodIn wsX4_makeLetter (wsV RX4 109 RX4 yX4_heightOf wsX4_heightOf) := goodIn_app (goodIn_of _ (by decide +kernel)) ggX4_makeLetter_X4_heightOf
set_option maxRecDepth 20000 in
theorem ggX4_makeLetter_X3_put : GoodIn wsX4_makeLetter wsX3_put := goodIn_r _ [49, 34, 82] (by decide +kernel) (by decide +kernel)
set_option maxRecDepth 20000 in
theorem gX4_makeLetter_X3_put : GoodIn wsX4_makeLetter (wsV RX4 83 RX3 yX3_put wsX3_put) := goodIn_app (goodIn_of _ (by decide +kernel)) ggX4_makeLetter_X3_put
set_option maxRecDepth 20000 in
theorem ggX4_makeLetter_X4_emptyShelf : GoodIn wsX4_makeLetter wsX4_emptyShelf := goodIn_r _ [53, 9, 8, 4, 29, 30, 31, 32, 33, 34, 54, 55, 56, 13, 57, 58, 46, 47, 48, 49, 59, 60, 61, 62, 63, 64, 65, 66, 67, 68, 69, 70, 71, 72, 73, 74, 75, 76, 82] (by decide +kernel) (by decide +kernel)
set_option maxRecDepth 20000 in
theorem gX4_makeLetter_X4_emptyShelf : GoodIn wsX4_makeLetter (wsV RX4 112 RX4 yX4_emptyShelf wsX4_emptyShelf) := goodIn_app (goodIn_of _ (by decide +kernel)) ggX4_makeLetter_X4_emptyShelf
set_option maxRecDepth 20000 in
theorem ggX4_makeLetter_X4_takeAway : GoodIn wsX4_makeLetter wsX4_takeAway := goodIn_r _ [57, 9, 8, 4, 58, 29, 30, 31, 32, 33, 34, 46, 47, 48, 49, 59, 60, 61, 62, 63, 64, 65, 66, 67, 68, 69, 70, 71, 72, 73, 74, 75, 76, 82] (by decide +kernel) (by decide +kernel)
set_option maxRecDepth 20000 in
theorem gX4_makeLetter_X4_takeAway : GoodIn wsX4_makeLetter (wsV RX4 91 RX4 yX4_takeAway wsX4_takeAway) := goodIn_app (goodIn_of _ (by decide +kernel)) ggX4_makeLetter_X4_takeAway
set_option maxRecDepth 20000 in
theorem ggX4_makeLetter_X4_widthOf : GoodIn wsX4_makeLetter wsX4_widthOf := goodIn_r _ [25, 26, 27, 16, 28, 29, 30, 31, 32, 33, 34, 35, 36, 15, 17, 59, 60, 61, 62, 63, 64, 65, 66, 67, 68, 69, 70, 71, 72, 73, 74, 75, 76, 82] (by decide +kernel) (by decide +kernel)
set_option maxRecDepth 20000 in
theorem gX4_makeLetter_X4_widthOf : GoodIn wsX4_makeLetter (wsV RX4 121 RX4 yX4_widthOf wsX4_widthOf) := goodIn_app (goodIn_of _ (by decide +kernel)) ggX4_makeLetter_X4_widthOf
theorem dX4_makeLetter_0 : decode cX4_makeLetter 0 = .ok (.aload_n 0, 1) := by decide +kernel
theorem dX4_makeLetter_1 : decode cX4_makeLetter 1 = .ok (.dup, 1) := by decide +kernel
theorem dX4_makeLetter_2 : decode cX4_makeLetter 2 = .ok (.getfield 69, 3) := by decide +kernel
theorem dX4_makeLetter_5 : decode cX4_makeLetter 5 = .ok (.aload_n 0, 1) := by decide +kernel
theorem dX4_makeLetter_6 : decode cX4_makeLetter 6 = .ok (.iload_n 1, 1) := by decide +kernel
theorem dX4_makeLetter_7 : decode cX4_makeLetter 7 = .ok (.invokevirtual 103, 3) := by decide +kernel
theorem dX4_makeLetter_10 : decode cX4_makeLetter 10 = .ok (.iadd, 1) := by decide +kernel
theorem dX4_makeLetter_11 : decode cX4_makeLetter 11 = .ok (.putfield 69, 3) := by decide +kernel
theorem dX4_makeLetter_14 : decode cX4_makeLetter 14 = .ok (.aload_n 0, 1) := by decide +kernel
theorem dX4_makeLetter_15 : decode cX4_makeLetter 15 = .ok (.dup, 1) := by decide +kernel
theorem dX4_makeLetter_16 : decode cX4_makeLetter 16 = .ok (.getfield 63, 3) := by decide +kernel
theorem dX4_makeLetter_19 : decode cX4_makeLetter 19 = .ok (.iconst 1, 1) := by decide +kernel
theorem dX4_makeLetter_20 : decode cX4_makeLetter 20 = .ok (.iadd, 1) := by decide +kernel
theorem dX4_makeLetter_21 : decode cX4_makeLetter 21 = .ok (.putfield 63, 3) := by decide +kernel
theorem dX4_makeLetter_24 : decode cX4_makeLetter 24 = .ok (.aload_n 2, 1) := by decide +kernel
theorem dX4_makeLetter_25 : decode cX4_makeLetter 25 = .ok (.getfield 94, 3) := by decide +kernel
theorem dX4_makeLetter_28 : decode cX4_makeLetter 28 = .ok (.iconst 2, 1) := by decide +kernel
theorem dX4_makeLetter_29 : decode cX4_makeLetter 29 = .ok (.if_icmp .ne 19, 3) := by decide +kernel
theorem dX4_makeLetter_32 : decode cX4_makeLetter 32 = .ok (.aload_n 0, 1) := by decide +kernel
theorem dX4_makeLetter_33 : decode cX4_makeLetter 33 = .ok (.getfield 23, 3) := by decide +kernel
theorem dX4_makeLetter_36 : decode cX4_makeLetter 36 = .ok (.aload_n 2, 1) := by decide +kernel
theorem dX4_makeLetter_37 : decode cX4_makeLetter 37 = .ok (.getfield 106, 3) := by decide +kernel
theorem dX4_makeLetter_40 : decode cX4_makeLetter 40 = .ok (.aload_n 0, 1) := by decide +kernel
theorem dX4_makeLetter_41 : decode cX4_makeLetter 41 = .ok (.iload_n 1, 1) := by decide +kernel
theorem dX4_makeLetter_42 : decode cX4_makeLetter 42 = .ok (.invokevirtual 109, 3) := by decide +kernel
theorem dX4_makeLetter_45 : decode cX4_makeLetter 45 = .ok (.invokevirtual 83, 3) := by decide +kernel
theorem dX4_makeLetter_48 : decode cX4_makeLetter 48 = .ok (.aload_n 2, 1) := by decide +kernel
theorem dX4_makeLetter_49 : decode cX4_makeLetter 49 = .ok (.getfield 94, 3) := by decide +kernel
theorem dX4_makeLetter_52 : decode cX4_makeLetter 52 = .ok (.iconst 3, 1) := by decide +kernel
theorem dX4_makeLetter_53 : decode cX4_makeLetter 53 = .ok (.if_icmp .ne 11, 3) := by decide +kernel
theorem dX4_makeLetter_56 : decode cX4_makeLetter 56 = .ok (.aload_n 0, 1) := by decide +kernel
theorem dX4_makeLetter_57 : decode cX4_makeLetter 57 = .ok (.aload_n 2, 1) := by decide +kernel
theorem dX4_makeLetter_58 : decode cX4_makeLetter 58 = .ok (.getfield 106, 3) := by decide +kernel
theorem dX4_makeLetter_61 : decode cX4_makeLetter 61 = .ok (.invokevirtual 112, 3) := by decide +kernel
theorem dX4_makeLetter_64 : decode cX4_makeLetter 64 = .ok (.aload_n 2, 1) := by decide +kernel
theorem dX4_makeLetter_65 : decode cX4_makeLetter 65 = .ok (.getfield 115, 3) := by decide +kernel
theorem dX4_makeLetter_68 : decode cX4_makeLetter 68 = .ok (.iconst (-1), 1) := by decide +kernel
theorem dX4_makeLetter_69 : decode cX4_makeLetter 69 = .ok (.if_icmp .eq 11, 3) := by decide +kernel
theorem dX4_makeLetter_72 : decode cX4_makeLetter 72 = .ok (.aload_n 0, 1) := by decide +kernel
theorem dX4_makeLetter_73 : decode cX4_makeLetter 73 = .ok (.aload_n 2, 1) := by decide +kernel
theorem dX4_makeLetter_74 : decode cX4_makeLetter 74 = .ok (.getfield 115, 3) := by decide +kernel
theorem dX4_makeLetter_77 : decode cX4_makeLetter 77 = .ok (.invokevirtual 91, 3) := by decide +kernel
theorem dX4_makeLetter_80 : decode cX4_makeLetter 80 = .ok (.aload_n 0, 1) := by decide +kernel
theorem dX4_makeLetter_81 : decode cX4_makeLetter 81 = .ok (.getfield 26, 3) := by decide +kernel
theorem dX4_makeLetter_84 : decode cX4_makeLetter 84 = .ok (.iload_n 1, 1) := by decide +kernel
theorem dX4_makeLetter_85 : decode cX4_makeLetter 85 = .ok (.aload_n 2, 1) := by decide +kernel
theorem dX4_makeLetter_86 : decode cX4_makeLetter 86 = .ok (.getfield 106, 3) := by decide +kernel
theorem dX4_makeLetter_89 : decode cX4_makeLetter 89 = .ok (.invokevirtual 83, 3) := by decide +kernel
theorem dX4_makeLetter_92 : decode cX4_makeLetter 92 = .ok (.aload_n 0, 1) := by decide +kernel
theorem dX4_makeLetter_93 : decode cX4_makeLetter 93 = .ok (.getfield 29, 3) := by decide +kernel
theorem dX4_makeLetter_96 : decode cX4_makeLetter 96 = .ok (.iload_n 1, 1) := by decide +kernel
theorem dX4_makeLetter_97 : decode cX4_makeLetter 97 = .ok (.aload_n 2, 1) := by decide +kernel
theorem dX4_makeLetter_98 : decode cX4_makeLetter 98 = .ok (.getfield 118, 3) := by decide +kernel
theorem dX4_makeLetter_101 : decode cX4_makeLetter 101 = .ok (.invokevirtual 83, 3) := by decide +kernel
theorem dX4_makeLetter_104 : decode cX4_makeLetter 104 = .ok (.aload_n 0, 1) := by decide +kernel
theorem dX4_makeLetter_105 : decode cX4_makeLetter 105 = .ok (.getfield 32, 3) := by decide +kernel
theorem dX4_makeLetter_108 : decode cX4_makeLetter 108 = .ok (.iload_n 1, 1) := by decide +kernel
theorem dX4_makeLetter_109 : decode cX4_makeLetter 109 = .ok (.aload_n 2, 1) := by decide +kernel
theorem dX4_makeLetter_110 : decode cX4_makeLetter 110 = .ok (.getfield 118, 3) := by decide +kernel
theorem dX4_makeLetter_113 : decode cX4_makeLetter 113 = .ok (.aload_n 0, 1) := by decide +kernel
theorem dX4_makeLetter_114 : decode cX4_makeLetter 114 = .ok (.iload_n 1, 1) := by decide +kernel
theorem dX4_makeLetter_115 : decode cX4_makeLetter 115 = .ok (.invokevirtual 121, 3) := by decide +kernel
theorem dX4_makeLetter_118 : decode cX4_makeLetter 118 = .ok (.iadd, 1) := by decide +kernel
theorem dX4_makeLetter_119 : decode cX4_makeLetter 119 = .ok (.invokevirtual 83, 3) := by decide +kernel
theorem dX4_makeLetter_122 : decode cX4_makeLetter 122 = .ok (.aload_n 0, 1) := by decide +kernel
theorem dX4_makeLetter_123 : decode cX4_makeLetter 123 = .ok (.getfield 41, 3) := by decide +kernel
theorem dX4_makeLetter_126 : decode cX4_makeLetter 126 = .ok (.iload_n 1, 1) := by decide +kernel
theorem dX4_makeLetter_127 : decode cX4_makeLetter 127 = .ok (.iconst 0, 1) := by decide +kernel
theorem dX4_makeLetter_128 : decode cX4_makeLetter 128 = .ok (.invokevirtual 83, 3) := by decide +kernel
theorem dX4_makeLetter_131 : decode cX4_makeLetter 131 = .ok (.aload_n 0, 1) := by decide +kernel
theorem dX4_makeLetter_132 : decode cX4_makeLetter 132 = .ok (.getfield 44, 3) := by decide +kernel
theorem dX4_makeLetter_135 : decode cX4_makeLetter 135 = .ok (.aload_n 0, 1) := by decide +kernel
theorem dX4_makeLetter_136 : decode cX4_makeLetter 136 = .ok (.getfield 47, 3) := by decide +kernel
theorem dX4_makeLetter_139 : decode cX4_makeLetter 139 = .ok (.iload_n 1, 1) := by decide +kernel
theorem dX4_makeLetter_140 : decode cX4_makeLetter 140 = .ok (.invokevirtual 83, 3) := by decide +kernel
theorem dX4_makeLetter_143 : decode cX4_makeLetter 143 = .ok (.aload_n 0, 1) := by decide +kernel
theorem dX4_makeLetter_144 : decode cX4_makeLetter 144 = .ok (.dup, 1) := by decide +kernel
theorem dX4_makeLetter_145 : decode cX4_makeLetter 145 = .ok (.getfield 47, 3) := by decide +kernel
theorem dX4_makeLetter_148 : decode cX4_makeLetter 148 = .ok (.iconst 1, 1) := by decide +kernel
theorem dX4_makeLetter_149 : decode cX4_makeLetter 149 = .ok (.iadd, 1) := by decide +kernel
theorem dX4_makeLetter_150 : decode cX4_makeLetter 150 = .ok (.putfield 47, 3) := by decide +kernel
theorem dX4_makeLetter_153 : decode cX4_makeLetter 153 = .ok (.return_, 1) := by decide +kernel
set_option maxRecDepth 20000 in
theorem ggX4_emptyShelf_X3_get : GoodIn wsX4_emptyShelf wsX3_get := goodIn_r _ [8, 9, 38] (by decide +kernel) (by decide +kernel)
set_option maxRecDepth 20000 in
theorem gX4_emptyShelf_X3_get : GoodIn wsX4_emptyShelf (wsV RX4 79 RX3 yX3_get wsX3_get) := goodIn_app (goodIn_of _ (by decide +kernel)) ggX4_emptyShelf_X3_get
set_option maxRecDepth 20000 in
theorem ggX4_emptyShelf_X4_takeAway : GoodIn wsX4_emptyShelf wsX4_takeAway := goodIn_r _ [14, 1, 2, 3, 15, 4, 5, 6, 7, 8, 9, 16, 17, 18, 19, 20, 21, 22, 23, 24, 25, 26, 27, 28, 29, 30, 31, 32, 33, 34, 35, 36, 37, 38] (by decide +kernel) (by decide +kernel)
set_option maxRecDepth 20000 in
theorem gX4_emptyShelf_X4_takeAway : GoodIn wsX4_emptyShelf (wsV RX4 91 RX4 yX4_takeAway wsX4_takeAway) := goodIn_app (goodIn_of _ (by decide +kernel)) ggX4_emptyShelf_X4_takeAway
theorem dX4_emptyShelf_0 : decode cX4_emptyShelf 0 = .ok (.aload_n 0, 1) := by decide +kernel
theorem dX4_emptyShelf_1 : decode cX4_emptyShelf 1 = .ok (.getfield 47, 3) := by decide +kernel
theorem dX4_emptyShelf_4 : decode cX4_emptyShelf 4 = .ok (.iconst 1, 1) := by decide +kernel
theorem dX4_emptyShelf_5 : decode cX4_emptyShelf 5 = .ok (.isub, 1) := by decide +kernel
theorem dX4_emptyShelf_6 : decode cX4_emptyShelf 6 = .ok (.istore_n 2, 1) := by decide +kernel
theorem dX4_emptyShelf_7 : decode cX4_emptyShelf 7 = .ok (.iload_n 2, 1) := by decide +kernel
theorem dX4_emptyShelf_8 : decode cX4_emptyShelf 8 = .ok (.ifCond .lt 35, 3) := by decide +kernel
theorem dX4_emptyShelf_11 : decode cX4_emptyShelf 11 = .ok (.aload_n 0, 1) := by decide +kernel
theorem dX4_emptyShelf_12 : decode cX4_emptyShelf 12 = .ok (.getfield 44, 3) := by decide +kernel
theorem dX4_emptyShelf_15 : decode cX4_emptyShelf 15 = .ok (.iload_n 2, 1) := by decide +kernel
theorem dX4_emptyShelf_16 : decode cX4_emptyShelf 16 = .ok (.invokevirtual 79, 3) := by decide +kernel
theorem dX4_emptyShelf_19 : decode cX4_emptyShelf 19 = .ok (.istore_n 3, 1) := by decide +kernel
theorem dX4_emptyShelf_20 : decode cX4_emptyShelf 20 = .ok (.aload_n 0, 1) := by decide +kernel
theorem dX4_emptyShelf_21 : decode cX4_emptyShelf 21 = .ok (.getfield 26, 3) := by decide +kernel
theorem dX4_emptyShelf_24 : decode cX4_emptyShelf 24 = .ok (.iload_n 3, 1) := by decide +kernel
theorem dX4_emptyShelf_25 : decode cX4_emptyShelf 25 = .ok (.invokevirtual 79, 3) := by decide +kernel
theorem dX4_emptyShelf_28 : decode cX4_emptyShelf 28 = .ok (.iload_n 1, 1) := by decide +kernel
theorem dX4_emptyShelf_29 : decode cX4_emptyShelf 29 = .ok (.if_icmp .ne 8, 3) := by decide +kernel
theorem dX4_emptyShelf_32 : decode cX4_emptyShelf 32 = .ok (.aload_n 0, 1) := by decide +kernel
theorem dX4_emptyShelf_33 : decode cX4_emptyShelf 33 = .ok (.iload_n 3, 1) := by decide +kernel
theorem dX4_emptyShelf_34 : decode cX4_emptyShelf 34 = .ok (.invokevirtual 91, 3) := by decide +kernel
theorem dX4_emptyShelf_37 : decode cX4_emptyShelf 37 = .ok (.iinc 2 (-1), 3) := by decide +kernel
theorem dX4_emptyShelf_40 : decode cX4_emptyShelf 40 = .ok (.goto (-33), 3) := by decide +kernel
theorem dX4_emptyShelf_43 : decode cX4_emptyShelf 43 = .ok (.return_, 1) := by decide +kernel
set_option maxRecDepth 20000 in
theorem ggX4_takeAway_X3_get : GoodIn wsX4_takeAway wsX3_get := goodIn_r _ [9, 10, 33] (by decide +kernel) (by decide +kernel)
set_option maxRecDepth 20000 in
theorem gX4_takeAway_X3_get : GoodIn wsX4_takeAway (wsV RX4 79 RX3 yX3_get wsX3_get) := goodIn_app (goodIn_of _ (by decide +kernel)) ggX4_takeAway_X3_get
set_option maxRecDepth 20000 in
theorem ggX4_takeAway_X3_put : GoodIn wsX4_takeAway wsX3_put := goodIn_r _ [14, 10, 33] (by decide +kernel) (by decide +kernel)
set_option maxRecDepth 20000 in
theorem gX4_takeAway_X3_put : GoodIn wsX4_takeAway (wsV RX4 83 RX3 yX3_put wsX3_put) := goodIn_app (goodIn_of _ (by decide +kernel)) ggX4_takeAway_X3_put
theorem dX4_takeAway_0 : decode cX4_takeAway 0 = .ok (.iconst 0, 1) := by decide +kernel
theorem dX4_takeAway_1 : decode cX4_takeAway 1 = .ok (.istore_n 2, 1) := by decide +kernel
theorem dX4_takeAway_2 : decode cX4_takeAway 2 = .ok (.iconst 0, 1) := by decide +kernel
theorem dX4_takeAway_3 : decode cX4_takeAway 3 = .ok (.istore_n 3, 1) := by decide +kernel
theorem dX4_takeAway_4 : decode cX4_takeAway 4 = .ok (.iload_n 3, 1) := by decide +kernel
theorem dX4_takeAway_5 : decode cX4_takeAway 5 = .ok (.aload_n 0, 1) := by decide +kernel
theorem dX4_takeAway_6 : decode cX4_takeAway 6 = .ok (.getfield 47, 3) := by decide +kernel
theorem dX4_takeAway_9 : decode cX4_takeAway 9 = .ok (.if_icmp .ge 38, 3) := by decide +kernel
theorem dX4_takeAway_12 : decode cX4_takeAway 12 = .ok (.aload_n 0, 1) := by decide +kernel
theorem dX4_takeAway_13 : decode cX4_takeAway 13 = .ok (.getfield 44, 3) := by decide +kernel
theorem dX4_takeAway_16 : decode cX4_takeAway 16 = .ok (.iload_n 3, 1) := by decide +kernel
theorem dX4_takeAway_17 : decode cX4_takeAway 17 = .ok (.invokevirtual 79, 3) := by decide +kernel
theorem dX4_takeAway_20 : decode cX4_takeAway 20 = .ok (.istore 4, 2) := by decide +kernel
theorem dX4_takeAway_22 : decode cX4_takeAway 22 = .ok (.iload 4, 2) := by decide +kernel
theorem dX4_takeAway_24 : decode cX4_takeAway 24 = .ok (.iload_n 1, 1) := by decide +kernel
theorem dX4_takeAway_25 : decode cX4_takeAway 25 = .ok (.if_icmp .eq 16, 3) := by decide +kernel
theorem dX4_takeAway_28 : decode cX4_takeAway 28 = .ok (.aload_n 0, 1) := by decide +kernel
theorem dX4_takeAway_29 : decode cX4_takeAway 29 = .ok (.getfield 44, 3) := by decide +kernel
theorem dX4_takeAway_32 : decode cX4_takeAway 32 = .ok (.iload_n 2, 1) := by decide +kernel
theorem dX4_takeAway_33 : decode cX4_takeAway 33 = .ok (.iload 4, 2) := by decide +kernel
theorem dX4_takeAway_35 : decode cX4_takeAway 35 = .ok (.invokevirtual 83, 3) := by decide +kernel
theorem dX4_takeAway_38 : decode cX4_takeAway 38 = .ok (.iinc 2 1, 3) := by decide +kernel
theorem dX4_takeAway_41 : decode cX4_takeAway 41 = .ok (.iinc 3 1, 3) := by decide +kernel
theorem dX4_takeAway_44 : decode cX4_takeAway 44 = .ok (.goto (-40), 3) := by decide +kernel
theorem dX4_takeAway_47 : decode cX4_takeAway 47 = .ok (.aload_n 0, 1) := by decide +kernel
theorem dX4_takeAway_48 : decode cX4_takeAway 48 = .ok (.iload_n 2, 1) := by decide +kernel
theorem dX4_takeAway_49 : decode cX4_takeAway 49 = .ok (.putfield 47, 3) := by decide +kernel
theorem dX4_takeAway_52 : decode cX4_takeAway 52 = .ok (.aload_n 0, 1) := by decide +kernel
theorem dX4_takeAway_53 : decode cX4_takeAway 53 = .ok (.getfield 26, 3) := by decide +kernel
theorem dX4_takeAway_56 : decode cX4_takeAway 56 = .ok (.iload_n 1, 1) := by decide +kernel
theorem dX4_takeAway_57 : decode cX4_takeAway 57 = .ok (.bipush (-2), 2) := by decide +kernel
theorem dX4_takeAway_59 : decode cX4_takeAway 59 = .ok (.invokevirtual 83, 3) := by decide +kernel
theorem dX4_takeAway_62 : decode cX4_takeAway 62 = .ok (.aload_n 0, 1) := by decide +kernel
theorem dX4_takeAway_63 : decode cX4_takeAway 63 = .ok (.dup, 1) := by decide +kernel
theorem dX4_takeAway_64 : decode cX4_takeAway 64 = .ok (.getfield 66, 3) := by decide +kernel
theorem dX4_takeAway_67 : decode cX4_takeAway 67 = .ok (.iconst 1, 1) := by decide +kernel
theorem dX4_takeAway_68 : decode cX4_takeAway 68 = .ok (.iadd, 1) := by decide +kernel
theorem dX4_takeAway_69 : decode cX4_takeAway 69 = .ok (.putfield 66, 3) := by decide +kernel
theorem dX4_takeAway_72 : decode cX4_takeAway 72 = .ok (.return_, 1) := by decide +kernel
set_option maxRecDepth 20000 in
theorem ggX4_dropLetter_X3_get : GoodIn wsX4_dropLetter wsX3_get := goodIn_r _ [6, 7, 39] (by decide +kernel) (by decide +kernel)
set_option maxRecDepth 20000 in
theorem gX4_dropLetter_X3_get : GoodIn wsX4_dropLetter (wsV RX4 79 RX3 yX3_get wsX3_get) := goodIn_app (goodIn_of _ (by decide +kernel)) ggX4_dropLetter_X3_get
set_option maxRecDepth 20000 in
theorem ggX4_dropLetter_X4_takeAway : GoodIn wsX4_dropLetter wsX4_takeAway := goodIn_r _ [12, 13, 14, 15, 16, 2, 3, 4, 5, 6, 7, 17, 18, 19, 20, 21, 22, 23, 24, 25, 26, 27, 28, 29, 30, 31, 32, 33, 34, 35, 36, 37, 38, 39] (by decide +kernel) (by decide +kernel)
set_option maxRecDepth 20000 in
theorem gX4_dropLetter_X4_takeAway : GoodIn wsX4_dropLetter (wsV RX4 91 RX4 yX4_takeAway wsX4_takeAway) := goodIn_app (goodIn_of _ (by decide +kernel)) ggX4_dropLetter_X4_takeAway
theorem dX4_dropLetter_0 : decode cX4_dropLetter 0 = .ok (.aload_n 0, 1) := by decide +kernel
theorem dX4_dropLetter_1 : decode cX4_dropLetter 1 = .ok (.getfield 41, 3) := by decide +kernel
theorem dX4_dropLetter_4 : decode cX4_dropLetter 4 = .ok (.iload_n 1, 1) := by decide +kernel
theorem dX4_dropLetter_5 : decode cX4_dropLetter 5 = .ok (.invokevirtual 79, 3) := by decide +kernel
theorem dX4_dropLetter_8 : decode cX4_dropLetter 8 = .ok (.istore_n 2, 1) := by decide +kernel
theorem dX4_dropLetter_9 : decode cX4_dropLetter 9 = .ok (.aload_n 0, 1) := by decide +kernel
theorem dX4_dropLetter_10 : decode cX4_dropLetter 10 = .ok (.iload_n 1, 1) := by decide +kernel
theorem dX4_dropLetter_11 : decode cX4_dropLetter 11 = .ok (.invokevirtual 91, 3) := by decide +kernel
theorem dX4_dropLetter_14 : decode cX4_dropLetter 14 = .ok (.iload_n 2, 1) := by decide +kernel
theorem dX4_dropLetter_15 : decode cX4_dropLetter 15 = .ok (.ireturn, 1) := by decide +kernel
set_option maxRecDepth 20000 in
theorem ggX4_beginLine_X4_countOfLine : GoodIn wsX4_beginLine wsX4_countOfLine := goodIn_r _ [6, 7, 8, 9, 10, 11, 12, 13, 14, 15, 16, 17, 5, 18, 19, 1, 20, 21, 22, 23, 24, 25, 26, 27, 28, 29, 30, 31, 32, 33, 34, 35, 36, 37, 38] (by decide +kernel) (by decide +kernel)
set_option maxRecDepth 20000 in
theorem gX4_beginLine_X4_countOfLine : GoodIn wsX4_beginLine (wsV RX4 124 RX4 yX4_countOfLine wsX4_countOfLine) := goodIn_app (goodIn_of _ (by decide +kernel)) ggX4_beginLine_X4_countOfLine
theorem dX4_beginLine_0 : decode cX4_beginLine 0 = .ok (.aload_n 0, 1) := by decide +kernel
theorem dX4_beginLine_1 : decode cX4_beginLine 1 = .ok (.invokevirtual 124, 3) := by decide +kernel
theorem dX4_beginLine_4 : decode cX4_beginLine 4 = .ok (.istore_n 1, 1) := by decide +kernel
theorem dX4_beginLine_5 : decode cX4_beginLine 5 = .ok (.aload_n 0, 1) := by decide +kernel
theorem dX4_beginLine_6 : decode cX4_beginLine 6 = .ok (.dup, 1) := by decide +kernel
theorem dX4_beginLine_7 : decode cX4_beginLine 7 = .ok (.getfield 54, 3) := by decide +kernel
theorem dX4_beginLine_10 : decode cX4_beginLine 10 = .ok (.iconst 1, 1) := by decide +kernel
theorem dX4_beginLine_11 : decode cX4_beginLine 11 = .ok (.iadd, 1) := by decide +kernel
theorem dX4_beginLine_12 : decode cX4_beginLine 12 = .ok (.putfield 54, 3) := by decide +kernel
theorem dX4_beginLine_15 : decode cX4_beginLine 15 = .ok (.iload_n 1, 1) := by decide +kernel
theorem dX4_beginLine_16 : decode cX4_beginLine 16 = .ok (.ireturn, 1) := by decide +kernel
theorem dX4_openTray_0 : decode cX4_openTray 0 = .ok (.aload_n 0, 1) := by decide +kernel
theorem dX4_openTray_1 : decode cX4_openTray 1 = .ok (.dup, 1) := by decide +kernel
theorem dX4_openTray_2 : decode cX4_openTray 2 = .ok (.getfield 51, 3) := by decide +kernel
theorem dX4_openTray_5 : decode cX4_openTray 5 = .ok (.iconst 1, 1) := by decide +kernel
theorem dX4_openTray_6 : decode cX4_openTray 6 = .ok (.iadd, 1) := by decide +kernel
theorem dX4_openTray_7 : decode cX4_openTray 7 = .ok (.putfield 51, 3) := by decide +kernel
theorem dX4_openTray_10 : decode cX4_openTray 10 = .ok (.aload_n 0, 1) := by decide +kernel
theorem dX4_openTray_11 : decode cX4_openTray 11 = .ok (.getfield 51, 3) := by decide +kernel
theorem dX4_openTray_14 : decode cX4_openTray 14 = .ok (.iconst 1, 1) := by decide +kernel
theorem dX4_openTray_15 : decode cX4_openTray 15 = .ok (.isub, 1) := by decide +kernel
theorem dX4_openTray_16 : decode cX4_openTray 16 = .ok (.ireturn, 1) := by decide +kernel
set_option maxRecDepth 20000 in
theorem ggX4_closeEmptyShelves_X3_get : GoodIn wsX4_closeEmptyShelves wsX3_get := goodIn_r _ [6, 7, 42] (by decide +kernel) (by decide +kernel)
set_option maxRecDepth 20000 in
theorem gX4_closeEmptyShelves_X3_get : GoodIn wsX4_closeEmptyShelves (wsV RX4 79 RX3 yX3_get wsX3_get) := goodIn_app (goodIn_of _ (by decide +kernel)) ggX4_closeEmptyShelves_X3_get
set_option maxRecDepth 20000 in
theorem ggX4_closeEmptyShelves_X4_countOnShelf : GoodIn wsX4_closeEmptyShelves wsX4_countOnShelf := goodIn_r _ [12, 13, 14, 15, 2, 3, 4, 5, 6, 7, 24, 25, 26, 27, 28, 29, 30, 31, 32, 33, 34, 35, 36, 37, 38, 39, 40, 41, 42] (by decide +kernel) (by decide +kernel)
set_option maxRecDepth 20000 in
theorem gX4_closeEmptyShelves_X4_countOnShelf : GoodIn wsX4_closeEmptyShelves (wsV RX4 128 RX4 yX4_countOnShelf wsX4_countOnShelf) := goodIn_app (goodIn_of _ (by decide +kernel)) ggX4_closeEmptyShelves_X4_countOnShelf
set_option maxRecDepth 20000 in
theorem ggX4_closeEmptyShelves_X4_closeShelf : GoodIn wsX4_closeEmptyShelves wsX4_closeShelf := goodIn_r _ [19, 1, 13, 15, 14, 2, 3, 4, 5, 6, 7, 20, 21, 22, 23, 24, 25, 26, 27, 28, 29, 30, 31, 32, 33, 34, 35, 36, 37, 38, 39, 40, 41, 42] (by decide +kernel) (by decide +kernel)
set_option maxRecDepth 20000 in
theorem gX4_closeEmptyShelves_X4_closeShelf : GoodIn wsX4_closeEmptyShelves (wsV RX4 131 RX4 yX4_closeShelf wsX4_closeShelf) := goodIn_app (goodIn_of _ (by decide +kernel)) ggX4_closeEmptyShelves_X4_closeShelf
theorem dX4_closeEmptyShelves_0 : decode cX4_closeEmptyShelves 0 = .ok (.iconst 0, 1) := by decide +kernel
theorem dX4_closeEmptyShelves_1 : decode cX4_closeEmptyShelves 1 = .ok (.istore_n 1, 1) := by decide +kernel
theorem dX4_closeEmptyShelves_2 : decode cX4_closeEmptyShelves 2 = .ok (.bipush 71, 2) := by decide +kernel
theorem dX4_closeEmptyShelves_4 : decode cX4_closeEmptyShelves 4 = .ok (.istore_n 2, 1) := by decide +kernel
theorem dX4_closeEmptyShelves_5 : decode cX4_closeEmptyShelves 5 = .ok (.iload_n 2, 1) := by decide +kernel
theorem dX4_closeEmptyShelves_6 : decode cX4_closeEmptyShelves 6 = .ok (.ifCond .lt 36, 3) := by decide +kernel
theorem dX4_closeEmptyShelves_9 : decode cX4_closeEmptyShelves 9 = .ok (.aload_n 0, 1) := by decide +kernel
theorem dX4_closeEmptyShelves_10 : decode cX4_closeEmptyShelves 10 = .ok (.getfield 23, 3) := by decide +kernel
theorem dX4_closeEmptyShelves_13 : decode cX4_closeEmptyShelves 13 = .ok (.iload_n 2, 1) := by decide +kernel
theorem dX4_closeEmptyShelves_14 : decode cX4_closeEmptyShelves 14 = .ok (.invokevirtual 79, 3) := by decide +kernel
theorem dX4_closeEmptyShelves_17 : decode cX4_closeEmptyShelves 17 = .ok (.ifCond .le 19, 3) := by decide +kernel
theorem dX4_closeEmptyShelves_20 : decode cX4_closeEmptyShelves 20 = .ok (.aload_n 0, 1) := by decide +kernel
theorem dX4_closeEmptyShelves_21 : decode cX4_closeEmptyShelves 21 = .ok (.iload_n 2, 1) := by decide +kernel
theorem dX4_closeEmptyShelves_22 : decode cX4_closeEmptyShelves 22 = .ok (.invokevirtual 128, 3) := by decide +kernel
theorem dX4_closeEmptyShelves_25 : decode cX4_closeEmptyShelves 25 = .ok (.ifCond .ne 11, 3) := by decide +kernel
theorem dX4_closeEmptyShelves_28 : decode cX4_closeEmptyShelves 28 = .ok (.aload_n 0, 1) := by decide +kernel
theorem dX4_closeEmptyShelves_29 : decode cX4_closeEmptyShelves 29 = .ok (.iload_n 2, 1) := by decide +kernel
theorem dX4_closeEmptyShelves_30 : decode cX4_closeEmptyShelves 30 = .ok (.invokevirtual 131, 3) := by decide +kernel
theorem dX4_closeEmptyShelves_33 : decode cX4_closeEmptyShelves 33 = .ok (.iinc 1 1, 3) := by decide +kernel
theorem dX4_closeEmptyShelves_36 : decode cX4_closeEmptyShelves 36 = .ok (.iinc 2 (-1), 3) := by decide +kernel
theorem dX4_closeEmptyShelves_39 : decode cX4_closeEmptyShelves 39 = .ok (.goto (-34), 3) := by decide +kernel
theorem dX4_closeEmptyShelves_42 : decode cX4_closeEmptyShelves 42 = .ok (.iload_n 1, 1) := by decide +kernel
theorem dX4_closeEmptyShelves_43 : decode cX4_closeEmptyShelves 43 = .ok (.ireturn, 1) := by decide +kernel
set_option maxRecDepth 20000 in
theorem ggX4_closeShelf_X3_get : GoodIn wsX4_closeShelf wsX3_get := goodIn_r _ [9, 10, 33] (by decide +kernel) (by decide +kernel)
set_option maxRecDepth 20000 in
theorem gX4_closeShelf_X3_get : GoodIn wsX4_closeShelf (wsV RX4 79 RX3 yX3_get wsX3_get) := goodIn_app (goodIn_of _ (by decide +kernel)) ggX4_closeShelf_X3_get
set_option maxRecDepth 20000 in
theorem ggX4_closeShelf_X3_put : GoodIn wsX4_closeShelf wsX3_put := goodIn_r _ [14, 10, 33] (by decide +kernel) (by decide +kernel)
set_option maxRecDepth 20000 in
theorem gX4_closeShelf_X3_put : GoodIn wsX4_closeShelf (wsV RX4 83 RX3 yX3_put wsX3_put) := goodIn_app (goodIn_of _ (by decide +kernel)) ggX4_closeShelf_X3_put
theorem dX4_closeShelf_0 : decode cX4_closeShelf 0 = .ok (.iload_n 1, 1) := by decide +kernel
theorem dX4_closeShelf_1 : decode cX4_closeShelf 1 = .ok (.bipush 24, 2) := by decide +kernel
theorem dX4_closeShelf_3 : decode cX4_closeShelf 3 = .ok (.idiv, 1) := by decide +kernel
theorem dX4_closeShelf_4 : decode cX4_closeShelf 4 = .ok (.bipush 24, 2) := by decide +kernel
theorem dX4_closeShelf_6 : decode cX4_closeShelf 6 = .ok (.imul, 1) := by decide +kernel
theorem dX4_closeShelf_7 : decode cX4_closeShelf 7 = .ok (.bipush 24, 2) := by decide +kernel
theorem dX4_closeShelf_9 : decode cX4_closeShelf 9 = .ok (.iadd, 1) := by decide +kernel
theorem dX4_closeShelf_10 : decode cX4_closeShelf 10 = .ok (.iconst 1, 1) := by decide +kernel
theorem dX4_closeShelf_11 : decode cX4_closeShelf 11 = .ok (.isub, 1) := by decide +kernel
theorem dX4_closeShelf_12 : decode cX4_closeShelf 12 = .ok (.istore_n 2, 1) := by decide +kernel
theorem dX4_closeShelf_13 : decode cX4_closeShelf 13 = .ok (.iload_n 1, 1) := by decide +kernel
theorem dX4_closeShelf_14 : decode cX4_closeShelf 14 = .ok (.istore_n 3, 1) := by decide +kernel
theorem dX4_closeShelf_15 : decode cX4_closeShelf 15 = .ok (.iload_n 3, 1) := by decide +kernel
theorem dX4_closeShelf_16 : decode cX4_closeShelf 16 = .ok (.iload_n 2, 1) := by decide +kernel
theorem dX4_closeShelf_17 : decode cX4_closeShelf 17 = .ok (.if_icmp .ge 27, 3) := by decide +kernel
theorem dX4_closeShelf_20 : decode cX4_closeShelf 20 = .ok (.aload_n 0, 1) := by decide +kernel
theorem dX4_closeShelf_21 : decode cX4_closeShelf 21 = .ok (.getfield 23, 3) := by decide +kernel
theorem dX4_closeShelf_24 : decode cX4_closeShelf 24 = .ok (.iload_n 3, 1) := by decide +kernel
theorem dX4_closeShelf_25 : decode cX4_closeShelf 25 = .ok (.aload_n 0, 1) := by decide +kernel
theorem dX4_closeShelf_26 : decode cX4_closeShelf 26 = .ok (.getfield 23, 3) := by decide +kernel
theorem dX4_closeShelf_29 : decode cX4_closeShelf 29 = .ok (.iload_n 3, 1) := by decide +kernel
theorem dX4_closeShelf_30 : decode cX4_closeShelf 30 = .ok (.iconst 1, 1) := by decide +kernel
theorem dX4_closeShelf_31 : decode cX4_closeShelf 31 = .ok (.iadd, 1) := by decide +kernel
theorem dX4_closeShelf_32 : decode cX4_closeShelf 32 = .ok (.invokevirtual 79, 3) := by decide +kernel
theorem dX4_closeShelf_35 : decode cX4_closeShelf 35 = .ok (.invokevirtual 83, 3) := by decide +kernel
theorem dX4_closeShelf_38 : decode cX4_closeShelf 38 = .ok (.iinc 3 1, 3) := by decide +kernel
theorem dX4_closeShelf_41 : decode cX4_closeShelf 41 = .ok (.goto (-26), 3) := by decide +kernel
theorem dX4_closeShelf_44 : decode cX4_closeShelf 44 = .ok (.aload_n 0, 1) := by decide +kernel
theorem dX4_closeShelf_45 : decode cX4_closeShelf 45 = .ok (.getfield 23, 3) := by decide +kernel
theorem dX4_closeShelf_48 : decode cX4_closeShelf 48 = .ok (.iload_n 2, 1) := by decide +kernel
theorem dX4_closeShelf_49 : decode cX4_closeShelf 49 = .ok (.iconst 0, 1) := by decide +kernel
theorem dX4_closeShelf_50 : decode cX4_closeShelf 50 = .ok (.invokevirtual 83, 3) := by decide +kernel
theorem dX4_closeShelf_53 : decode cX4_closeShelf 53 = .ok (.iconst 0, 1) := by decide +kernel
theorem dX4_closeShelf_54 : decode cX4_closeShelf 54 = .ok (.istore_n 3, 1) := by decide +kernel
theorem dX4_closeShelf_55 : decode cX4_closeShelf 55 = .ok (.iload_n 3, 1) := by decide +kernel
theorem dX4_closeShelf_56 : decode cX4_closeShelf 56 = .ok (.aload_n 0, 1) := by decide +kernel
theorem dX4_closeShelf_57 : decode cX4_closeShelf 57 = .ok (.getfield 47, 3) := by decide +kernel
theorem dX4_closeShelf_60 : decode cX4_closeShelf 60 = .ok (.if_icmp .ge 55, 3) := by decide +kernel
theorem dX4_closeShelf_63 : decode cX4_closeShelf 63 = .ok (.aload_n 0, 1) := by decide +kernel
theorem dX4_closeShelf_64 : decode cX4_closeShelf 64 = .ok (.getfield 44, 3) := by decide +kernel
theorem dX4_closeShelf_67 : decode cX4_closeShelf 67 = .ok (.iload_n 3, 1) := by decide +kernel
theorem dX4_closeShelf_68 : decode cX4_closeShelf 68 = .ok (.invokevirtual 79, 3) := by decide +kernel
theorem dX4_closeShelf_71 : decode cX4_closeShelf 71 = .ok (.istore 4, 2) := by decide +kernel
theorem dX4_closeShelf_73 : decode cX4_closeShelf 73 = .ok (.aload_n 0, 1) := by decide +kernel
theorem dX4_closeShelf_74 : decode cX4_closeShelf 74 = .ok (.getfield 26, 3) := by decide +kernel
theorem dX4_closeShelf_77 : decode cX4_closeShelf 77 = .ok (.iload 4, 2) := by decide +kernel
theorem dX4_closeShelf_79 : decode cX4_closeShelf 79 = .ok (.invokevirtual 79, 3) := by decide +kernel
theorem dX4_closeShelf_82 : decode cX4_closeShelf 82 = .ok (.istore 5, 2) := by decide +kernel
theorem dX4_closeShelf_84 : decode cX4_closeShelf 84 = .ok (.iload 5, 2) := by decide +kernel
theorem dX4_closeShelf_86 : decode cX4_closeShelf 86 = .ok (.iload_n 1, 1) := by decide +kernel
theorem dX4_closeShelf_87 : decode cX4_closeShelf 87 = .ok (.if_icmp .le 22, 3) := by decide +kernel
theorem dX4_closeShelf_90 : decode cX4_closeShelf 90 = .ok (.iload 5, 2) := by decide +kernel
theorem dX4_closeShelf_92 : decode cX4_closeShelf 92 = .ok (.iload_n 2, 1) := by decide +kernel
theorem dX4_closeShelf_93 : decode cX4_closeShelf 93 = .ok (.if_icmp .gt 16, 3) := by decide +kernel
theorem dX4_closeShelf_96 : decode cX4_closeShelf 96 = .ok (.aload_n 0, 1) := by decide +kernel
theorem dX4_closeShelf_97 : decode cX4_closeShelf 97 = .ok (.getfield 26, 3) := by decide +kernel
theorem dX4_closeShelf_100 : decode cX4_closeShelf 100 = .ok (.iload 4, 2) := by decide +kernel
theorem dX4_closeShelf_102 : decode cX4_closeShelf 102 = .ok (.iload 5, 2) := by decide +kernel
theorem dX4_closeShelf_104 : decode cX4_closeShelf 104 = .ok (.iconst 1, 1) := by decide +kernel
theorem dX4_closeShelf_105 : decode cX4_closeShelf 105 = .ok (.isub, 1) := by decide +kernel
theorem dX4_closeShelf_106 : decode cX4_closeShelf 106 = .ok (.invokevirtual 83, 3) := by decide +kernel
theorem dX4_closeShelf_109 : decode cX4_closeShelf 109 = .ok (.iinc 3 1, 3) := by decide +kernel
theorem dX4_closeShelf_112 : decode cX4_closeShelf 112 = .ok (.goto (-57), 3) := by decide +kernel
theorem dX4_closeShelf_115 : decode cX4_closeShelf 115 = .ok (.return_, 1) := by decide +kernel
set_option maxRecDepth 20000 in
theorem ggX4_widthOf_X6_signOf : GoodIn wsX4_widthOf wsX6_signOf := goodIn_r _ [4] (by decide +kernel) (by decide +kernel)
set_option maxRecDepth 20000 in
theorem gX4_widthOf_X6_signOf_n134 : GoodIn wsX4_widthOf (wsX6_signOf) := ggX4_widthOf_X6_signOf
set_option maxRecDepth 20000 in
theorem ggX4_widthOf_X3_get : GoodIn wsX4_widthOf wsX3_get := goodIn_r _ [9, 10, 33] (by decide +kernel) (by decide +kernel)
set_option maxRecDepth 20000 in
theorem gX4_widthOf_X3_get : GoodIn wsX4_widthOf (wsV RX4 79 RX3 yX3_get wsX3_get) := goodIn_app (goodIn_of _ (by decide +kernel)) ggX4_widthOf_X3_get
set_option maxRecDepth 20000 in
theorem ggX4_widthOf_X6_sizeOf : GoodIn wsX4_widthOf wsX6_sizeOf := goodIn_r _ [12] (by decide +kernel) (by decide +kernel)
set_option maxRecDepth 20000 in
theorem gX4_widthOf_X6_sizeOf_n137 : GoodIn wsX4_widthOf (wsX6_sizeOf) := ggX4_widthOf_X6_sizeOf
set_option maxRecDepth 20000 in
theorem ggX4_widthOf_X6_blurOf : GoodIn wsX4_widthOf wsX6_blurOf := goodIn_r _ [14] (by decide +kernel) (by decide +kernel)
set_option maxRecDepth 20000 in
theorem gX4_widthOf_X6_blurOf_n140 : GoodIn wsX4_widthOf (wsX6_blurOf) := ggX4_widthOf_X6_blurOf
theorem dX4_widthOf_0 : decode cX4_widthOf 0 = .ok (.aload_n 0, 1) := by decide +kernel
theorem dX4_widthOf_1 : decode cX4_widthOf 1 = .ok (.getfield 14, 3) := by decide +kernel
theorem dX4_widthOf_4 : decode cX4_widthOf 4 = .ok (.iload_n 1, 1) := by decide +kernel
theorem dX4_widthOf_5 : decode cX4_widthOf 5 = .ok (.invokestatic 134, 3) := by decide +kernel
theorem dX4_widthOf_8 : decode cX4_widthOf 8 = .ok (.invokevirtual 79, 3) := by decide +kernel
theorem dX4_widthOf_11 : decode cX4_widthOf 11 = .ok (.iload_n 1, 1) := by decide +kernel
theorem dX4_widthOf_12 : decode cX4_widthOf 12 = .ok (.invokestatic 137, 3) := by decide +kernel
theorem dX4_widthOf_15 : decode cX4_widthOf 15 = .ok (.imul, 1) := by decide +kernel
theorem dX4_widthOf_16 : decode cX4_widthOf 16 = .ok (.iconst 2, 1) := by decide +kernel
theorem dX4_widthOf_17 : decode cX4_widthOf 17 = .ok (.iload_n 1, 1) := by decide +kernel
theorem dX4_widthOf_18 : decode cX4_widthOf 18 = .ok (.invokestatic 140, 3) := by decide +kernel
theorem dX4_widthOf_21 : decode cX4_widthOf 21 = .ok (.imul, 1) := by decide +kernel
theorem dX4_widthOf_22 : decode cX4_widthOf 22 = .ok (.iadd, 1) := by decide +kernel
theorem dX4_widthOf_23 : decode cX4_widthOf 23 = .ok (.ireturn, 1) := by decide +kernel
set_option maxRecDepth 20000 in
theorem ggX4_heightOf_X6_signOf : GoodIn wsX4_heightOf wsX6_signOf := goodIn_r _ [4] (by decide +kernel) (by decide +kernel)
set_option maxRecDepth 20000 in
theorem gX4_heightOf_X6_signOf_n134 : GoodIn wsX4_heightOf (wsX6_signOf) := ggX4_heightOf_X6_signOf
set_option maxRecDepth 20000 in
theorem ggX4_heightOf_X3_get : GoodIn wsX4_heightOf wsX3_get := goodIn_r _ [9, 10, 33] (by decide +kernel) (by decide +kernel)
set_option maxRecDepth 20000 in
theorem gX4_heightOf_X3_get : GoodIn wsX4_heightOf (wsV RX4 79 RX3 yX3_get wsX3_get) := goodIn_app (goodIn_of _ (by decide +kernel)) ggX4_heightOf_X3_get
set_option maxRecDepth 20000 in
theorem ggX4_heightOf_X6_sizeOf : GoodIn wsX4_heightOf wsX6_sizeOf := goodIn_r _ [12] (by decide +kernel) (by decide +kernel)
set_option maxRecDepth 20000 in
theorem gX4_heightOf_X6_sizeOf_n137 : GoodIn wsX4_heightOf (wsX6_sizeOf) := ggX4_heightOf_X6_sizeOf
set_option maxRecDepth 20000 in
theorem ggX4_heightOf_X6_blurOf : GoodIn wsX4_heightOf wsX6_blurOf := goodIn_r _ [14] (by decide +kernel) (by decide +kernel)
set_option maxRecDepth 20000 in
theorem gX4_heightOf_X6_blurOf_n140 : GoodIn wsX4_heightOf (wsX6_blurOf) := ggX4_heightOf_X6_blurOf
theorem dX4_heightOf_0 : decode cX4_heightOf 0 = .ok (.aload_n 0, 1) := by decide +kernel
theorem dX4_heightOf_1 : decode cX4_heightOf 1 = .ok (.getfield 20, 3) := by decide +kernel
theorem dX4_heightOf_4 : decode cX4_heightOf 4 = .ok (.iload_n 1, 1) := by decide +kernel
theorem dX4_heightOf_5 : decode cX4_heightOf 5 = .ok (.invokestatic 134, 3) := by decide +kernel
theorem dX4_heightOf_8 : decode cX4_heightOf 8 = .ok (.invokevirtual 79, 3) := by decide +kernel
theorem dX4_heightOf_11 : decode cX4_heightOf 11 = .ok (.iload_n 1, 1) := by decide +kernel
theorem dX4_heightOf_12 : decode cX4_heightOf 12 = .ok (.invokestatic 137, 3) := by decide +kernel
theorem dX4_heightOf_15 : decode cX4_heightOf 15 = .ok (.imul, 1) := by decide +kernel
theorem dX4_heightOf_16 : decode cX4_heightOf 16 = .ok (.iconst 2, 1) := by decide +kernel
theorem dX4_heightOf_17 : decode cX4_heightOf 17 = .ok (.iload_n 1, 1) := by decide +kernel
theorem dX4_heightOf_18 : decode cX4_heightOf 18 = .ok (.invokestatic 140, 3) := by decide +kernel
theorem dX4_heightOf_21 : decode cX4_heightOf 21 = .ok (.imul, 1) := by decide +kernel
theorem dX4_heightOf_22 : decode cX4_heightOf 22 = .ok (.iadd, 1) := by decide +kernel
theorem dX4_heightOf_23 : decode cX4_heightOf 23 = .ok (.ireturn, 1) := by decide +kernel
set_option maxRecDepth 20000 in
theorem ggX4_areaOf_X4_widthOf : GoodIn wsX4_areaOf wsX4_widthOf := goodIn_r _ [5, 6, 7, 8, 9, 10, 11, 12, 13, 14, 15, 16, 17, 18, 19, 25, 26, 27, 28, 29, 30, 31, 32, 33, 34, 35, 36, 37, 38, 39, 40, 41, 42, 43] (by decide +kernel) (by decide +kernel)
set_option maxRecDepth 20000 in
theorem gX4_areaOf_X4_widthOf : GoodIn wsX4_areaOf (wsV RX4 121 RX4 yX4_widthOf wsX4_widthOf) := goodIn_app (goodIn_of _ (by decide +kernel)) ggX4_areaOf_X4_widthOf
set_option maxRecDepth 20000 in
theorem ggX4_areaOf_X4_heightOf : GoodIn wsX4_areaOf wsX4_heightOf := goodIn_r _ [23, 24, 7, 8, 9, 10, 11, 12, 13, 14, 15, 16, 17, 18, 19, 25, 26, 27, 28, 29, 30, 31, 32, 33, 34, 35, 36, 37, 38, 39, 40, 41, 42, 43] (by decide +kernel) (by decide +kernel)
set_option maxRecDepth 20000 in
theorem gX4_areaOf_X4_heightOf : GoodIn wsX4_areaOf (wsV RX4 109 RX4 yX4_heightOf wsX4_heightOf) := goodIn_app (goodIn_of _ (by decide +kernel)) ggX4_areaOf_X4_heightOf
theorem dX4_areaOf_0 : decode cX4_areaOf 0 = .ok (.aload_n 0, 1) := by decide +kernel
theorem dX4_areaOf_1 : decode cX4_areaOf 1 = .ok (.iload_n 1, 1) := by decide +kernel
theorem dX4_areaOf_2 : decode cX4_areaOf 2 = .ok (.invokevirtual 121, 3) := by decide +kernel
theorem dX4_areaOf_5 : decode cX4_areaOf 5 = .ok (.aload_n 0, 1) := by decide +kernel
theorem dX4_areaOf_6 : decode cX4_areaOf 6 = .ok (.iload_n 1, 1) := by decide +kernel
theorem dX4_areaOf_7 : decode cX4_areaOf 7 = .ok (.invokevirtual 109, 3) := by decide +kernel
theorem dX4_areaOf_10 : decode cX4_areaOf 10 = .ok (.imul, 1) := by decide +kernel
theorem dX4_areaOf_11 : decode cX4_areaOf 11 = .ok (.ireturn, 1) := by decide +kernel
set_option maxRecDepth 20000 in
theorem ggX4_inkFor_X6_blurOf : GoodIn wsX4_inkFor wsX6_blurOf := goodIn_r _ [3] (by decide +kernel) (by decide +kernel)
set_option maxRecDepth 20000 in
theorem gX4_inkFor_X6_blurOf_n140 : GoodIn wsX4_inkFor (wsX6_blurOf) := ggX4_inkFor_X6_blurOf
set_option maxRecDepth 20000 in
theorem ggX4_inkFor_X4_areaOf : GoodIn wsX4_inkFor wsX4_areaOf := goodIn_r _ [8, 9, 10, 11, 7, 12, 13, 14, 2, 15, 16, 17, 18, 19, 20, 21, 22, 23, 1, 3, 24, 25, 26, 27, 28, 34, 35, 36, 37, 38, 39, 40, 41, 42, 43, 44, 45, 46, 47, 48, 49, 50, 51, 52] (by decide +kernel) (by decide +kernel)
set_option maxRecDepth 20000 in
theorem gX4_inkFor_X4_areaOf : GoodIn wsX4_inkFor (wsV RX4 143 RX4 yX4_areaOf wsX4_areaOf) := goodIn_app (goodIn_of _ (by decide +kernel)) ggX4_inkFor_X4_areaOf
set_option maxRecDepth 20000 in
theorem ggX4_inkFor_X4_isThere : GoodIn wsX4_inkFor wsX4_isThere := goodIn_r _ [32, 33, 16, 17, 18, 19, 20, 21, 34, 35, 36, 37, 38, 39, 40, 41, 42, 43, 44, 45, 46, 47, 48, 49, 50, 51, 52] (by decide +kernel) (by decide +kernel)
set_option maxRecDepth 20000 in
theorem gX4_inkFor_X4_isThere : GoodIn wsX4_inkFor (wsV RX4 87 RX4 yX4_isThere wsX4_isThere) := goodIn_app (goodIn_of _ (by decide +kernel)) ggX4_inkFor_X4_isThere
theorem dX4_inkFor_0 : decode cX4_inkFor 0 = .ok (.iload_n 1, 1) := by decide +kernel
theorem dX4_inkFor_1 : decode cX4_inkFor 1 = .ok (.iload_n 1, 1) := by decide +kernel
theorem dX4_inkFor_2 : decode cX4_inkFor 2 = .ok (.invokestatic 140, 3) := by decide +kernel
theorem dX4_inkFor_5 : decode cX4_inkFor 5 = .ok (.isub, 1) := by decide +kernel
theorem dX4_inkFor_6 : decode cX4_inkFor 6 = .ok (.istore_n 2, 1) := by decide +kernel
theorem dX4_inkFor_7 : decode cX4_inkFor 7 = .ok (.aload_n 0, 1) := by decide +kernel
theorem dX4_inkFor_8 : decode cX4_inkFor 8 = .ok (.iload_n 1, 1) := by decide +kernel
theorem dX4_inkFor_9 : decode cX4_inkFor 9 = .ok (.invokevirtual 143, 3) := by decide +kernel
theorem dX4_inkFor_12 : decode cX4_inkFor 12 = .ok (.istore_n 3, 1) := by decide +kernel
theorem dX4_inkFor_13 : decode cX4_inkFor 13 = .ok (.iload_n 1, 1) := by decide +kernel
theorem dX4_inkFor_14 : decode cX4_inkFor 14 = .ok (.iload_n 2, 1) := by decide +kernel
theorem dX4_inkFor_15 : decode cX4_inkFor 15 = .ok (.if_icmp .eq 17, 3) := by decide +kernel
theorem dX4_inkFor_18 : decode cX4_inkFor 18 = .ok (.aload_n 0, 1) := by decide +kernel
theorem dX4_inkFor_19 : decode cX4_inkFor 19 = .ok (.iload_n 2, 1) := by decide +kernel
theorem dX4_inkFor_20 : decode cX4_inkFor 20 = .ok (.invokevirtual 87, 3) := by decide +kernel
theorem dX4_inkFor_23 : decode cX4_inkFor 23 = .ok (.ifCond .eq 9, 3) := by decide +kernel
theorem dX4_inkFor_26 : decode cX4_inkFor 26 = .ok (.iload_n 3, 1) := by decide +kernel
theorem dX4_inkFor_27 : decode cX4_inkFor 27 = .ok (.iconst 2, 1) := by decide +kernel
theorem dX4_inkFor_28 : decode cX4_inkFor 28 = .ok (.idiv, 1) := by decide +kernel
theorem dX4_inkFor_29 : decode cX4_inkFor 29 = .ok (.goto 4, 3) := by decide +kernel
theorem dX4_inkFor_32 : decode cX4_inkFor 32 = .ok (.iload_n 3, 1) := by decide +kernel
theorem dX4_inkFor_33 : decode cX4_inkFor 33 = .ok (.ireturn, 1) := by decide +kernel
set_option maxRecDepth 20000 in
theorem ggX4_isThere_X3_get : GoodIn wsX4_isThere wsX3_get := goodIn_r _ [6, 7, 26] (by decide +kernel) (by decide +kernel)
set_option maxRecDepth 20000 in
theorem gX4_isThere_X3_get : GoodIn wsX4_isThere (wsV RX4 79 RX3 yX3_get wsX3_get) := goodIn_app (goodIn_of _ (by decide +kernel)) ggX4_isThere_X3_get
theorem dX4_isThere_0 : decode cX4_isThere 0 = .ok (.aload_n 0, 1) := by decide +kernel
theorem dX4_isThere_1 : decode cX4_isThere 1 = .ok (.getfield 26, 3) := by decide +kernel
theorem dX4_isThere_4 : decode cX4_isThere 4 = .ok (.iload_n 1, 1) := by decide +kernel
theorem dX4_isThere_5 : decode cX4_isThere 5 = .ok (.invokevirtual 79, 3) := by decide +kernel
theorem dX4_isThere_8 : decode cX4_isThere 8 = .ok (.bipush (-2), 2) := by decide +kernel
theorem dX4_isThere_10 : decode cX4_isThere 10 = .ok (.if_icmp .eq 7, 3) := by decide +kernel
theorem dX4_isThere_13 : decode cX4_isThere 13 = .ok (.iconst 1, 1) := by decide +kernel
theorem dX4_isThere_14 : decode cX4_isThere 14 = .ok (.goto 4, 3) := by decide +kernel
theorem dX4_isThere_17 : decode cX4_isThere 17 = .ok (.iconst 0, 1) := by decide +kernel
theorem dX4_isThere_18 : decode cX4_isThere 18 = .ok (.ireturn, 1) := by decide +kernel
set_option maxRecDepth 20000 in
theorem ggX4_isLaid_X3_get : GoodIn wsX4_isLaid wsX3_get := goodIn_r _ [6, 7, 26] (by decide +kernel) (by decide +kernel)
set_option maxRecDepth 20000 in
theorem gX4_isLaid_X3_get : GoodIn wsX4_isLaid (wsV RX4 79 RX3 yX3_get wsX3_get) := goodIn_app (goodIn_of _ (by decide +kernel)) ggX4_isLaid_X3_get
theorem dX4_isLaid_0 : decode cX4_isLaid 0 = .ok (.aload_n 0, 1) := by decide +kernel
theorem dX4_isLaid_1 : decode cX4_isLaid 1 = .ok (.getfield 26, 3) := by decide +kernel
theorem dX4_isLaid_4 : decode cX4_isLaid 4 = .ok (.iload_n 1, 1) := by decide +kernel
theorem dX4_isLaid_5 : decode cX4_isLaid 5 = .ok (.invokevirtual 79, 3) := by decide +kernel
theorem dX4_isLaid_8 : decode cX4_isLaid 8 = .ok (.ifCond .lt 7, 3) := by decide +kernel
theorem dX4_isLaid_11 : decode cX4_isLaid 11 = .ok (.iconst 1, 1) := by decide +kernel
theorem dX4_isLaid_12 : decode cX4_isLaid 12 = .ok (.goto 4, 3) := by decide +kernel
theorem dX4_isLaid_15 : decode cX4_isLaid 15 = .ok (.iconst 0, 1) := by decide +kernel
theorem dX4_isLaid_16 : decode cX4_isLaid 16 = .ok (.ireturn, 1) := by decide +kernel
set_option maxRecDepth 20000 in
theorem ggX4_isInStreet_X3_get : GoodIn wsX4_isInStreet wsX3_get := goodIn_r _ [6, 7, 26] (by decide +kernel) (by decide +kernel)
set_option maxRecDepth 20000 in
theorem gX4_isInStreet_X3_get : GoodIn wsX4_isInStreet (wsV RX4 79 RX3 yX3_get wsX3_get) := goodIn_app (goodIn_of _ (by decide +kernel)) ggX4_isInStreet_X3_get
theorem dX4_isInStreet_0 : decode cX4_isInStreet 0 = .ok (.aload_n 0, 1) := by decide +kernel
theorem dX4_isInStreet_1 : decode cX4_isInStreet 1 = .ok (.getfield 26, 3) := by decide +kernel
theorem dX4_isInStreet_4 : decode cX4_isInStreet 4 = .ok (.iload_n 1, 1) := by decide +kernel
theorem dX4_isInStreet_5 : decode cX4_isInStreet 5 = .ok (.invokevirtual 79, 3) := by decide +kernel
theorem dX4_isInStreet_8 : decode cX4_isInStreet 8 = .ok (.iconst (-1), 1) := by decide +kernel
theorem dX4_isInStreet_9 : decode cX4_isInStreet 9 = .ok (.if_icmp .ne 7, 3) := by decide +kernel
theorem dX4_isInStreet_12 : decode cX4_isInStreet 12 = .ok (.iconst 1, 1) := by decide +kernel
theorem dX4_isInStreet_13 : decode cX4_isInStreet 13 = .ok (.goto 4, 3) := by decide +kernel
theorem dX4_isInStreet_16 : decode cX4_isInStreet 16 = .ok (.iconst 0, 1) := by decide +kernel
theorem dX4_isInStreet_17 : decode cX4_isInStreet 17 = .ok (.ireturn, 1) := by decide +kernel
set_option maxRecDepth 20000 in
theorem ggX4_isOfLine_X3_get : GoodIn wsX4_isOfLine wsX3_get := goodIn_r _ [7, 8, 27] (by decide +kernel) (by decide +kernel)
set_option maxRecDepth 20000 in
theorem gX4_isOfLine_X3_get : GoodIn wsX4_isOfLine (wsV RX4 79 RX3 yX3_get wsX3_get) := goodIn_app (goodIn_of _ (by decide +kernel)) ggX4_isOfLine_X3_get
theorem dX4_isOfLine_0 : decode cX4_isOfLine 0 = .ok (.aload_n 0, 1) := by decide +kernel
theorem dX4_isOfLine_1 : decode cX4_isOfLine 1 = .ok (.getfield 38, 3) := by decide +kernel
theorem dX4_isOfLine_4 : decode cX4_isOfLine 4 = .ok (.iload_n 1, 1) := by decide +kernel
theorem dX4_isOfLine_5 : decode cX4_isOfLine 5 = .ok (.invokevirtual 79, 3) := by decide +kernel
theorem dX4_isOfLine_8 : decode cX4_isOfLine 8 = .ok (.aload_n 0, 1) := by decide +kernel
theorem dX4_isOfLine_9 : decode cX4_isOfLine 9 = .ok (.getfield 54, 3) := by decide +kernel
theorem dX4_isOfLine_12 : decode cX4_isOfLine 12 = .ok (.if_icmp .ne 7, 3) := by decide +kernel
theorem dX4_isOfLine_15 : decode cX4_isOfLine 15 = .ok (.iconst 1, 1) := by decide +kernel
theorem dX4_isOfLine_16 : decode cX4_isOfLine 16 = .ok (.goto 4, 3) := by decide +kernel
theorem dX4_isOfLine_19 : decode cX4_isOfLine 19 = .ok (.iconst 0, 1) := by decide +kernel
theorem dX4_isOfLine_20 : decode cX4_isOfLine 20 = .ok (.ireturn, 1) := by decide +kernel
set_option maxRecDepth 20000 in
theorem ggX4_covers_X3_get : GoodIn wsX4_covers wsX3_get := goodIn_r _ [8, 9, 46] (by decide +kernel) (by decide +kernel)
set_option maxRecDepth 20000 in
theorem gX4_covers_X3_get : GoodIn wsX4_covers (wsV RX4 79 RX3 yX3_get wsX3_get) := goodIn_app (goodIn_of _ (by decide +kernel)) ggX4_covers_X3_get
set_option maxRecDepth 20000 in
theorem ggX4_covers_X4_topOf : GoodIn wsX4_covers wsX4_topOf := goodIn_r _ [14, 15, 4, 5, 6, 7, 8, 9, 28, 29, 30, 31, 32, 33, 34, 35, 36, 37, 38, 39, 40, 41, 42, 43, 44, 45, 46] (by decide +kernel) (by decide +kernel)
set_option maxRecDepth 20000 in
theorem gX4_covers_X4_topOf : GoodIn wsX4_covers (wsV RX4 146 RX4 yX4_topOf wsX4_topOf) := goodIn_app (goodIn_of _ (by decide +kernel)) ggX4_covers_X4_topOf
set_option maxRecDepth 20000 in
theorem ggX4_covers_X4_heightOf : GoodIn wsX4_covers wsX4_heightOf := goodIn_r _ [19, 20, 21, 22, 23, 4, 5, 6, 7, 8, 9, 24, 25, 26, 27, 28, 29, 30, 31, 32, 33, 34, 35, 36, 37, 38, 39, 40, 41, 42, 43, 44, 45, 46] (by decide +kernel) (by decide +kernel)
set_option maxRecDepth 20000 in
theorem gX4_covers_X4_heightOf : GoodIn wsX4_covers (wsV RX4 109 RX4 yX4_heightOf wsX4_heightOf) := goodIn_app (goodIn_of _ (by decide +kernel)) ggX4_covers_X4_heightOf
theorem dX4_covers_0 : decode cX4_covers 0 = .ok (.aload_n 0, 1) := by decide +kernel
theorem dX4_covers_1 : decode cX4_covers 1 = .ok (.aload_n 0, 1) := by decide +kernel
theorem dX4_covers_2 : decode cX4_covers 2 = .ok (.getfield 26, 3) := by decide +kernel
theorem dX4_covers_5 : decode cX4_covers 5 = .ok (.iload_n 1, 1) := by decide +kernel
theorem dX4_covers_6 : decode cX4_covers 6 = .ok (.invokevirtual 79, 3) := by decide +kernel
theorem dX4_covers_9 : decode cX4_covers 9 = .ok (.invokevirtual 146, 3) := by decide +kernel
theorem dX4_covers_12 : decode cX4_covers 12 = .ok (.istore 4, 2) := by decide +kernel
theorem dX4_covers_14 : decode cX4_covers 14 = .ok (.iload_n 2, 1) := by decide +kernel
theorem dX4_covers_15 : decode cX4_covers 15 = .ok (.aload_n 0, 1) := by decide +kernel
theorem dX4_covers_16 : decode cX4_covers 16 = .ok (.getfield 29, 3) := by decide +kernel
theorem dX4_covers_19 : decode cX4_covers 19 = .ok (.iload_n 1, 1) := by decide +kernel
theorem dX4_covers_20 : decode cX4_covers 20 = .ok (.invokevirtual 79, 3) := by decide +kernel
theorem dX4_covers_23 : decode cX4_covers 23 = .ok (.if_icmp .lt 37, 3) := by decide +kernel
theorem dX4_covers_26 : decode cX4_covers 26 = .ok (.iload_n 2, 1) := by decide +kernel
theorem dX4_covers_27 : decode cX4_covers 27 = .ok (.aload_n 0, 1) := by decide +kernel
theorem dX4_covers_28 : decode cX4_covers 28 = .ok (.getfield 32, 3) := by decide +kernel
theorem dX4_covers_31 : decode cX4_covers 31 = .ok (.iload_n 1, 1) := by decide +kernel
theorem dX4_covers_32 : decode cX4_covers 32 = .ok (.invokevirtual 79, 3) := by decide +kernel
theorem dX4_covers_35 : decode cX4_covers 35 = .ok (.if_icmp .ge 25, 3) := by decide +kernel
theorem dX4_covers_38 : decode cX4_covers 38 = .ok (.iload_n 3, 1) := by decide +kernel
theorem dX4_covers_39 : decode cX4_covers 39 = .ok (.iload 4, 2) := by decide +kernel
theorem dX4_covers_41 : decode cX4_covers 41 = .ok (.if_icmp .lt 19, 3) := by decide +kernel
theorem dX4_covers_44 : decode cX4_covers 44 = .ok (.iload_n 3, 1) := by decide +kernel
theorem dX4_covers_45 : decode cX4_covers 45 = .ok (.iload 4, 2) := by decide +kernel
theorem dX4_covers_47 : decode cX4_covers 47 = .ok (.aload_n 0, 1) := by decide +kernel
theorem dX4_covers_48 : decode cX4_covers 48 = .ok (.iload_n 1, 1) := by decide +kernel
theorem dX4_covers_49 : decode cX4_covers 49 = .ok (.invokevirtual 109, 3) := by decide +kernel
theorem dX4_covers_52 : decode cX4_covers 52 = .ok (.iadd, 1) := by decide +kernel
theorem dX4_covers_53 : decode cX4_covers 53 = .ok (.if_icmp .ge 7, 3) := by decide +kernel
theorem dX4_covers_56 : decode cX4_covers 56 = .ok (.iconst 1, 1) := by decide +kernel
theorem dX4_covers_57 : decode cX4_covers 57 = .ok (.goto 4, 3) := by decide +kernel
theorem dX4_covers_60 : decode cX4_covers 60 = .ok (.iconst 0, 1) := by decide +kernel
theorem dX4_covers_61 : decode cX4_covers 61 = .ok (.ireturn, 1) := by decide +kernel
set_option maxRecDepth 20000 in
theorem ggX4_letterValue_X4_widthOf : GoodIn wsX4_letterValue wsX4_widthOf := goodIn_r _ [8, 9, 10, 11, 12, 13, 14, 15, 16, 17, 18, 19, 20, 21, 22, 47, 48, 49, 50, 51, 52, 53, 54, 55, 56, 57, 58, 59, 60, 61, 62, 63, 64, 65] (by decide +kernel) (by decide +kernel)
set_option maxRecDepth 20000 in
theorem gX4_letterValue_X4_widthOf : GoodIn wsX4_letterValue (wsV RX4 121 RX4 yX4_widthOf wsX4_widthOf) := goodIn_app (goodIn_of _ (by decide +kernel)) ggX4_letterValue_X4_widthOf
set_option maxRecDepth 20000 in
theorem ggX4_letterValue_X4_heightOf : GoodIn wsX4_letterValue wsX4_heightOf := goodIn_r _ [26, 27, 10, 11, 12, 13, 14, 15, 16, 17, 18, 19, 20, 21, 22, 47, 48, 49, 50, 51, 52, 53, 54, 55, 56, 57, 58, 59, 60, 61, 62, 63, 64, 65] (by decide +kernel) (by decide +kernel)
set_option maxRecDepth 20000 in
theorem gX4_letterValue_X4_heightOf : GoodIn wsX4_letterValue (wsV RX4 109 RX4 yX4_heightOf wsX4_heightOf) := goodIn_app (goodIn_of _ (by decide +kernel)) ggX4_letterValue_X4_heightOf
set_option maxRecDepth 20000 in
theorem ggX4_letterValue_X4_isThere : GoodIn wsX4_letterValue wsX4_isThere := goodIn_r _ [31, 32, 13, 14, 15, 16, 17, 18, 47, 48, 49, 50, 51, 52, 53, 54, 55, 56, 57, 58, 59, 60, 61, 62, 63, 64, 65] (by decide +kernel) (by decide +kernel)
set_option maxRecDepth 20000 in
theorem gX4_letterValue_X4_isThere : GoodIn wsX4_letterValue (wsV RX4 87 RX4 yX4_isThere wsX4_isThere) := goodIn_app (goodIn_of _ (by decide +kernel)) ggX4_letterValue_X4_isThere
set_option maxRecDepth 20000 in
theorem ggX4_letterValue_X3_get : GoodIn wsX4_letterValue wsX3_get := goodIn_r _ [17, 18, 65] (by decide +kernel) (by decide +kernel)
set_option maxRecDepth 20000 in
theorem gX4_letterValue_X3_get : GoodIn wsX4_letterValue (wsV RX4 79 RX3 yX3_get wsX3_get) := goodIn_app (goodIn_of _ (by decide +kernel)) ggX4_letterValue_X3_get
set_option maxRecDepth 20000 in
theorem ggX4_letterValue_X4_isLaid : GoodIn wsX4_letterValue wsX4_isLaid := goodIn_r _ [36, 32, 13, 14, 15, 16, 17, 18, 47, 48, 49, 50, 51, 52, 53, 54, 55, 56, 57, 58, 59, 60, 61, 62, 63, 64, 65] (by decide +kernel) (by decide +kernel)
set_option maxRecDepth 20000 in
theorem gX4_letterValue_X4_isLaid : GoodIn wsX4_letterValue (wsV RX4 149 RX4 yX4_isLaid wsX4_isLaid) := goodIn_app (goodIn_of _ (by decide +kernel)) ggX4_letterValue_X4_isLaid
set_option maxRecDepth 20000 in
theorem ggX4_letterValue_X4_placeValue : GoodIn wsX4_letterValue wsX4_placeValue := goodIn_r _ [40, 32, 41, 13, 14, 15, 16, 17, 18, 42, 43, 44, 7, 45, 46, 47, 48, 49, 50, 51, 52, 53, 54, 55, 56, 57, 58, 59, 60, 61, 62, 63, 64, 65] (by decide +kernel) (by decide +kernel)
set_option maxRecDepth 20000 in
theorem gX4_letterValue_X4_placeValue : GoodIn wsX4_letterValue (wsV RX4 152 RX4 yX4_placeValue wsX4_placeValue) := goodIn_app (goodIn_of _ (by decide +kernel)) ggX4_letterValue_X4_placeValue
theorem dX4_letterValue_0 : decode cX4_letterValue 0 = .ok (.iload_n 2, 1) := by decide +kernel
theorem dX4_letterValue_1 : decode cX4_letterValue 1 = .ok (.iconst 3, 1) := by decide +kernel
theorem dX4_letterValue_2 : decode cX4_letterValue 2 = .ok (.if_icmp .ne 9, 3) := by decide +kernel
theorem dX4_letterValue_5 : decode cX4_letterValue 5 = .ok (.aload_n 0, 1) := by decide +kernel
theorem dX4_letterValue_6 : decode cX4_letterValue 6 = .ok (.iload_n 1, 1) := by decide +kernel
theorem dX4_letterValue_7 : decode cX4_letterValue 7 = .ok (.invokevirtual 121, 3) := by decide +kernel
theorem dX4_letterValue_10 : decode cX4_letterValue 10 = .ok (.ireturn, 1) := by decide +kernel
theorem dX4_letterValue_11 : decode cX4_letterValue 11 = .ok (.iload_n 2, 1) := by decide +kernel
theorem dX4_letterValue_12 : decode cX4_letterValue 12 = .ok (.iconst 4, 1) := by decide +kernel
theorem dX4_letterValue_13 : decode cX4_letterValue 13 = .ok (.if_icmp .ne 9, 3) := by decide +kernel
theorem dX4_letterValue_16 : decode cX4_letterValue 16 = .ok (.aload_n 0, 1) := by decide +kernel
theorem dX4_letterValue_17 : decode cX4_letterValue 17 = .ok (.iload_n 1, 1) := by decide +kernel
theorem dX4_letterValue_18 : decode cX4_letterValue 18 = .ok (.invokevirtual 109, 3) := by decide +kernel
theorem dX4_letterValue_21 : decode cX4_letterValue 21 = .ok (.ireturn, 1) := by decide +kernel
theorem dX4_letterValue_22 : decode cX4_letterValue 22 = .ok (.aload_n 0, 1) := by decide +kernel
theorem dX4_letterValue_23 : decode cX4_letterValue 23 = .ok (.iload_n 1, 1) := by decide +kernel
theorem dX4_letterValue_24 : decode cX4_letterValue 24 = .ok (.invokevirtual 87, 3) := by decide +kernel
theorem dX4_letterValue_27 : decode cX4_letterValue 27 = .ok (.ifCond .ne 5, 3) := by decide +kernel
theorem dX4_letterValue_30 : decode cX4_letterValue 30 = .ok (.iconst (-1), 1) := by decide +kernel
theorem dX4_letterValue_31 : decode cX4_letterValue 31 = .ok (.ireturn, 1) := by decide +kernel
theorem dX4_letterValue_32 : decode cX4_letterValue 32 = .ok (.iload_n 2, 1) := by decide +kernel
theorem dX4_letterValue_33 : decode cX4_letterValue 33 = .ok (.tableswitch 54 5 7 #[27, 36, 45], 27) := by decide +kernel
theorem dX4_letterValue_60 : decode cX4_letterValue 60 = .ok (.aload_n 0, 1) := by decide +kernel
theorem dX4_letterValue_61 : decode cX4_letterValue 61 = .ok (.getfield 35, 3) := by decide +kernel
theorem dX4_letterValue_64 : decode cX4_letterValue 64 = .ok (.iload_n 1, 1) := by decide +kernel
theorem dX4_letterValue_65 : decode cX4_letterValue 65 = .ok (.invokevirtual 79, 3) := by decide +kernel
theorem dX4_letterValue_68 : decode cX4_letterValue 68 = .ok (.ireturn, 1) := by decide +kernel
theorem dX4_letterValue_69 : decode cX4_letterValue 69 = .ok (.aload_n 0, 1) := by decide +kernel
theorem dX4_letterValue_70 : decode cX4_letterValue 70 = .ok (.getfield 38, 3) := by decide +kernel
theorem dX4_letterValue_73 : decode cX4_letterValue 73 = .ok (.iload_n 1, 1) := by decide +kernel
theorem dX4_letterValue_74 : decode cX4_letterValue 74 = .ok (.invokevirtual 79, 3) := by decide +kernel
theorem dX4_letterValue_77 : decode cX4_letterValue 77 = .ok (.ireturn, 1) := by decide +kernel
theorem dX4_letterValue_78 : decode cX4_letterValue 78 = .ok (.aload_n 0, 1) := by decide +kernel
theorem dX4_letterValue_79 : decode cX4_letterValue 79 = .ok (.getfield 41, 3) := by decide +kernel
theorem dX4_letterValue_82 : decode cX4_letterValue 82 = .ok (.iload_n 1, 1) := by decide +kernel
theorem dX4_letterValue_83 : decode cX4_letterValue 83 = .ok (.invokevirtual 79, 3) := by decide +kernel
theorem dX4_letterValue_86 : decode cX4_letterValue 86 = .ok (.ireturn, 1) := by decide +kernel
theorem dX4_letterValue_87 : decode cX4_letterValue 87 = .ok (.aload_n 0, 1) := by decide +kernel
theorem dX4_letterValue_88 : decode cX4_letterValue 88 = .ok (.iload_n 1, 1) := by decide +kernel
theorem dX4_letterValue_89 : decode cX4_letterValue 89 = .ok (.invokevirtual 149, 3) := by decide +kernel
theorem dX4_letterValue_92 : decode cX4_letterValue 92 = .ok (.ifCond .eq 12, 3) := by decide +kernel
theorem dX4_letterValue_95 : decode cX4_letterValue 95 = .ok (.aload_n 0, 1) := by decide +kernel
theorem dX4_letterValue_96 : decode cX4_letterValue 96 = .ok (.iload_n 1, 1) := by decide +kernel
theorem dX4_letterValue_97 : decode cX4_letterValue 97 = .ok (.iload_n 2, 1) := by decide +kernel
theorem dX4_letterValue_98 : decode cX4_letterValue 98 = .ok (.invokevirtual 152, 3) := by decide +kernel
theorem dX4_letterValue_101 : decode cX4_letterValue 101 = .ok (.goto 4, 3) := by decide +kernel
theorem dX4_letterValue_104 : decode cX4_letterValue 104 = .ok (.iconst (-1), 1) := by decide +kernel
theorem dX4_letterValue_105 : decode cX4_letterValue 105 = .ok (.ireturn, 1) := by decide +kernel
set_option maxRecDepth 20000 in
theorem ggX4_placeValue_X3_get : GoodIn wsX4_placeValue wsX3_get := goodIn_r _ [7, 8, 33] (by decide +kernel) (by decide +kernel)
set_option maxRecDepth 20000 in
theorem gX4_placeValue_X3_get : GoodIn wsX4_placeValue (wsV RX4 79 RX3 yX3_get wsX3_get) := goodIn_app (goodIn_of _ (by decide +kernel)) ggX4_placeValue_X3_get
set_option maxRecDepth 20000 in
theorem ggX4_placeValue_X4_topOf : GoodIn wsX4_placeValue wsX4_topOf := goodIn_r _ [13, 14, 3, 4, 5, 6, 7, 8, 15, 16, 17, 18, 19, 20, 21, 22, 23, 24, 25, 26, 27, 28, 29, 30, 31, 32, 33] (by decide +kernel) (by decide +kernel)
set_option maxRecDepth 20000 in
theorem gX4_placeValue_X4_topOf : GoodIn wsX4_placeValue (wsV RX4 146 RX4 yX4_topOf wsX4_topOf) := goodIn_app (goodIn_of _ (by decide +kernel)) ggX4_placeValue_X4_topOf
theorem dX4_placeValue_0 : decode cX4_placeValue 0 = .ok (.aload_n 0, 1) := by decide +kernel
theorem dX4_placeValue_1 : decode cX4_placeValue 1 = .ok (.getfield 26, 3) := by decide +kernel
theorem dX4_placeValue_4 : decode cX4_placeValue 4 = .ok (.iload_n 1, 1) := by decide +kernel
theorem dX4_placeValue_5 : decode cX4_placeValue 5 = .ok (.invokevirtual 79, 3) := by decide +kernel
theorem dX4_placeValue_8 : decode cX4_placeValue 8 = .ok (.istore_n 3, 1) := by decide +kernel
theorem dX4_placeValue_9 : decode cX4_placeValue 9 = .ok (.iload_n 2, 1) := by decide +kernel
theorem dX4_placeValue_10 : decode cX4_placeValue 10 = .ok (.tableswitch 46 0 2 #[26, 31, 40], 26) := by decide +kernel
theorem dX4_placeValue_36 : decode cX4_placeValue 36 = .ok (.iload_n 3, 1) := by decide +kernel
theorem dX4_placeValue_37 : decode cX4_placeValue 37 = .ok (.bipush 24, 2) := by decide +kernel
theorem dX4_placeValue_39 : decode cX4_placeValue 39 = .ok (.idiv, 1) := by decide +kernel
theorem dX4_placeValue_40 : decode cX4_placeValue 40 = .ok (.ireturn, 1) := by decide +kernel
theorem dX4_placeValue_41 : decode cX4_placeValue 41 = .ok (.aload_n 0, 1) := by decide +kernel
theorem dX4_placeValue_42 : decode cX4_placeValue 42 = .ok (.getfield 29, 3) := by decide +kernel
theorem dX4_placeValue_45 : decode cX4_placeValue 45 = .ok (.iload_n 1, 1) := by decide +kernel
theorem dX4_placeValue_46 : decode cX4_placeValue 46 = .ok (.invokevirtual 79, 3) := by decide +kernel
theorem dX4_placeValue_49 : decode cX4_placeValue 49 = .ok (.ireturn, 1) := by decide +kernel
theorem dX4_placeValue_50 : decode cX4_placeValue 50 = .ok (.aload_n 0, 1) := by decide +kernel
theorem dX4_placeValue_51 : decode cX4_placeValue 51 = .ok (.iload_n 3, 1) := by decide +kernel
theorem dX4_placeValue_52 : decode cX4_placeValue 52 = .ok (.invokevirtual 146, 3) := by decide +kernel
theorem dX4_placeValue_55 : decode cX4_placeValue 55 = .ok (.ireturn, 1) := by decide +kernel
theorem dX4_placeValue_56 : decode cX4_placeValue 56 = .ok (.iload_n 3, 1) := by decide +kernel
theorem dX4_placeValue_57 : decode cX4_placeValue 57 = .ok (.bipush 24, 2) := by decide +kernel
theorem dX4_placeValue_59 : decode cX4_placeValue 59 = .ok (.irem, 1) := by decide +kernel
theorem dX4_placeValue_60 : decode cX4_placeValue 60 = .ok (.ireturn, 1) := by decide +kernel
set_option maxRecDepth 20000 in
theorem ggX4_signValue_X3_get : GoodIn wsX4_signValue wsX3_get := goodIn_r _ [7, 8, 50] (by decide +kernel) (by decide +kernel)
set_option maxRecDepth 20000 in
theorem gX4_signValue_X3_get : GoodIn wsX4_signValue (wsV RX4 79 RX3 yX3_get wsX3_get) := goodIn_app (goodIn_of _ (by decide +kernel)) ggX4_signValue_X3_get
set_option maxRecDepth 20000 in
theorem ggX4_signValue_X4_countLaidOfSign : GoodIn wsX4_signValue wsX4_countLaidOfSign := goodIn_r _ [13, 14, 15, 3, 4, 5, 6, 7, 8, 16, 17, 18, 19, 20, 21, 12, 22, 23, 32, 33, 34, 35, 36, 37, 38, 39, 40, 41, 42, 43, 44, 45, 46, 47, 48, 49, 50] (by decide +kernel) (by decide +kernel)
set_option maxRecDepth 20000 in
theorem gX4_signValue_X4_countLaidOfSign : GoodIn wsX4_signValue (wsV RX4 156 RX4 yX4_countLaidOfSign wsX4_countLaidOfSign) := goodIn_app (goodIn_of _ (by decide +kernel)) ggX4_signValue_X4_countLaidOfSign
set_option maxRecDepth 20000 in
theorem ggX4_signValue_X4_countInStreetOfSign : GoodIn wsX4_signValue wsX4_countInStreetOfSign := goodIn_r _ [27, 14, 15, 3, 4, 5, 6, 7, 8, 16, 17, 18, 28, 29, 30, 12, 31, 23, 32, 33, 34, 35, 36, 37, 38, 39, 40, 41, 42, 43, 44, 45, 46, 47, 48, 49, 50] (by decide +kernel) (by decide +kernel)
set_option maxRecDepth 20000 in
theorem gX4_signValue_X4_countInStreetOfSign : GoodIn wsX4_signValue (wsV RX4 159 RX4 yX4_countInStreetOfSign wsX4_countInStreetOfSign) := goodIn_app (goodIn_of _ (by decide +kernel)) ggX4_signValue_X4_countInStreetOfSign
theorem dX4_signValue_0 : decode cX4_signValue 0 = .ok (.iload_n 2, 1) := by decide +kernel
theorem dX4_signValue_1 : decode cX4_signValue 1 = .ok (.tableswitch 51 0 2 #[27, 36, 45], 27) := by decide +kernel
theorem dX4_signValue_28 : decode cX4_signValue 28 = .ok (.aload_n 0, 1) := by decide +kernel
theorem dX4_signValue_29 : decode cX4_signValue 29 = .ok (.getfield 14, 3) := by decide +kernel
theorem dX4_signValue_32 : decode cX4_signValue 32 = .ok (.iload_n 1, 1) := by decide +kernel
theorem dX4_signValue_33 : decode cX4_signValue 33 = .ok (.invokevirtual 79, 3) := by decide +kernel
theorem dX4_signValue_36 : decode cX4_signValue 36 = .ok (.ireturn, 1) := by decide +kernel
theorem dX4_signValue_37 : decode cX4_signValue 37 = .ok (.aload_n 0, 1) := by decide +kernel
theorem dX4_signValue_38 : decode cX4_signValue 38 = .ok (.getfield 20, 3) := by decide +kernel
theorem dX4_signValue_41 : decode cX4_signValue 41 = .ok (.iload_n 1, 1) := by decide +kernel
theorem dX4_signValue_42 : decode cX4_signValue 42 = .ok (.invokevirtual 79, 3) := by decide +kernel
theorem dX4_signValue_45 : decode cX4_signValue 45 = .ok (.ireturn, 1) := by decide +kernel
theorem dX4_signValue_46 : decode cX4_signValue 46 = .ok (.aload_n 0, 1) := by decide +kernel
theorem dX4_signValue_47 : decode cX4_signValue 47 = .ok (.iload_n 1, 1) := by decide +kernel
theorem dX4_signValue_48 : decode cX4_signValue 48 = .ok (.invokevirtual 156, 3) := by decide +kernel
theorem dX4_signValue_51 : decode cX4_signValue 51 = .ok (.ireturn, 1) := by decide +kernel
theorem dX4_signValue_52 : decode cX4_signValue 52 = .ok (.aload_n 0, 1) := by decide +kernel
theorem dX4_signValue_53 : decode cX4_signValue 53 = .ok (.iload_n 1, 1) := by decide +kernel
theorem dX4_signValue_54 : decode cX4_signValue 54 = .ok (.invokevirtual 159, 3) := by decide +kernel
theorem dX4_signValue_57 : decode cX4_signValue 57 = .ok (.ireturn, 1) := by decide +kernel
set_option maxRecDepth 20000 in
theorem ggX4_countLaidOfSign_X3_get : GoodIn wsX4_countLaidOfSign wsX3_get := goodIn_r _ [7, 8, 36] (by decide +kernel) (by decide +kernel)
set_option maxRecDepth 20000 in
theorem gX4_countLaidOfSign_X3_get : GoodIn wsX4_countLaidOfSign (wsV RX4 79 RX3 yX3_get wsX3_get) := goodIn_app (goodIn_of _ (by decide +kernel)) ggX4_countLaidOfSign_X3_get
set_option maxRecDepth 20000 in
theorem ggX4_countLaidOfSign_X6_signOf : GoodIn wsX4_countLaidOfSign wsX6_signOf := goodIn_r _ [11] (by decide +kernel) (by decide +kernel)
set_option maxRecDepth 20000 in
theorem gX4_countLaidOfSign_X6_signOf_n134 : GoodIn wsX4_countLaidOfSign (wsX6_signOf) := ggX4_countLaidOfSign_X6_signOf
set_option maxRecDepth 20000 in
theorem ggX4_countLaidOfSign_X4_isLaid : GoodIn wsX4_countLaidOfSign wsX4_isLaid := goodIn_r _ [16, 17, 3, 4, 5, 6, 7, 8, 18, 19, 20, 21, 22, 23, 24, 25, 26, 27, 28, 29, 30, 31, 32, 33, 34, 35, 36] (by decide +kernel) (by decide +kernel)
set_option maxRecDepth 20000 in
theorem gX4_countLaidOfSign_X4_isLaid : GoodIn wsX4_countLaidOfSign (wsV RX4 149 RX4 yX4_isLaid wsX4_isLaid) := goodIn_app (goodIn_of _ (by decide +kernel)) ggX4_countLaidOfSign_X4_isLaid
theorem dX4_countLaidOfSign_0 : decode cX4_countLaidOfSign 0 = .ok (.iconst 0, 1) := by decide +kernel
theorem dX4_countLaidOfSign_1 : decode cX4_countLaidOfSign 1 = .ok (.istore_n 2, 1) := by decide +kernel
theorem dX4_countLaidOfSign_2 : decode cX4_countLaidOfSign 2 = .ok (.iconst 0, 1) := by decide +kernel
theorem dX4_countLaidOfSign_3 : decode cX4_countLaidOfSign 3 = .ok (.istore_n 3, 1) := by decide +kernel
theorem dX4_countLaidOfSign_4 : decode cX4_countLaidOfSign 4 = .ok (.iload_n 3, 1) := by decide +kernel
theorem dX4_countLaidOfSign_5 : decode cX4_countLaidOfSign 5 = .ok (.aload_n 0, 1) := by decide +kernel
theorem dX4_countLaidOfSign_6 : decode cX4_countLaidOfSign 6 = .ok (.getfield 47, 3) := by decide +kernel
theorem dX4_countLaidOfSign_9 : decode cX4_countLaidOfSign 9 = .ok (.if_icmp .ge 40, 3) := by decide +kernel
theorem dX4_countLaidOfSign_12 : decode cX4_countLaidOfSign 12 = .ok (.aload_n 0, 1) := by decide +kernel
theorem dX4_countLaidOfSign_13 : decode cX4_countLaidOfSign 13 = .ok (.getfield 44, 3) := by decide +kernel
theorem dX4_countLaidOfSign_16 : decode cX4_countLaidOfSign 16 = .ok (.iload_n 3, 1) := by decide +kernel
theorem dX4_countLaidOfSign_17 : decode cX4_countLaidOfSign 17 = .ok (.invokevirtual 79, 3) := by decide +kernel
theorem dX4_countLaidOfSign_20 : decode cX4_countLaidOfSign 20 = .ok (.istore 4, 2) := by decide +kernel
theorem dX4_countLaidOfSign_22 : decode cX4_countLaidOfSign 22 = .ok (.iload 4, 2) := by decide +kernel
theorem dX4_countLaidOfSign_24 : decode cX4_countLaidOfSign 24 = .ok (.invokestatic 134, 3) := by decide +kernel
theorem dX4_countLaidOfSign_27 : decode cX4_countLaidOfSign 27 = .ok (.iload_n 1, 1) := by decide +kernel
theorem dX4_countLaidOfSign_28 : decode cX4_countLaidOfSign 28 = .ok (.if_icmp .ne 15, 3) := by decide +kernel
theorem dX4_countLaidOfSign_31 : decode cX4_countLaidOfSign 31 = .ok (.aload_n 0, 1) := by decide +kernel
theorem dX4_countLaidOfSign_32 : decode cX4_countLaidOfSign 32 = .ok (.iload 4, 2) := by decide +kernel
theorem dX4_countLaidOfSign_34 : decode cX4_countLaidOfSign 34 = .ok (.invokevirtual 149, 3) := by decide +kernel
theorem dX4_countLaidOfSign_37 : decode cX4_countLaidOfSign 37 = .ok (.ifCond .eq 6, 3) := by decide +kernel
theorem dX4_countLaidOfSign_40 : decode cX4_countLaidOfSign 40 = .ok (.iinc 2 1, 3) := by decide +kernel
theorem dX4_countLaidOfSign_43 : decode cX4_countLaidOfSign 43 = .ok (.iinc 3 1, 3) := by decide +kernel
theorem dX4_countLaidOfSign_46 : decode cX4_countLaidOfSign 46 = .ok (.goto (-42), 3) := by decide +kernel
theorem dX4_countLaidOfSign_49 : decode cX4_countLaidOfSign 49 = .ok (.iload_n 2, 1) := by decide +kernel
theorem dX4_countLaidOfSign_50 : decode cX4_countLaidOfSign 50 = .ok (.ireturn, 1) := by decide +kernel
set_option maxRecDepth 20000 in
theorem ggX4_countInStreetOfSign_X3_get : GoodIn wsX4_countInStreetOfSign wsX3_get := goodIn_r _ [7, 8, 36] (by decide +kernel) (by decide +kernel)
set_option maxRecDepth 20000 in
theorem gX4_countInStreetOfSign_X3_get : GoodIn wsX4_countInStreetOfSign (wsV RX4 79 RX3 yX3_get wsX3_get) := goodIn_app (goodIn_of _ (by decide +kernel)) ggX4_countInStreetOfSign_X3_get
set_option maxRecDepth 20000 in
theorem ggX4_countInStreetOfSign_X6_signOf : GoodIn wsX4_countInStreetOfSign wsX6_signOf := goodIn_r _ [11] (by decide +kernel) (by decide +kernel)
set_option maxRecDepth 20000 in
theorem gX4_countInStreetOfSign_X6_signOf_n134 : GoodIn wsX4_countInStreetOfSign (wsX6_signOf) := ggX4_countInStreetOfSign_X6_signOf
set_option maxRecDepth 20000 in
theorem ggX4_countInStreetOfSign_X4_isInStreet : GoodIn wsX4_countInStreetOfSign wsX4_isInStreet := goodIn_r _ [16, 17, 3, 4, 5, 6, 7, 8, 18, 19, 20, 21, 22, 23, 24, 25, 26, 27, 28, 29, 30, 31, 32, 33, 34, 35, 36] (by decide +kernel) (by decide +kernel)
set_option maxRecDepth 20000 in
theorem gX4_countInStreetOfSign_X4_isInStreet : GoodIn wsX4_countInStreetOfSign (wsV RX4 162 RX4 yX4_isInStreet wsX4_isInStreet) := goodIn_app (goodIn_of _ (by decide +kernel)) ggX4_countInStreetOfSign_X4_isInStreet
theorem dX4_countInStreetOfSign_0 : decode cX4_countInStreetOfSign 0 = .ok (.iconst 0, 1) := by decide +kernel
theorem dX4_countInStreetOfSign_1 : decode cX4_countInStreetOfSign 1 = .ok (.istore_n 2, 1) := by decide +kernel
theorem dX4_countInStreetOfSign_2 : decode cX4_countInStreetOfSign 2 = .ok (.iconst 0, 1) := by decide +kernel
theorem dX4_countInStreetOfSign_3 : decode cX4_countInStreetOfSign 3 = .ok (.istore_n 3, 1) := by decide +kernel
theorem dX4_countInStreetOfSign_4 : decode cX4_countInStreetOfSign 4 = .ok (.iload_n 3, 1) := by decide +kernel
theorem dX4_countInStreetOfSign_5 : decode cX4_countInStreetOfSign 5 = .ok (.aload_n 0, 1) := by decide +kernel
theorem dX4_countInStreetOfSign_6 : decode cX4_countInStreetOfSign 6 = .ok (.getfield 47, 3) := by decide +kernel
theorem dX4_countInStreetOfSign_9 : decode cX4_countInStreetOfSign 9 = .ok (.if_icmp .ge 40, 3) := by decide +kernel
theorem dX4_countInStreetOfSign_12 : decode cX4_countInStreetOfSign 12 = .ok (.aload_n 0, 1) := by decide +kernel
theorem dX4_countInStreetOfSign_13 : decode cX4_countInStreetOfSign 13 = .ok (.getfield 44, 3) := by decide +kernel
theorem dX4_countInStreetOfSign_16 : decode cX4_countInStreetOfSign 16 = .ok (.iload_n 3, 1) := by decide +kernel
theorem dX4_countInStreetOfSign_17 : decode cX4_countInStreetOfSign 17 = .ok (.invokevirtual 79, 3) := by decide +kernel
theorem dX4_countInStreetOfSign_20 : decode cX4_countInStreetOfSign 20 = .ok (.istore 4, 2) := by decide +kernel
theorem dX4_countInStreetOfSign_22 : decode cX4_countInStreetOfSign 22 = .ok (.iload 4, 2) := by decide +kernel
theorem dX4_countInStreetOfSign_24 : decode cX4_countInStreetOfSign 24 = .ok (.invokestatic 134, 3) := by decide +kernel
theorem dX4_countInStreetOfSign_27 : decode cX4_countInStreetOfSign 27 = .ok (.iload_n 1, 1) := by decide +kernel
theorem dX4_countInStreetOfSign_28 : decode cX4_countInStreetOfSign 28 = .ok (.if_icmp .ne 15, 3) := by decide +kernel
theorem dX4_countInStreetOfSign_31 : decode cX4_countInStreetOfSign 31 = .ok (.aload_n 0, 1) := by decide +kernel
theorem dX4_countInStreetOfSign_32 : decode cX4_countInStreetOfSign 32 = .ok (.iload 4, 2) := by decide +kernel
theorem dX4_countInStreetOfSign_34 : decode cX4_countInStreetOfSign 34 = .ok (.invokevirtual 162, 3) := by decide +kernel
theorem dX4_countInStreetOfSign_37 : decode cX4_countInStreetOfSign 37 = .ok (.ifCond .eq 6, 3) := by decide +kernel
theorem dX4_countInStreetOfSign_40 : decode cX4_countInStreetOfSign 40 = .ok (.iinc 2 1, 3) := by decide +kernel
theorem dX4_countInStreetOfSign_43 : decode cX4_countInStreetOfSign 43 = .ok (.iinc 3 1, 3) := by decide +kernel
theorem dX4_countInStreetOfSign_46 : decode cX4_countInStreetOfSign 46 = .ok (.goto (-42), 3) := by decide +kernel
theorem dX4_countInStreetOfSign_49 : decode cX4_countInStreetOfSign 49 = .ok (.iload_n 2, 1) := by decide +kernel
theorem dX4_countInStreetOfSign_50 : decode cX4_countInStreetOfSign 50 = .ok (.ireturn, 1) := by decide +kernel
set_option maxRecDepth 20000 in
theorem ggX4_trayValue_X4_countShelves : GoodIn wsX4_trayValue wsX4_countShelves := goodIn_r _ [5, 6, 7, 8, 9, 10, 11, 12, 57, 58, 59, 60, 61, 62, 63, 64, 65, 66, 67, 68, 69, 70, 71, 72, 73, 74, 75] (by decide +kernel) (by decide +kernel)
set_option maxRecDepth 20000 in
theorem gX4_trayValue_X4_countShelves : GoodIn wsX4_trayValue (wsV RX4 165 RX4 yX4_countShelves wsX4_countShelves) := goodIn_app (goodIn_of _ (by decide +kernel)) ggX4_trayValue_X4_countShelves
set_option maxRecDepth 20000 in
theorem ggX4_trayValue_X4_heightOfShelves : GoodIn wsX4_trayValue wsX4_heightOfShelves := goodIn_r _ [16, 6, 7, 8, 9, 10, 11, 12, 57, 58, 59, 60, 61, 62, 63, 64, 65, 66, 67, 68, 69, 70, 71, 72, 73, 74, 75] (by decide +kernel) (by decide +kernel)
set_option maxRecDepth 20000 in
theorem gX4_trayValue_X4_heightOfShelves : GoodIn wsX4_trayValue (wsV RX4 168 RX4 yX4_heightOfShelves wsX4_heightOfShelves) := goodIn_app (goodIn_of _ (by decide +kernel)) ggX4_trayValue_X4_heightOfShelves
set_option maxRecDepth 20000 in
theorem ggX4_trayValue_X4_countInTray : GoodIn wsX4_trayValue wsX4_countInTray := goodIn_r _ [20, 21, 22, 7, 8, 9, 10, 11, 12, 23, 24, 25, 4, 26, 27, 28, 29, 30, 31, 57, 58, 59, 60, 61, 62, 63, 64, 65, 66, 67, 68, 69, 70, 71, 72, 73, 74, 75] (by decide +kernel) (by decide +kernel)
set_option maxRecDepth 20000 in
theorem gX4_trayValue_X4_countInTray : GoodIn wsX4_trayValue (wsV RX4 171 RX4 yX4_countInTray wsX4_countInTray) := goodIn_app (goodIn_of _ (by decide +kernel)) ggX4_trayValue_X4_countInTray
set_option maxRecDepth 20000 in
theorem ggX4_trayValue_X4_areaInTray : GoodIn wsX4_trayValue wsX4_areaInTray := goodIn_r _ [35, 21, 22, 7, 8, 9, 10, 11, 12, 23, 24, 25, 4, 26, 27, 28, 29, 30, 31, 36, 37, 38, 39, 40, 41, 42, 43, 44, 45, 46, 47, 48, 49, 50, 51, 52, 53, 54, 55, 56, 57, 58, 59, 60, 61, 62, 63, 64, 65, 66, 67, 68, 69, 70, 71, 72, 73, 74, 75] (by decide +kernel) (by decide +kernel)
set_option maxRecDepth 20000 in
theorem gX4_trayValue_X4_areaInTray : GoodIn wsX4_trayValue (wsV RX4 174 RX4 yX4_areaInTray wsX4_areaInTray) := goodIn_app (goodIn_of _ (by decide +kernel)) ggX4_trayValue_X4_areaInTray
