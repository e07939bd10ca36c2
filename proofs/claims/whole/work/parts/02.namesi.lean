theorem dX7_lays_0 : decode cX7_lays 0 = .ok (.aload_n 0, 1) := by decide +kernel
theorem dX7_lays_1 : decode cX7_lays 1 = .ok (.getfield 68, 3) := by decide +kernel
theorem dX7_lays_4 : decode cX7_lays 4 = .ok (.iconst 4, 1) := by decide +kernel
theorem dX7_lays_5 : decode cX7_lays 5 = .ok (.if_icmp .ne 60, 3) := by decide +kernel
theorem dX7_lays_8 : decode cX7_lays 8 = .ok (.aload_n 0, 1) := by decide +kernel
theorem dX7_lays_9 : decode cX7_lays 9 = .ok (.getfield 96, 3) := by decide +kernel
theorem dX7_lays_12 : decode cX7_lays 12 = .ok (.iconst (-1), 1) := by decide +kernel
theorem dX7_lays_13 : decode cX7_lays 13 = .ok (.if_icmp .eq 11, 3) := by decide +kernel
theorem dX7_lays_16 : decode cX7_lays 16 = .ok (.aload_n 0, 1) := by decide +kernel
theorem dX7_lays_17 : decode cX7_lays 17 = .ok (.aload_n 0, 1) := by decide +kernel
theorem dX7_lays_18 : decode cX7_lays 18 = .ok (.getfield 96, 3) := by decide +kernel
theorem dX7_lays_21 : decode cX7_lays 21 = .ok (.invokevirtual 115, 3) := by decide +kernel
theorem dX7_lays_24 : decode cX7_lays 24 = .ok (.aload_n 0, 1) := by decide +kernel
theorem dX7_lays_25 : decode cX7_lays 25 = .ok (.getfield 7, 3) := by decide +kernel
theorem dX7_lays_28 : decode cX7_lays 28 = .ok (.bipush 8, 2) := by decide +kernel
theorem dX7_lays_30 : decode cX7_lays 30 = .ok (.aload_n 0, 1) := by decide +kernel
theorem dX7_lays_31 : decode cX7_lays 31 = .ok (.getfield 7, 3) := by decide +kernel
theorem dX7_lays_34 : decode cX7_lays 34 = .ok (.bipush 7, 2) := by decide +kernel
theorem dX7_lays_36 : decode cX7_lays 36 = .ok (.iaload, 1) := by decide +kernel
theorem dX7_lays_37 : decode cX7_lays 37 = .ok (.iadd, 1) := by decide +kernel
theorem dX7_lays_38 : decode cX7_lays 38 = .ok (.iload_n 1, 1) := by decide +kernel
theorem dX7_lays_39 : decode cX7_lays 39 = .ok (.iastore, 1) := by decide +kernel
theorem dX7_lays_40 : decode cX7_lays 40 = .ok (.aload_n 0, 1) := by decide +kernel
theorem dX7_lays_41 : decode cX7_lays 41 = .ok (.getfield 7, 3) := by decide +kernel
theorem dX7_lays_44 : decode cX7_lays 44 = .ok (.bipush 7, 2) := by decide +kernel
theorem dX7_lays_46 : decode cX7_lays 46 = .ok (.dup2, 1) := by decide +kernel
theorem dX7_lays_47 : decode cX7_lays 47 = .ok (.iaload, 1) := by decide +kernel
theorem dX7_lays_48 : decode cX7_lays 48 = .ok (.iconst 1, 1) := by decide +kernel
theorem dX7_lays_49 : decode cX7_lays 49 = .ok (.iadd, 1) := by decide +kernel
theorem dX7_lays_50 : decode cX7_lays 50 = .ok (.iastore, 1) := by decide +kernel
theorem dX7_lays_51 : decode cX7_lays 51 = .ok (.aload_n 0, 1) := by decide +kernel
theorem dX7_lays_52 : decode cX7_lays 52 = .ok (.getfield 7, 3) := by decide +kernel
theorem dX7_lays_55 : decode cX7_lays 55 = .ok (.bipush 119, 2) := by decide +kernel
theorem dX7_lays_57 : decode cX7_lays 57 = .ok (.bipush 6, 2) := by decide +kernel
theorem dX7_lays_59 : decode cX7_lays 59 = .ok (.iload_n 1, 1) := by decide +kernel
theorem dX7_lays_60 : decode cX7_lays 60 = .ok (.imul, 1) := by decide +kernel
theorem dX7_lays_61 : decode cX7_lays 61 = .ok (.iadd, 1) := by decide +kernel
theorem dX7_lays_62 : decode cX7_lays 62 = .ok (.iconst 3, 1) := by decide +kernel
theorem dX7_lays_63 : decode cX7_lays 63 = .ok (.iastore, 1) := by decide +kernel
theorem dX7_lays_64 : decode cX7_lays 64 = .ok (.return_, 1) := by decide +kernel
theorem dX7_lays_65 : decode cX7_lays 65 = .ok (.aload_n 0, 1) := by decide +kernel
theorem dX7_lays_66 : decode cX7_lays 66 = .ok (.getfield 68, 3) := by decide +kernel
theorem dX7_lays_69 : decode cX7_lays 69 = .ok (.iconst 2, 1) := by decide +kernel
theorem dX7_lays_70 : decode cX7_lays 70 = .ok (.if_icmp .ne 44, 3) := by decide +kernel
theorem dX7_lays_73 : decode cX7_lays 73 = .ok (.aload_n 0, 1) := by decide +kernel
theorem dX7_lays_74 : decode cX7_lays 74 = .ok (.getfield 7, 3) := by decide +kernel
theorem dX7_lays_77 : decode cX7_lays 77 = .ok (.bipush 47, 2) := by decide +kernel
theorem dX7_lays_79 : decode cX7_lays 79 = .ok (.bipush 24, 2) := by decide +kernel
theorem dX7_lays_81 : decode cX7_lays 81 = .ok (.aload_n 0, 1) := by decide +kernel
theorem dX7_lays_82 : decode cX7_lays 82 = .ok (.getfield 71, 3) := by decide +kernel
theorem dX7_lays_85 : decode cX7_lays 85 = .ok (.imul, 1) := by decide +kernel
theorem dX7_lays_86 : decode cX7_lays 86 = .ok (.iadd, 1) := by decide +kernel
theorem dX7_lays_87 : decode cX7_lays 87 = .ok (.aload_n 0, 1) := by decide +kernel
theorem dX7_lays_88 : decode cX7_lays 88 = .ok (.getfield 74, 3) := by decide +kernel
theorem dX7_lays_91 : decode cX7_lays 91 = .ok (.iadd, 1) := by decide +kernel
theorem dX7_lays_92 : decode cX7_lays 92 = .ok (.aload_n 0, 1) := by decide +kernel
theorem dX7_lays_93 : decode cX7_lays 93 = .ok (.iload_n 1, 1) := by decide +kernel
theorem dX7_lays_94 : decode cX7_lays 94 = .ok (.invokevirtual 37, 3) := by decide +kernel
theorem dX7_lays_97 : decode cX7_lays 97 = .ok (.iastore, 1) := by decide +kernel
theorem dX7_lays_98 : decode cX7_lays 98 = .ok (.aload_n 0, 1) := by decide +kernel
theorem dX7_lays_99 : decode cX7_lays 99 = .ok (.getfield 7, 3) := by decide +kernel
theorem dX7_lays_102 : decode cX7_lays 102 = .ok (.bipush 44, 2) := by decide +kernel
theorem dX7_lays_104 : decode cX7_lays 104 = .ok (.aload_n 0, 1) := by decide +kernel
theorem dX7_lays_105 : decode cX7_lays 105 = .ok (.getfield 71, 3) := by decide +kernel
theorem dX7_lays_108 : decode cX7_lays 108 = .ok (.iadd, 1) := by decide +kernel
theorem dX7_lays_109 : decode cX7_lays 109 = .ok (.dup2, 1) := by decide +kernel
theorem dX7_lays_110 : decode cX7_lays 110 = .ok (.iaload, 1) := by decide +kernel
theorem dX7_lays_111 : decode cX7_lays 111 = .ok (.iconst 1, 1) := by decide +kernel
theorem dX7_lays_112 : decode cX7_lays 112 = .ok (.iadd, 1) := by decide +kernel
theorem dX7_lays_113 : decode cX7_lays 113 = .ok (.iastore, 1) := by decide +kernel
theorem dX7_lays_114 : decode cX7_lays 114 = .ok (.iconst 0, 1) := by decide +kernel
theorem dX7_lays_115 : decode cX7_lays 115 = .ok (.istore_n 2, 1) := by decide +kernel
theorem dX7_lays_116 : decode cX7_lays 116 = .ok (.iload_n 2, 1) := by decide +kernel
theorem dX7_lays_117 : decode cX7_lays 117 = .ok (.sipush 144, 3) := by decide +kernel
theorem dX7_lays_120 : decode cX7_lays 120 = .ok (.if_icmp .ge 38, 3) := by decide +kernel
theorem dX7_lays_123 : decode cX7_lays 123 = .ok (.aload_n 0, 1) := by decide +kernel
theorem dX7_lays_124 : decode cX7_lays 124 = .ok (.getfield 68, 3) := by decide +kernel
theorem dX7_lays_127 : decode cX7_lays 127 = .ok (.iconst 3, 1) := by decide +kernel
theorem dX7_lays_128 : decode cX7_lays 128 = .ok (.if_icmp .ne 30, 3) := by decide +kernel
theorem dX7_lays_131 : decode cX7_lays 131 = .ok (.aload_n 0, 1) := by decide +kernel
theorem dX7_lays_132 : decode cX7_lays 132 = .ok (.iload_n 2, 1) := by decide +kernel
theorem dX7_lays_133 : decode cX7_lays 133 = .ok (.aload_n 0, 1) := by decide +kernel
theorem dX7_lays_134 : decode cX7_lays 134 = .ok (.getfield 71, 3) := by decide +kernel
theorem dX7_lays_137 : decode cX7_lays 137 = .ok (.aload_n 0, 1) := by decide +kernel
theorem dX7_lays_138 : decode cX7_lays 138 = .ok (.getfield 74, 3) := by decide +kernel
theorem dX7_lays_141 : decode cX7_lays 141 = .ok (.invokevirtual 55, 3) := by decide +kernel
theorem dX7_lays_144 : decode cX7_lays 144 = .ok (.ifCond .eq 8, 3) := by decide +kernel
theorem dX7_lays_147 : decode cX7_lays 147 = .ok (.aload_n 0, 1) := by decide +kernel
theorem dX7_lays_148 : decode cX7_lays 148 = .ok (.iload_n 2, 1) := by decide +kernel
theorem dX7_lays_149 : decode cX7_lays 149 = .ok (.invokevirtual 115, 3) := by decide +kernel
theorem dX7_lays_152 : decode cX7_lays 152 = .ok (.iinc 2 1, 3) := by decide +kernel
theorem dX7_lays_155 : decode cX7_lays 155 = .ok (.goto (-39), 3) := by decide +kernel
theorem dX7_lays_158 : decode cX7_lays 158 = .ok (.aload_n 0, 1) := by decide +kernel
theorem dX7_lays_159 : decode cX7_lays 159 = .ok (.getfield 7, 3) := by decide +kernel
theorem dX7_lays_162 : decode cX7_lays 162 = .ok (.bipush 119, 2) := by decide +kernel
theorem dX7_lays_164 : decode cX7_lays 164 = .ok (.bipush 6, 2) := by decide +kernel
theorem dX7_lays_166 : decode cX7_lays 166 = .ok (.iload_n 1, 1) := by decide +kernel
theorem dX7_lays_167 : decode cX7_lays 167 = .ok (.imul, 1) := by decide +kernel
theorem dX7_lays_168 : decode cX7_lays 168 = .ok (.iadd, 1) := by decide +kernel
theorem dX7_lays_169 : decode cX7_lays 169 = .ok (.aload_n 0, 1) := by decide +kernel
theorem dX7_lays_170 : decode cX7_lays 170 = .ok (.getfield 71, 3) := by decide +kernel
theorem dX7_lays_173 : decode cX7_lays 173 = .ok (.iastore, 1) := by decide +kernel
theorem dX7_lays_174 : decode cX7_lays 174 = .ok (.aload_n 0, 1) := by decide +kernel
theorem dX7_lays_175 : decode cX7_lays 175 = .ok (.getfield 7, 3) := by decide +kernel
theorem dX7_lays_178 : decode cX7_lays 178 = .ok (.bipush 119, 2) := by decide +kernel
theorem dX7_lays_180 : decode cX7_lays 180 = .ok (.bipush 6, 2) := by decide +kernel
theorem dX7_lays_182 : decode cX7_lays 182 = .ok (.iload_n 1, 1) := by decide +kernel
theorem dX7_lays_183 : decode cX7_lays 183 = .ok (.imul, 1) := by decide +kernel
theorem dX7_lays_184 : decode cX7_lays 184 = .ok (.iadd, 1) := by decide +kernel
theorem dX7_lays_185 : decode cX7_lays 185 = .ok (.iconst 1, 1) := by decide +kernel
theorem dX7_lays_186 : decode cX7_lays 186 = .ok (.iadd, 1) := by decide +kernel
theorem dX7_lays_187 : decode cX7_lays 187 = .ok (.aload_n 0, 1) := by decide +kernel
theorem dX7_lays_188 : decode cX7_lays 188 = .ok (.getfield 74, 3) := by decide +kernel
theorem dX7_lays_191 : decode cX7_lays 191 = .ok (.iastore, 1) := by decide +kernel
theorem dX7_lays_192 : decode cX7_lays 192 = .ok (.aload_n 0, 1) := by decide +kernel
theorem dX7_lays_193 : decode cX7_lays 193 = .ok (.getfield 7, 3) := by decide +kernel
theorem dX7_lays_196 : decode cX7_lays 196 = .ok (.bipush 119, 2) := by decide +kernel
theorem dX7_lays_198 : decode cX7_lays 198 = .ok (.bipush 6, 2) := by decide +kernel
theorem dX7_lays_200 : decode cX7_lays 200 = .ok (.iload_n 1, 1) := by decide +kernel
theorem dX7_lays_201 : decode cX7_lays 201 = .ok (.imul, 1) := by decide +kernel
theorem dX7_lays_202 : decode cX7_lays 202 = .ok (.iadd, 1) := by decide +kernel
theorem dX7_lays_203 : decode cX7_lays 203 = .ok (.iconst 2, 1) := by decide +kernel
theorem dX7_lays_204 : decode cX7_lays 204 = .ok (.iadd, 1) := by decide +kernel
theorem dX7_lays_205 : decode cX7_lays 205 = .ok (.aload_n 0, 1) := by decide +kernel
theorem dX7_lays_206 : decode cX7_lays 206 = .ok (.getfield 77, 3) := by decide +kernel
theorem dX7_lays_209 : decode cX7_lays 209 = .ok (.iastore, 1) := by decide +kernel
theorem dX7_lays_210 : decode cX7_lays 210 = .ok (.return_, 1) := by decide +kernel
set_option maxRecDepth 20000 in
theorem ggX7_uses_X7_looks : GoodIn wsX7_uses wsX7_looks := goodIn_r _ [7, 1, 8, 9, 10, 11, 12, 6, 13, 14, 15, 16, 17, 2, 18, 19, 20, 21, 22, 23, 24, 25, 26, 27, 28, 29, 30, 31, 32, 33, 34, 35, 36, 37, 38, 39, 40, 41, 42, 43, 44, 45, 46, 47, 48, 49, 50, 51, 52, 53, 54, 55, 56, 57, 58, 59, 60, 61, 62, 63, 64, 65, 66, 67, 68, 69, 70, 71, 72, 73, 74, 75, 76, 77, 78, 79, 80, 81, 98, 99, 100, 101, 102, 103, 104, 105, 106, 107, 108, 109, 110, 111, 112, 113] (by decide +kernel) (by decide +kernel)
set_option maxRecDepth 20000 in
theorem gX7_uses_X7_looks : GoodIn wsX7_uses (wsV RX7 118 RX7 yX7_looks wsX7_looks) := goodIn_app (goodIn_of _ (by decide +kernel)) ggX7_uses_X7_looks
set_option maxRecDepth 20000 in
theorem ggX7_uses_X7_inks : GoodIn wsX7_uses wsX7_inks := goodIn_r _ [85, 10, 11, 12, 6, 13, 14, 15, 16, 17, 2, 86, 87, 88, 89, 38, 39, 40, 41, 29, 30, 31, 32, 98, 99, 100, 101, 102, 103, 104, 105, 106, 107, 108, 109, 110, 111, 112, 113] (by decide +kernel) (by decide +kernel)
set_option maxRecDepth 20000 in
theorem gX7_uses_X7_inks : GoodIn wsX7_uses (wsV RX7 121 RX7 yX7_inks wsX7_inks) := goodIn_app (goodIn_of _ (by decide +kernel)) ggX7_uses_X7_inks
set_option maxRecDepth 20000 in
theorem ggX7_uses_X7_lays : GoodIn wsX7_uses wsX7_lays := goodIn_r _ [93, 1, 8, 2, 22, 23, 24, 94, 95, 96, 6, 97, 14, 15, 16, 17, 29, 30, 31, 32, 42, 43, 44, 45, 98, 99, 100, 101, 102, 103, 104, 105, 106, 107, 108, 109, 110, 111, 112, 113] (by decide +kernel) (by decide +kernel)
set_option maxRecDepth 20000 in
theorem gX7_uses_X7_lays : GoodIn wsX7_uses (wsV RX7 124 RX7 yX7_lays wsX7_lays) := goodIn_app (goodIn_of _ (by decide +kernel)) ggX7_uses_X7_lays
theorem dX7_uses_0 : decode cX7_uses 0 = .ok (.aload_n 0, 1) := by decide +kernel
theorem dX7_uses_1 : decode cX7_uses 1 = .ok (.iload_n 1, 1) := by decide +kernel
theorem dX7_uses_2 : decode cX7_uses 2 = .ok (.invokevirtual 118, 3) := by decide +kernel
theorem dX7_uses_5 : decode cX7_uses 5 = .ok (.aload_n 0, 1) := by decide +kernel
theorem dX7_uses_6 : decode cX7_uses 6 = .ok (.getfield 68, 3) := by decide +kernel
theorem dX7_uses_9 : decode cX7_uses 9 = .ok (.iconst (-1), 1) := by decide +kernel
theorem dX7_uses_10 : decode cX7_uses 10 = .ok (.if_icmp .ne 5, 3) := by decide +kernel
theorem dX7_uses_13 : decode cX7_uses 13 = .ok (.iconst (-1), 1) := by decide +kernel
theorem dX7_uses_14 : decode cX7_uses 14 = .ok (.ireturn, 1) := by decide +kernel
theorem dX7_uses_15 : decode cX7_uses 15 = .ok (.bipush 119, 2) := by decide +kernel
theorem dX7_uses_17 : decode cX7_uses 17 = .ok (.bipush 6, 2) := by decide +kernel
theorem dX7_uses_19 : decode cX7_uses 19 = .ok (.iload_n 1, 1) := by decide +kernel
theorem dX7_uses_20 : decode cX7_uses 20 = .ok (.imul, 1) := by decide +kernel
theorem dX7_uses_21 : decode cX7_uses 21 = .ok (.iadd, 1) := by decide +kernel
theorem dX7_uses_22 : decode cX7_uses 22 = .ok (.istore_n 2, 1) := by decide +kernel
theorem dX7_uses_23 : decode cX7_uses 23 = .ok (.aload_n 0, 1) := by decide +kernel
theorem dX7_uses_24 : decode cX7_uses 24 = .ok (.getfield 68, 3) := by decide +kernel
theorem dX7_uses_27 : decode cX7_uses 27 = .ok (.ifCond .le 45, 3) := by decide +kernel
theorem dX7_uses_30 : decode cX7_uses 30 = .ok (.aload_n 0, 1) := by decide +kernel
theorem dX7_uses_31 : decode cX7_uses 31 = .ok (.getfield 7, 3) := by decide +kernel
theorem dX7_uses_34 : decode cX7_uses 34 = .ok (.bipush 6, 2) := by decide +kernel
theorem dX7_uses_36 : decode cX7_uses 36 = .ok (.dup2, 1) := by decide +kernel
theorem dX7_uses_37 : decode cX7_uses 37 = .ok (.iaload, 1) := by decide +kernel
theorem dX7_uses_38 : decode cX7_uses 38 = .ok (.aload_n 0, 1) := by decide +kernel
theorem dX7_uses_39 : decode cX7_uses 39 = .ok (.iload_n 1, 1) := by decide +kernel
theorem dX7_uses_40 : decode cX7_uses 40 = .ok (.invokevirtual 121, 3) := by decide +kernel
theorem dX7_uses_43 : decode cX7_uses 43 = .ok (.iadd, 1) := by decide +kernel
theorem dX7_uses_44 : decode cX7_uses 44 = .ok (.iastore, 1) := by decide +kernel
theorem dX7_uses_45 : decode cX7_uses 45 = .ok (.aload_n 0, 1) := by decide +kernel
theorem dX7_uses_46 : decode cX7_uses 46 = .ok (.getfield 7, 3) := by decide +kernel
theorem dX7_uses_49 : decode cX7_uses 49 = .ok (.iconst 4, 1) := by decide +kernel
theorem dX7_uses_50 : decode cX7_uses 50 = .ok (.dup2, 1) := by decide +kernel
theorem dX7_uses_51 : decode cX7_uses 51 = .ok (.iaload, 1) := by decide +kernel
theorem dX7_uses_52 : decode cX7_uses 52 = .ok (.iconst 1, 1) := by decide +kernel
theorem dX7_uses_53 : decode cX7_uses 53 = .ok (.iadd, 1) := by decide +kernel
theorem dX7_uses_54 : decode cX7_uses 54 = .ok (.iastore, 1) := by decide +kernel
theorem dX7_uses_55 : decode cX7_uses 55 = .ok (.aload_n 0, 1) := by decide +kernel
theorem dX7_uses_56 : decode cX7_uses 56 = .ok (.iload_n 1, 1) := by decide +kernel
theorem dX7_uses_57 : decode cX7_uses 57 = .ok (.invokevirtual 124, 3) := by decide +kernel
theorem dX7_uses_60 : decode cX7_uses 60 = .ok (.aload_n 0, 1) := by decide +kernel
theorem dX7_uses_61 : decode cX7_uses 61 = .ok (.getfield 7, 3) := by decide +kernel
theorem dX7_uses_64 : decode cX7_uses 64 = .ok (.iload_n 2, 1) := by decide +kernel
theorem dX7_uses_65 : decode cX7_uses 65 = .ok (.iconst 5, 1) := by decide +kernel
theorem dX7_uses_66 : decode cX7_uses 66 = .ok (.iadd, 1) := by decide +kernel
theorem dX7_uses_67 : decode cX7_uses 67 = .ok (.iconst 0, 1) := by decide +kernel
theorem dX7_uses_68 : decode cX7_uses 68 = .ok (.iastore, 1) := by decide +kernel
theorem dX7_uses_69 : decode cX7_uses 69 = .ok (.goto 13, 3) := by decide +kernel
theorem dX7_uses_72 : decode cX7_uses 72 = .ok (.aload_n 0, 1) := by decide +kernel
theorem dX7_uses_73 : decode cX7_uses 73 = .ok (.getfield 7, 3) := by decide +kernel
theorem dX7_uses_76 : decode cX7_uses 76 = .ok (.iconst 3, 1) := by decide +kernel
theorem dX7_uses_77 : decode cX7_uses 77 = .ok (.dup2, 1) := by decide +kernel
theorem dX7_uses_78 : decode cX7_uses 78 = .ok (.iaload, 1) := by decide +kernel
theorem dX7_uses_79 : decode cX7_uses 79 = .ok (.iconst 1, 1) := by decide +kernel
theorem dX7_uses_80 : decode cX7_uses 80 = .ok (.iadd, 1) := by decide +kernel
theorem dX7_uses_81 : decode cX7_uses 81 = .ok (.iastore, 1) := by decide +kernel
theorem dX7_uses_82 : decode cX7_uses 82 = .ok (.aload_n 0, 1) := by decide +kernel
theorem dX7_uses_83 : decode cX7_uses 83 = .ok (.getfield 7, 3) := by decide +kernel
theorem dX7_uses_86 : decode cX7_uses 86 = .ok (.iconst 2, 1) := by decide +kernel
theorem dX7_uses_87 : decode cX7_uses 87 = .ok (.dup2, 1) := by decide +kernel
theorem dX7_uses_88 : decode cX7_uses 88 = .ok (.iaload, 1) := by decide +kernel
theorem dX7_uses_89 : decode cX7_uses 89 = .ok (.iconst 1, 1) := by decide +kernel
theorem dX7_uses_90 : decode cX7_uses 90 = .ok (.iadd, 1) := by decide +kernel
theorem dX7_uses_91 : decode cX7_uses 91 = .ok (.iastore, 1) := by decide +kernel
theorem dX7_uses_92 : decode cX7_uses 92 = .ok (.aload_n 0, 1) := by decide +kernel
theorem dX7_uses_93 : decode cX7_uses 93 = .ok (.getfield 7, 3) := by decide +kernel
theorem dX7_uses_96 : decode cX7_uses 96 = .ok (.iload_n 2, 1) := by decide +kernel
theorem dX7_uses_97 : decode cX7_uses 97 = .ok (.iconst 3, 1) := by decide +kernel
theorem dX7_uses_98 : decode cX7_uses 98 = .ok (.iadd, 1) := by decide +kernel
theorem dX7_uses_99 : decode cX7_uses 99 = .ok (.aload_n 0, 1) := by decide +kernel
theorem dX7_uses_100 : decode cX7_uses 100 = .ok (.getfield 7, 3) := by decide +kernel
theorem dX7_uses_103 : decode cX7_uses 103 = .ok (.iconst 2, 1) := by decide +kernel
theorem dX7_uses_104 : decode cX7_uses 104 = .ok (.iaload, 1) := by decide +kernel
theorem dX7_uses_105 : decode cX7_uses 105 = .ok (.iastore, 1) := by decide +kernel
theorem dX7_uses_106 : decode cX7_uses 106 = .ok (.aload_n 0, 1) := by decide +kernel
theorem dX7_uses_107 : decode cX7_uses 107 = .ok (.getfield 7, 3) := by decide +kernel
theorem dX7_uses_110 : decode cX7_uses 110 = .ok (.iload_n 2, 1) := by decide +kernel
theorem dX7_uses_111 : decode cX7_uses 111 = .ok (.iconst 4, 1) := by decide +kernel
theorem dX7_uses_112 : decode cX7_uses 112 = .ok (.iadd, 1) := by decide +kernel
theorem dX7_uses_113 : decode cX7_uses 113 = .ok (.aload_n 0, 1) := by decide +kernel
theorem dX7_uses_114 : decode cX7_uses 114 = .ok (.getfield 7, 3) := by decide +kernel
theorem dX7_uses_117 : decode cX7_uses 117 = .ok (.iconst 1, 1) := by decide +kernel
theorem dX7_uses_118 : decode cX7_uses 118 = .ok (.iaload, 1) := by decide +kernel
theorem dX7_uses_119 : decode cX7_uses 119 = .ok (.iastore, 1) := by decide +kernel
theorem dX7_uses_120 : decode cX7_uses 120 = .ok (.aload_n 0, 1) := by decide +kernel
theorem dX7_uses_121 : decode cX7_uses 121 = .ok (.getfield 7, 3) := by decide +kernel
theorem dX7_uses_124 : decode cX7_uses 124 = .ok (.iload_n 2, 1) := by decide +kernel
theorem dX7_uses_125 : decode cX7_uses 125 = .ok (.iconst 5, 1) := by decide +kernel
theorem dX7_uses_126 : decode cX7_uses 126 = .ok (.iadd, 1) := by decide +kernel
theorem dX7_uses_127 : decode cX7_uses 127 = .ok (.dup2, 1) := by decide +kernel
theorem dX7_uses_128 : decode cX7_uses 128 = .ok (.iaload, 1) := by decide +kernel
theorem dX7_uses_129 : decode cX7_uses 129 = .ok (.iconst 1, 1) := by decide +kernel
theorem dX7_uses_130 : decode cX7_uses 130 = .ok (.iadd, 1) := by decide +kernel
theorem dX7_uses_131 : decode cX7_uses 131 = .ok (.iastore, 1) := by decide +kernel
theorem dX7_uses_132 : decode cX7_uses 132 = .ok (.aload_n 0, 1) := by decide +kernel
theorem dX7_uses_133 : decode cX7_uses 133 = .ok (.getfield 68, 3) := by decide +kernel
theorem dX7_uses_136 : decode cX7_uses 136 = .ok (.ireturn, 1) := by decide +kernel
set_option maxRecDepth 20000 in
theorem ggX7_cuts_X7_is : GoodIn wsX7_cuts wsX7_is := goodIn_r _ [6, 7, 8, 9, 5, 10, 1, 15, 16, 17, 18, 19, 20, 21, 22, 23, 24, 25, 26, 27, 28, 29, 30] (by decide +kernel) (by decide +kernel)
set_option maxRecDepth 20000 in
theorem gX7_cuts_X7_is : GoodIn wsX7_cuts (wsV RX7 48 RX7 yX7_is wsX7_is) := goodIn_app (goodIn_of _ (by decide +kernel)) ggX7_cuts_X7_is
set_option maxRecDepth 20000 in
theorem ggX7_cuts_X7_goes : GoodIn wsX7_cuts wsX7_goes := goodIn_r _ [14, 1, 7, 8, 9, 5, 10, 15, 16, 17, 18, 19, 20, 21, 22, 23, 24, 25, 26, 27, 28, 29, 30] (by decide +kernel) (by decide +kernel)
set_option maxRecDepth 20000 in
theorem gX7_cuts_X7_goes : GoodIn wsX7_cuts (wsV RX7 115 RX7 yX7_goes wsX7_goes) := goodIn_app (goodIn_of _ (by decide +kernel)) ggX7_cuts_X7_goes
theorem dX7_cuts_0 : decode cX7_cuts 0 = .ok (.aload_n 0, 1) := by decide +kernel
theorem dX7_cuts_1 : decode cX7_cuts 1 = .ok (.getfield 7, 3) := by decide +kernel
theorem dX7_cuts_4 : decode cX7_cuts 4 = .ok (.bipush 12, 2) := by decide +kernel
theorem dX7_cuts_6 : decode cX7_cuts 6 = .ok (.iload_n 1, 1) := by decide +kernel
theorem dX7_cuts_7 : decode cX7_cuts 7 = .ok (.iadd, 1) := by decide +kernel
theorem dX7_cuts_8 : decode cX7_cuts 8 = .ok (.iaload, 1) := by decide +kernel
theorem dX7_cuts_9 : decode cX7_cuts 9 = .ok (.iload_n 2, 1) := by decide +kernel
theorem dX7_cuts_10 : decode cX7_cuts 10 = .ok (.if_icmp .ne 18, 3) := by decide +kernel
theorem dX7_cuts_13 : decode cX7_cuts 13 = .ok (.aload_n 0, 1) := by decide +kernel
theorem dX7_cuts_14 : decode cX7_cuts 14 = .ok (.getfield 7, 3) := by decide +kernel
theorem dX7_cuts_17 : decode cX7_cuts 17 = .ok (.bipush 28, 2) := by decide +kernel
theorem dX7_cuts_19 : decode cX7_cuts 19 = .ok (.iload_n 1, 1) := by decide +kernel
theorem dX7_cuts_20 : decode cX7_cuts 20 = .ok (.iadd, 1) := by decide +kernel
theorem dX7_cuts_21 : decode cX7_cuts 21 = .ok (.iaload, 1) := by decide +kernel
theorem dX7_cuts_22 : decode cX7_cuts 22 = .ok (.iload_n 3, 1) := by decide +kernel
theorem dX7_cuts_23 : decode cX7_cuts 23 = .ok (.if_icmp .ne 5, 3) := by decide +kernel
theorem dX7_cuts_26 : decode cX7_cuts 26 = .ok (.iconst 0, 1) := by decide +kernel
theorem dX7_cuts_27 : decode cX7_cuts 27 = .ok (.ireturn, 1) := by decide +kernel
theorem dX7_cuts_28 : decode cX7_cuts 28 = .ok (.iconst 0, 1) := by decide +kernel
theorem dX7_cuts_29 : decode cX7_cuts 29 = .ok (.istore 4, 2) := by decide +kernel
theorem dX7_cuts_31 : decode cX7_cuts 31 = .ok (.bipush 9, 2) := by decide +kernel
theorem dX7_cuts_33 : decode cX7_cuts 33 = .ok (.iload_n 1, 1) := by decide +kernel
theorem dX7_cuts_34 : decode cX7_cuts 34 = .ok (.imul, 1) := by decide +kernel
theorem dX7_cuts_35 : decode cX7_cuts 35 = .ok (.istore 5, 2) := by decide +kernel
theorem dX7_cuts_37 : decode cX7_cuts 37 = .ok (.iload 5, 2) := by decide +kernel
theorem dX7_cuts_39 : decode cX7_cuts 39 = .ok (.bipush 9, 2) := by decide +kernel
theorem dX7_cuts_41 : decode cX7_cuts 41 = .ok (.iload_n 1, 1) := by decide +kernel
theorem dX7_cuts_42 : decode cX7_cuts 42 = .ok (.imul, 1) := by decide +kernel
theorem dX7_cuts_43 : decode cX7_cuts 43 = .ok (.bipush 9, 2) := by decide +kernel
theorem dX7_cuts_45 : decode cX7_cuts 45 = .ok (.iadd, 1) := by decide +kernel
theorem dX7_cuts_46 : decode cX7_cuts 46 = .ok (.if_icmp .ge 27, 3) := by decide +kernel
theorem dX7_cuts_49 : decode cX7_cuts 49 = .ok (.aload_n 0, 1) := by decide +kernel
theorem dX7_cuts_50 : decode cX7_cuts 50 = .ok (.iload 5, 2) := by decide +kernel
theorem dX7_cuts_52 : decode cX7_cuts 52 = .ok (.invokevirtual 48, 3) := by decide +kernel
theorem dX7_cuts_55 : decode cX7_cuts 55 = .ok (.ifCond .eq 12, 3) := by decide +kernel
theorem dX7_cuts_58 : decode cX7_cuts 58 = .ok (.aload_n 0, 1) := by decide +kernel
theorem dX7_cuts_59 : decode cX7_cuts 59 = .ok (.iload 5, 2) := by decide +kernel
theorem dX7_cuts_61 : decode cX7_cuts 61 = .ok (.invokevirtual 115, 3) := by decide +kernel
theorem dX7_cuts_64 : decode cX7_cuts 64 = .ok (.iinc 4 1, 3) := by decide +kernel
theorem dX7_cuts_67 : decode cX7_cuts 67 = .ok (.iinc 5 1, 3) := by decide +kernel
theorem dX7_cuts_70 : decode cX7_cuts 70 = .ok (.goto (-33), 3) := by decide +kernel
theorem dX7_cuts_73 : decode cX7_cuts 73 = .ok (.aload_n 0, 1) := by decide +kernel
theorem dX7_cuts_74 : decode cX7_cuts 74 = .ok (.getfield 7, 3) := by decide +kernel
theorem dX7_cuts_77 : decode cX7_cuts 77 = .ok (.bipush 12, 2) := by decide +kernel
theorem dX7_cuts_79 : decode cX7_cuts 79 = .ok (.iload_n 1, 1) := by decide +kernel
theorem dX7_cuts_80 : decode cX7_cuts 80 = .ok (.iadd, 1) := by decide +kernel
theorem dX7_cuts_81 : decode cX7_cuts 81 = .ok (.iload_n 2, 1) := by decide +kernel
theorem dX7_cuts_82 : decode cX7_cuts 82 = .ok (.iastore, 1) := by decide +kernel
theorem dX7_cuts_83 : decode cX7_cuts 83 = .ok (.aload_n 0, 1) := by decide +kernel
theorem dX7_cuts_84 : decode cX7_cuts 84 = .ok (.getfield 7, 3) := by decide +kernel
theorem dX7_cuts_87 : decode cX7_cuts 87 = .ok (.bipush 28, 2) := by decide +kernel
theorem dX7_cuts_89 : decode cX7_cuts 89 = .ok (.iload_n 1, 1) := by decide +kernel
theorem dX7_cuts_90 : decode cX7_cuts 90 = .ok (.iadd, 1) := by decide +kernel
theorem dX7_cuts_91 : decode cX7_cuts 91 = .ok (.iload_n 3, 1) := by decide +kernel
theorem dX7_cuts_92 : decode cX7_cuts 92 = .ok (.iastore, 1) := by decide +kernel
theorem dX7_cuts_93 : decode cX7_cuts 93 = .ok (.iload 4, 2) := by decide +kernel
theorem dX7_cuts_95 : decode cX7_cuts 95 = .ok (.ireturn, 1) := by decide +kernel
set_option maxRecDepth 20000 in
theorem ggX7_cutBars_X7_in : GoodIn wsX7_cutBars wsX7_in := goodIn_r _ [4] (by decide +kernel) (by decide +kernel)
set_option maxRecDepth 20000 in
theorem gX7_cutBars_X7_in : GoodIn wsX7_cutBars (va_wsS RX7 44 yX7_in wsX7_in) := goodIn_app (goodIn_of _ (by decide +kernel)) ggX7_cutBars_X7_in
theorem dX7_cutBars_0 : decode cX7_cutBars 0 = .ok (.iload_n 0, 1) := by decide +kernel
theorem dX7_cutBars_1 : decode cX7_cutBars 1 = .ok (.iconst 0, 1) := by decide +kernel
theorem dX7_cutBars_2 : decode cX7_cutBars 2 = .ok (.bipush 15, 2) := by decide +kernel
theorem dX7_cutBars_4 : decode cX7_cutBars 4 = .ok (.invokestatic 44, 3) := by decide +kernel
theorem dX7_cutBars_7 : decode cX7_cutBars 7 = .ok (.ifCond .ne 7, 3) := by decide +kernel
theorem dX7_cutBars_10 : decode cX7_cutBars 10 = .ok (.iconst 1, 1) := by decide +kernel
theorem dX7_cutBars_11 : decode cX7_cutBars 11 = .ok (.goto 28, 3) := by decide +kernel
theorem dX7_cutBars_14 : decode cX7_cutBars 14 = .ok (.iload_n 1, 1) := by decide +kernel
theorem dX7_cutBars_15 : decode cX7_cutBars 15 = .ok (.iconst 1, 1) := by decide +kernel
theorem dX7_cutBars_16 : decode cX7_cutBars 16 = .ok (.bipush 6, 2) := by decide +kernel
theorem dX7_cutBars_18 : decode cX7_cutBars 18 = .ok (.invokestatic 44, 3) := by decide +kernel
theorem dX7_cutBars_21 : decode cX7_cutBars 21 = .ok (.ifCond .eq 13, 3) := by decide +kernel
theorem dX7_cutBars_24 : decode cX7_cutBars 24 = .ok (.iload_n 2, 1) := by decide +kernel
theorem dX7_cutBars_25 : decode cX7_cutBars 25 = .ok (.iconst 1, 1) := by decide +kernel
theorem dX7_cutBars_26 : decode cX7_cutBars 26 = .ok (.bipush 6, 2) := by decide +kernel
theorem dX7_cutBars_28 : decode cX7_cutBars 28 = .ok (.invokestatic 44, 3) := by decide +kernel
theorem dX7_cutBars_31 : decode cX7_cutBars 31 = .ok (.ifCond .ne 7, 3) := by decide +kernel
theorem dX7_cutBars_34 : decode cX7_cutBars 34 = .ok (.iconst 2, 1) := by decide +kernel
theorem dX7_cutBars_35 : decode cX7_cutBars 35 = .ok (.goto 4, 3) := by decide +kernel
theorem dX7_cutBars_38 : decode cX7_cutBars 38 = .ok (.iconst 0, 1) := by decide +kernel
theorem dX7_cutBars_39 : decode cX7_cutBars 39 = .ok (.ireturn, 1) := by decide +kernel
set_option maxRecDepth 20000 in
theorem ggX7_cut_X7_cutBars : GoodIn wsX7_cut wsX7_cutBars := goodIn_r _ [5, 6, 7, 4, 8] (by decide +kernel) (by decide +kernel)
set_option maxRecDepth 20000 in
theorem gX7_cut_X7_cutBars : GoodIn wsX7_cut (va_wsS RX7 127 yX7_cutBars wsX7_cutBars) := goodIn_app (goodIn_of _ (by decide +kernel)) ggX7_cut_X7_cutBars
set_option maxRecDepth 20000 in
theorem ggX7_cut_X7_saves : GoodIn wsX7_cut wsX7_saves := goodIn_r _ [12, 13, 14, 15, 32, 33, 34, 35, 36, 37, 38, 39, 40, 41, 42, 43, 44, 45, 46, 47] (by decide +kernel) (by decide +kernel)
set_option maxRecDepth 20000 in
theorem gX7_cut_X7_saves : GoodIn wsX7_cut (wsV RX7 131 RX7 yX7_saves wsX7_saves) := goodIn_app (goodIn_of _ (by decide +kernel)) ggX7_cut_X7_saves
set_option maxRecDepth 20000 in
theorem ggX7_cut_X7_cuts : GoodIn wsX7_cut wsX7_cuts := goodIn_r _ [19, 15, 20, 21, 22, 4, 23, 24, 25, 26, 27, 28, 29, 30, 31, 32, 33, 34, 35, 36, 37, 38, 39, 40, 41, 42, 43, 44, 45, 46, 47] (by decide +kernel) (by decide +kernel)
set_option maxRecDepth 20000 in
theorem gX7_cut_X7_cuts : GoodIn wsX7_cut (wsV RX7 134 RX7 yX7_cuts wsX7_cuts) := goodIn_app (goodIn_of _ (by decide +kernel)) ggX7_cut_X7_cuts
theorem dX7_cut_0 : decode cX7_cut 0 = .ok (.aload_n 0, 1) := by decide +kernel
theorem dX7_cut_1 : decode cX7_cut 1 = .ok (.iload_n 1, 1) := by decide +kernel
theorem dX7_cut_2 : decode cX7_cut 2 = .ok (.iload_n 2, 1) := by decide +kernel
theorem dX7_cut_3 : decode cX7_cut 3 = .ok (.iload_n 3, 1) := by decide +kernel
theorem dX7_cut_4 : decode cX7_cut 4 = .ok (.invokestatic 127, 3) := by decide +kernel
theorem dX7_cut_7 : decode cX7_cut 7 = .ok (.putfield 26, 3) := by decide +kernel
theorem dX7_cut_10 : decode cX7_cut 10 = .ok (.aload_n 0, 1) := by decide +kernel
theorem dX7_cut_11 : decode cX7_cut 11 = .ok (.getfield 26, 3) := by decide +kernel
theorem dX7_cut_14 : decode cX7_cut 14 = .ok (.ifCond .le 5, 3) := by decide +kernel
theorem dX7_cut_17 : decode cX7_cut 17 = .ok (.iconst 0, 1) := by decide +kernel
theorem dX7_cut_18 : decode cX7_cut 18 = .ok (.ireturn, 1) := by decide +kernel
theorem dX7_cut_19 : decode cX7_cut 19 = .ok (.aload_n 0, 1) := by decide +kernel
theorem dX7_cut_20 : decode cX7_cut 20 = .ok (.invokevirtual 131, 3) := by decide +kernel
theorem dX7_cut_23 : decode cX7_cut 23 = .ok (.aload_n 0, 1) := by decide +kernel
theorem dX7_cut_24 : decode cX7_cut 24 = .ok (.iload_n 1, 1) := by decide +kernel
theorem dX7_cut_25 : decode cX7_cut 25 = .ok (.iload_n 2, 1) := by decide +kernel
theorem dX7_cut_26 : decode cX7_cut 26 = .ok (.iload_n 3, 1) := by decide +kernel
theorem dX7_cut_27 : decode cX7_cut 27 = .ok (.invokevirtual 134, 3) := by decide +kernel
theorem dX7_cut_30 : decode cX7_cut 30 = .ok (.ireturn, 1) := by decide +kernel
set_option maxRecDepth 20000 in
theorem ggX7_use_X7_bars : GoodIn wsX7_use wsX7_bars := goodIn_r _ [6, 7, 8, 5, 9] (by decide +kernel) (by decide +kernel)
set_option maxRecDepth 20000 in
theorem gX7_use_X7_bars : GoodIn wsX7_use (va_wsS RX7 137 yX7_bars wsX7_bars) := goodIn_app (goodIn_of _ (by decide +kernel)) ggX7_use_X7_bars
set_option maxRecDepth 20000 in
theorem ggX7_use_X7_number : GoodIn wsX7_use wsX7_number := goodIn_r _ [12] (by decide +kernel) (by decide +kernel)
set_option maxRecDepth 20000 in
theorem gX7_use_X7_number : GoodIn wsX7_use (va_wsS RX7 140 yX7_number wsX7_number) := goodIn_app (goodIn_of _ (by decide +kernel)) ggX7_use_X7_number
set_option maxRecDepth 20000 in
theorem ggX7_use_X7_looks : GoodIn wsX7_use wsX7_looks := goodIn_r _ [16, 2, 17, 18, 19, 20, 21, 5, 22, 23, 24, 25, 26, 27, 28, 29, 30, 31, 32, 33, 34, 35, 36, 37, 38, 39, 40, 41, 42, 43, 44, 45, 46, 47, 48, 49, 50, 51, 52, 53, 54, 55, 56, 57, 58, 59, 60, 61, 62, 63, 64, 65, 66, 67, 68, 69, 70, 71, 72, 73, 74, 75, 76, 77, 78, 79, 80, 81, 82, 83, 84, 85, 86, 87, 88, 89, 90, 91, 118, 119, 120, 121, 122, 123, 124, 125, 126, 127, 128, 129, 130, 131, 132, 133] (by decide +kernel) (by decide +kernel)
set_option maxRecDepth 20000 in
theorem gX7_use_X7_looks : GoodIn wsX7_use (wsV RX7 118 RX7 yX7_looks wsX7_looks) := goodIn_app (goodIn_of _ (by decide +kernel)) ggX7_use_X7_looks
set_option maxRecDepth 20000 in
theorem ggX7_use_X7_saves : GoodIn wsX7_use wsX7_saves := goodIn_r _ [95, 96, 97, 27, 118, 119, 120, 121, 122, 123, 124, 125, 126, 127, 128, 129, 130, 131, 132, 133] (by decide +kernel) (by decide +kernel)
set_option maxRecDepth 20000 in
theorem gX7_use_X7_saves : GoodIn wsX7_use (wsV RX7 131 RX7 yX7_saves wsX7_saves) := goodIn_app (goodIn_of _ (by decide +kernel)) ggX7_use_X7_saves
set_option maxRecDepth 20000 in
theorem ggX7_use_X7_uses : GoodIn wsX7_use wsX7_uses := goodIn_r _ [101, 2, 27, 13, 14, 15, 5, 16, 17, 18, 19, 20, 21, 22, 23, 24, 25, 26, 28, 29, 30, 31, 32, 33, 34, 35, 36, 37, 38, 39, 40, 41, 42, 43, 44, 45, 46, 47, 48, 49, 50, 51, 52, 53, 54, 55, 56, 57, 58, 59, 60, 61, 62, 63, 64, 65, 66, 67, 68, 69, 70, 71, 72, 73, 74, 75, 76, 77, 78, 79, 80, 81, 82, 83, 84, 85, 86, 87, 88, 89, 90, 91, 102, 103, 104, 105, 106, 107, 108, 109, 110, 111, 112, 113, 114, 115, 116, 117, 118, 119, 120, 121, 122, 123, 124, 125, 126, 127, 128, 129, 130, 131, 132, 133] (by decide +kernel) (by decide +kernel)
set_option maxRecDepth 20000 in
theorem gX7_use_X7_uses : GoodIn wsX7_use (wsV RX7 143 RX7 yX7_uses wsX7_uses) := goodIn_app (goodIn_of _ (by decide +kernel)) ggX7_use_X7_uses
theorem dX7_use_0 : decode cX7_use 0 = .ok (.aload_n 0, 1) := by decide +kernel
theorem dX7_use_1 : decode cX7_use 1 = .ok (.iload_n 1, 1) := by decide +kernel
theorem dX7_use_2 : decode cX7_use 2 = .ok (.iload_n 2, 1) := by decide +kernel
theorem dX7_use_3 : decode cX7_use 3 = .ok (.iload_n 3, 1) := by decide +kernel
theorem dX7_use_4 : decode cX7_use 4 = .ok (.invokestatic 137, 3) := by decide +kernel
theorem dX7_use_7 : decode cX7_use 7 = .ok (.putfield 26, 3) := by decide +kernel
theorem dX7_use_10 : decode cX7_use 10 = .ok (.aload_n 0, 1) := by decide +kernel
theorem dX7_use_11 : decode cX7_use 11 = .ok (.getfield 26, 3) := by decide +kernel
theorem dX7_use_14 : decode cX7_use 14 = .ok (.ifCond .le 5, 3) := by decide +kernel
theorem dX7_use_17 : decode cX7_use 17 = .ok (.iconst 0, 1) := by decide +kernel
theorem dX7_use_18 : decode cX7_use 18 = .ok (.ireturn, 1) := by decide +kernel
theorem dX7_use_19 : decode cX7_use 19 = .ok (.iload_n 1, 1) := by decide +kernel
theorem dX7_use_20 : decode cX7_use 20 = .ok (.iload_n 2, 1) := by decide +kernel
theorem dX7_use_21 : decode cX7_use 21 = .ok (.iload_n 3, 1) := by decide +kernel
theorem dX7_use_22 : decode cX7_use 22 = .ok (.invokestatic 140, 3) := by decide +kernel
theorem dX7_use_25 : decode cX7_use 25 = .ok (.istore 4, 2) := by decide +kernel
theorem dX7_use_27 : decode cX7_use 27 = .ok (.aload_n 0, 1) := by decide +kernel
theorem dX7_use_28 : decode cX7_use 28 = .ok (.iload 4, 2) := by decide +kernel
theorem dX7_use_30 : decode cX7_use 30 = .ok (.invokevirtual 118, 3) := by decide +kernel
theorem dX7_use_33 : decode cX7_use 33 = .ok (.aload_n 0, 1) := by decide +kernel
theorem dX7_use_34 : decode cX7_use 34 = .ok (.aload_n 0, 1) := by decide +kernel
theorem dX7_use_35 : decode cX7_use 35 = .ok (.getfield 68, 3) := by decide +kernel
theorem dX7_use_38 : decode cX7_use 38 = .ok (.iconst (-1), 1) := by decide +kernel
theorem dX7_use_39 : decode cX7_use 39 = .ok (.if_icmp .ne 7, 3) := by decide +kernel
theorem dX7_use_42 : decode cX7_use 42 = .ok (.iconst 3, 1) := by decide +kernel
theorem dX7_use_43 : decode cX7_use 43 = .ok (.goto 4, 3) := by decide +kernel
theorem dX7_use_46 : decode cX7_use 46 = .ok (.iconst 0, 1) := by decide +kernel
theorem dX7_use_47 : decode cX7_use 47 = .ok (.putfield 26, 3) := by decide +kernel
theorem dX7_use_50 : decode cX7_use 50 = .ok (.aload_n 0, 1) := by decide +kernel
theorem dX7_use_51 : decode cX7_use 51 = .ok (.getfield 26, 3) := by decide +kernel
theorem dX7_use_54 : decode cX7_use 54 = .ok (.ifCond .le 5, 3) := by decide +kernel
theorem dX7_use_57 : decode cX7_use 57 = .ok (.iconst 0, 1) := by decide +kernel
theorem dX7_use_58 : decode cX7_use 58 = .ok (.ireturn, 1) := by decide +kernel
theorem dX7_use_59 : decode cX7_use 59 = .ok (.aload_n 0, 1) := by decide +kernel
theorem dX7_use_60 : decode cX7_use 60 = .ok (.invokevirtual 131, 3) := by decide +kernel
theorem dX7_use_63 : decode cX7_use 63 = .ok (.aload_n 0, 1) := by decide +kernel
theorem dX7_use_64 : decode cX7_use 64 = .ok (.iload 4, 2) := by decide +kernel
theorem dX7_use_66 : decode cX7_use 66 = .ok (.invokevirtual 143, 3) := by decide +kernel
theorem dX7_use_69 : decode cX7_use 69 = .ok (.ireturn, 1) := by decide +kernel
set_option maxRecDepth 20000 in
theorem ggX7_drop_X7_bars : GoodIn wsX7_drop wsX7_bars := goodIn_r _ [5, 6, 7, 4, 8] (by decide +kernel) (by decide +kernel)
set_option maxRecDepth 20000 in
theorem gX7_drop_X7_bars : GoodIn wsX7_drop (va_wsS RX7 137 yX7_bars wsX7_bars) := goodIn_app (goodIn_of _ (by decide +kernel)) ggX7_drop_X7_bars
set_option maxRecDepth 20000 in
theorem ggX7_drop_X7_number : GoodIn wsX7_drop wsX7_number := goodIn_r _ [11] (by decide +kernel) (by decide +kernel)
set_option maxRecDepth 20000 in
theorem gX7_drop_X7_number : GoodIn wsX7_drop (va_wsS RX7 140 yX7_number wsX7_number) := goodIn_app (goodIn_of _ (by decide +kernel)) ggX7_drop_X7_number
set_option maxRecDepth 20000 in
theorem ggX7_drop_X7_is : GoodIn wsX7_drop wsX7_is := goodIn_r _ [15, 16, 17, 18, 4, 19, 20, 31, 32, 33, 34, 35, 36, 37, 38, 39, 40, 41, 42, 43, 44, 45, 46] (by decide +kernel) (by decide +kernel)
set_option maxRecDepth 20000 in
theorem gX7_drop_X7_is : GoodIn wsX7_drop (wsV RX7 48 RX7 yX7_is wsX7_is) := goodIn_app (goodIn_of _ (by decide +kernel)) ggX7_drop_X7_is
set_option maxRecDepth 20000 in
theorem ggX7_drop_X7_saves : GoodIn wsX7_drop wsX7_saves := goodIn_r _ [24, 25, 26, 20, 31, 32, 33, 34, 35, 36, 37, 38, 39, 40, 41, 42, 43, 44, 45, 46] (by decide +kernel) (by decide +kernel)
set_option maxRecDepth 20000 in
theorem gX7_drop_X7_saves : GoodIn wsX7_drop (wsV RX7 131 RX7 yX7_saves wsX7_saves) := goodIn_app (goodIn_of _ (by decide +kernel)) ggX7_drop_X7_saves
set_option maxRecDepth 20000 in
theorem ggX7_drop_X7_goes : GoodIn wsX7_drop wsX7_goes := goodIn_r _ [30, 20, 16, 17, 18, 4, 19, 31, 32, 33, 34, 35, 36, 37, 38, 39, 40, 41, 42, 43, 44, 45, 46] (by decide +kernel) (by decide +kernel)
set_option maxRecDepth 20000 in
theorem gX7_drop_X7_goes : GoodIn wsX7_drop (wsV RX7 115 RX7 yX7_goes wsX7_goes) := goodIn_app (goodIn_of _ (by decide +kernel)) ggX7_drop_X7_goes
set_option maxRecDepth 20000 in
theorem ggX7_drop_X7_of : GoodIn wsX7_drop wsX7_of := goodIn_r _ [19, 20, 31, 32, 33, 34, 35, 36, 37, 38, 39, 40, 41, 42, 43, 44, 45, 46] (by decide +kernel) (by decide +kernel)
set_option maxRecDepth 20000 in
theorem gX7_drop_X7_of : GoodIn wsX7_drop (wsV RX7 40 RX7 yX7_of wsX7_of) := goodIn_app (goodIn_of _ (by decide +kernel)) ggX7_drop_X7_of
theorem dX7_drop_0 : decode cX7_drop 0 = .ok (.aload_n 0, 1) := by decide +kernel
theorem dX7_drop_1 : decode cX7_drop 1 = .ok (.iload_n 1, 1) := by decide +kernel
theorem dX7_drop_2 : decode cX7_drop 2 = .ok (.iload_n 2, 1) := by decide +kernel
theorem dX7_drop_3 : decode cX7_drop 3 = .ok (.iload_n 3, 1) := by decide +kernel
theorem dX7_drop_4 : decode cX7_drop 4 = .ok (.invokestatic 137, 3) := by decide +kernel
theorem dX7_drop_7 : decode cX7_drop 7 = .ok (.putfield 26, 3) := by decide +kernel
theorem dX7_drop_10 : decode cX7_drop 10 = .ok (.aload_n 0, 1) := by decide +kernel
theorem dX7_drop_11 : decode cX7_drop 11 = .ok (.getfield 26, 3) := by decide +kernel
theorem dX7_drop_14 : decode cX7_drop 14 = .ok (.ifCond .le 5, 3) := by decide +kernel
theorem dX7_drop_17 : decode cX7_drop 17 = .ok (.iconst 0, 1) := by decide +kernel
theorem dX7_drop_18 : decode cX7_drop 18 = .ok (.ireturn, 1) := by decide +kernel
theorem dX7_drop_19 : decode cX7_drop 19 = .ok (.iload_n 1, 1) := by decide +kernel
theorem dX7_drop_20 : decode cX7_drop 20 = .ok (.iload_n 2, 1) := by decide +kernel
theorem dX7_drop_21 : decode cX7_drop 21 = .ok (.iload_n 3, 1) := by decide +kernel
theorem dX7_drop_22 : decode cX7_drop 22 = .ok (.invokestatic 140, 3) := by decide +kernel
theorem dX7_drop_25 : decode cX7_drop 25 = .ok (.istore 4, 2) := by decide +kernel
theorem dX7_drop_27 : decode cX7_drop 27 = .ok (.aload_n 0, 1) := by decide +kernel
theorem dX7_drop_28 : decode cX7_drop 28 = .ok (.aload_n 0, 1) := by decide +kernel
theorem dX7_drop_29 : decode cX7_drop 29 = .ok (.iload 4, 2) := by decide +kernel
theorem dX7_drop_31 : decode cX7_drop 31 = .ok (.invokevirtual 48, 3) := by decide +kernel
theorem dX7_drop_34 : decode cX7_drop 34 = .ok (.ifCond .eq 7, 3) := by decide +kernel
theorem dX7_drop_37 : decode cX7_drop 37 = .ok (.iconst 0, 1) := by decide +kernel
theorem dX7_drop_38 : decode cX7_drop 38 = .ok (.goto 4, 3) := by decide +kernel
theorem dX7_drop_41 : decode cX7_drop 41 = .ok (.iconst 3, 1) := by decide +kernel
theorem dX7_drop_42 : decode cX7_drop 42 = .ok (.putfield 26, 3) := by decide +kernel
theorem dX7_drop_45 : decode cX7_drop 45 = .ok (.aload_n 0, 1) := by decide +kernel
theorem dX7_drop_46 : decode cX7_drop 46 = .ok (.getfield 26, 3) := by decide +kernel
theorem dX7_drop_49 : decode cX7_drop 49 = .ok (.ifCond .le 5, 3) := by decide +kernel
theorem dX7_drop_52 : decode cX7_drop 52 = .ok (.iconst 0, 1) := by decide +kernel
theorem dX7_drop_53 : decode cX7_drop 53 = .ok (.ireturn, 1) := by decide +kernel
theorem dX7_drop_54 : decode cX7_drop 54 = .ok (.aload_n 0, 1) := by decide +kernel
theorem dX7_drop_55 : decode cX7_drop 55 = .ok (.invokevirtual 131, 3) := by decide +kernel
theorem dX7_drop_58 : decode cX7_drop 58 = .ok (.aload_n 0, 1) := by decide +kernel
theorem dX7_drop_59 : decode cX7_drop 59 = .ok (.iload 4, 2) := by decide +kernel
theorem dX7_drop_61 : decode cX7_drop 61 = .ok (.invokevirtual 115, 3) := by decide +kernel
theorem dX7_drop_64 : decode cX7_drop 64 = .ok (.aload_n 0, 1) := by decide +kernel
theorem dX7_drop_65 : decode cX7_drop 65 = .ok (.iload 4, 2) := by decide +kernel
theorem dX7_drop_67 : decode cX7_drop 67 = .ok (.iconst 5, 1) := by decide +kernel
theorem dX7_drop_68 : decode cX7_drop 68 = .ok (.invokevirtual 40, 3) := by decide +kernel
theorem dX7_drop_71 : decode cX7_drop 71 = .ok (.ireturn, 1) := by decide +kernel
set_option maxRecDepth 20000 in
theorem ggX7_manyNow_X7_isNow : GoodIn wsX7_manyNow wsX7_isNow := goodIn_r _ [5, 6, 7, 8, 9, 4, 10, 11, 12, 13, 14, 15, 16, 17, 18, 19, 20, 21, 22, 23, 24, 25, 26, 27, 28, 29, 30] (by decide +kernel) (by decide +kernel)
set_option maxRecDepth 20000 in
theorem gX7_manyNow_X7_isNow : GoodIn wsX7_manyNow (wsV RX7 58 RX7 yX7_isNow wsX7_isNow) := goodIn_app (goodIn_of _ (by decide +kernel)) ggX7_manyNow_X7_isNow
theorem dX7_manyNow_0 : decode cX7_manyNow 0 = .ok (.iconst 0, 1) := by decide +kernel
theorem dX7_manyNow_1 : decode cX7_manyNow 1 = .ok (.istore_n 1, 1) := by decide +kernel
theorem dX7_manyNow_2 : decode cX7_manyNow 2 = .ok (.iconst 0, 1) := by decide +kernel
theorem dX7_manyNow_3 : decode cX7_manyNow 3 = .ok (.istore_n 2, 1) := by decide +kernel
theorem dX7_manyNow_4 : decode cX7_manyNow 4 = .ok (.iload_n 2, 1) := by decide +kernel
theorem dX7_manyNow_5 : decode cX7_manyNow 5 = .ok (.sipush 144, 3) := by decide +kernel
theorem dX7_manyNow_8 : decode cX7_manyNow 8 = .ok (.if_icmp .ge 25, 3) := by decide +kernel
theorem dX7_manyNow_11 : decode cX7_manyNow 11 = .ok (.iload_n 1, 1) := by decide +kernel
theorem dX7_manyNow_12 : decode cX7_manyNow 12 = .ok (.aload_n 0, 1) := by decide +kernel
theorem dX7_manyNow_13 : decode cX7_manyNow 13 = .ok (.iload_n 2, 1) := by decide +kernel
theorem dX7_manyNow_14 : decode cX7_manyNow 14 = .ok (.invokevirtual 58, 3) := by decide +kernel
theorem dX7_manyNow_17 : decode cX7_manyNow 17 = .ok (.ifCond .eq 7, 3) := by decide +kernel
theorem dX7_manyNow_20 : decode cX7_manyNow 20 = .ok (.iconst 1, 1) := by decide +kernel
theorem dX7_manyNow_21 : decode cX7_manyNow 21 = .ok (.goto 4, 3) := by decide +kernel
theorem dX7_manyNow_24 : decode cX7_manyNow 24 = .ok (.iconst 0, 1) := by decide +kernel
theorem dX7_manyNow_25 : decode cX7_manyNow 25 = .ok (.iadd, 1) := by decide +kernel
theorem dX7_manyNow_26 : decode cX7_manyNow 26 = .ok (.istore_n 1, 1) := by decide +kernel
theorem dX7_manyNow_27 : decode cX7_manyNow 27 = .ok (.iinc 2 1, 3) := by decide +kernel
theorem dX7_manyNow_30 : decode cX7_manyNow 30 = .ok (.goto (-26), 3) := by decide +kernel
theorem dX7_manyNow_33 : decode cX7_manyNow 33 = .ok (.iload_n 1, 1) := by decide +kernel
theorem dX7_manyNow_34 : decode cX7_manyNow 34 = .ok (.ireturn, 1) := by decide +kernel
set_option maxRecDepth 20000 in
theorem ggX7_newLine_X7_saves : GoodIn wsX7_newLine wsX7_saves := goodIn_r _ [7, 8, 9, 2, 26, 27, 28, 29, 30, 31, 32, 33, 34, 35, 36, 37, 38, 39, 40, 41] (by decide +kernel) (by decide +kernel)
set_option maxRecDepth 20000 in
theorem gX7_newLine_X7_saves : GoodIn wsX7_newLine (wsV RX7 131 RX7 yX7_saves wsX7_saves) := goodIn_app (goodIn_of _ (by decide +kernel)) ggX7_newLine_X7_saves
set_option maxRecDepth 20000 in
theorem ggX7_newLine_X7_manyNow : GoodIn wsX7_newLine wsX7_manyNow := goodIn_r _ [13, 14, 15, 16, 6, 17, 2, 18, 19, 20, 21, 22, 23, 24, 25, 26, 27, 28, 29, 30, 31, 32, 33, 34, 35, 36, 37, 38, 39, 40, 41] (by decide +kernel) (by decide +kernel)
set_option maxRecDepth 20000 in
theorem gX7_newLine_X7_manyNow : GoodIn wsX7_newLine (wsV RX7 146 RX7 yX7_manyNow wsX7_manyNow) := goodIn_app (goodIn_of _ (by decide +kernel)) ggX7_newLine_X7_manyNow
theorem dX7_newLine_0 : decode cX7_newLine 0 = .ok (.aload_n 0, 1) := by decide +kernel
theorem dX7_newLine_1 : decode cX7_newLine 1 = .ok (.iconst 0, 1) := by decide +kernel
theorem dX7_newLine_2 : decode cX7_newLine 2 = .ok (.putfield 26, 3) := by decide +kernel
theorem dX7_newLine_5 : decode cX7_newLine 5 = .ok (.aload_n 0, 1) := by decide +kernel
theorem dX7_newLine_6 : decode cX7_newLine 6 = .ok (.invokevirtual 131, 3) := by decide +kernel
theorem dX7_newLine_9 : decode cX7_newLine 9 = .ok (.aload_n 0, 1) := by decide +kernel
theorem dX7_newLine_10 : decode cX7_newLine 10 = .ok (.invokevirtual 146, 3) := by decide +kernel
theorem dX7_newLine_13 : decode cX7_newLine 13 = .ok (.istore_n 1, 1) := by decide +kernel
theorem dX7_newLine_14 : decode cX7_newLine 14 = .ok (.aload_n 0, 1) := by decide +kernel
theorem dX7_newLine_15 : decode cX7_newLine 15 = .ok (.getfield 7, 3) := by decide +kernel
theorem dX7_newLine_18 : decode cX7_newLine 18 = .ok (.iconst 1, 1) := by decide +kernel
theorem dX7_newLine_19 : decode cX7_newLine 19 = .ok (.dup2, 1) := by decide +kernel
theorem dX7_newLine_20 : decode cX7_newLine 20 = .ok (.iaload, 1) := by decide +kernel
theorem dX7_newLine_21 : decode cX7_newLine 21 = .ok (.iconst 1, 1) := by decide +kernel
theorem dX7_newLine_22 : decode cX7_newLine 22 = .ok (.iadd, 1) := by decide +kernel
theorem dX7_newLine_23 : decode cX7_newLine 23 = .ok (.iastore, 1) := by decide +kernel
theorem dX7_newLine_24 : decode cX7_newLine 24 = .ok (.iload_n 1, 1) := by decide +kernel
theorem dX7_newLine_25 : decode cX7_newLine 25 = .ok (.ireturn, 1) := by decide +kernel
theorem dX7_addsTray_0 : decode cX7_addsTray 0 = .ok (.aload_n 0, 1) := by decide +kernel
theorem dX7_addsTray_1 : decode cX7_addsTray 1 = .ok (.getfield 7, 3) := by decide +kernel
theorem dX7_addsTray_4 : decode cX7_addsTray 4 = .ok (.bipush 44, 2) := by decide +kernel
theorem dX7_addsTray_6 : decode cX7_addsTray 6 = .ok (.aload_n 0, 1) := by decide +kernel
theorem dX7_addsTray_7 : decode cX7_addsTray 7 = .ok (.getfield 7, 3) := by decide +kernel
theorem dX7_addsTray_10 : decode cX7_addsTray 10 = .ok (.iconst 0, 1) := by decide +kernel
theorem dX7_addsTray_11 : decode cX7_addsTray 11 = .ok (.iaload, 1) := by decide +kernel
theorem dX7_addsTray_12 : decode cX7_addsTray 12 = .ok (.iadd, 1) := by decide +kernel
theorem dX7_addsTray_13 : decode cX7_addsTray 13 = .ok (.iconst 0, 1) := by decide +kernel
theorem dX7_addsTray_14 : decode cX7_addsTray 14 = .ok (.iastore, 1) := by decide +kernel
theorem dX7_addsTray_15 : decode cX7_addsTray 15 = .ok (.aload_n 0, 1) := by decide +kernel
theorem dX7_addsTray_16 : decode cX7_addsTray 16 = .ok (.getfield 7, 3) := by decide +kernel
theorem dX7_addsTray_19 : decode cX7_addsTray 19 = .ok (.iconst 0, 1) := by decide +kernel
theorem dX7_addsTray_20 : decode cX7_addsTray 20 = .ok (.dup2, 1) := by decide +kernel
theorem dX7_addsTray_21 : decode cX7_addsTray 21 = .ok (.iaload, 1) := by decide +kernel
theorem dX7_addsTray_22 : decode cX7_addsTray 22 = .ok (.iconst 1, 1) := by decide +kernel
theorem dX7_addsTray_23 : decode cX7_addsTray 23 = .ok (.iadd, 1) := by decide +kernel
theorem dX7_addsTray_24 : decode cX7_addsTray 24 = .ok (.iastore, 1) := by decide +kernel
theorem dX7_addsTray_25 : decode cX7_addsTray 25 = .ok (.aload_n 0, 1) := by decide +kernel
theorem dX7_addsTray_26 : decode cX7_addsTray 26 = .ok (.getfield 7, 3) := by decide +kernel
theorem dX7_addsTray_29 : decode cX7_addsTray 29 = .ok (.iconst 0, 1) := by decide +kernel
theorem dX7_addsTray_30 : decode cX7_addsTray 30 = .ok (.iaload, 1) := by decide +kernel
theorem dX7_addsTray_31 : decode cX7_addsTray 31 = .ok (.iconst 1, 1) := by decide +kernel
theorem dX7_addsTray_32 : decode cX7_addsTray 32 = .ok (.isub, 1) := by decide +kernel
theorem dX7_addsTray_33 : decode cX7_addsTray 33 = .ok (.ireturn, 1) := by decide +kernel
set_option maxRecDepth 20000 in
theorem ggX7_addTray_X7_saves : GoodIn wsX7_addTray wsX7_saves := goodIn_r _ [7, 8, 9, 1, 14, 15, 16, 17, 18, 19, 20, 21, 22, 23, 24, 25, 26, 27, 28, 29] (by decide +kernel) (by decide +kernel)
set_option maxRecDepth 20000 in
theorem gX7_addTray_X7_saves : GoodIn wsX7_addTray (wsV RX7 131 RX7 yX7_saves wsX7_saves) := goodIn_app (goodIn_of _ (by decide +kernel)) ggX7_addTray_X7_saves
set_option maxRecDepth 20000 in
theorem ggX7_addTray_X7_addsTray : GoodIn wsX7_addTray wsX7_addsTray := goodIn_r _ [13, 1, 14, 15, 16, 17, 18, 19, 20, 21, 22, 23, 24, 25, 26, 27, 28, 29] (by decide +kernel) (by decide +kernel)
set_option maxRecDepth 20000 in
theorem gX7_addTray_X7_addsTray : GoodIn wsX7_addTray (wsV RX7 150 RX7 yX7_addsTray wsX7_addsTray) := goodIn_app (goodIn_of _ (by decide +kernel)) ggX7_addTray_X7_addsTray
theorem dX7_addTray_0 : decode cX7_addTray 0 = .ok (.aload_n 0, 1) := by decide +kernel
theorem dX7_addTray_1 : decode cX7_addTray 1 = .ok (.aload_n 0, 1) := by decide +kernel
theorem dX7_addTray_2 : decode cX7_addTray 2 = .ok (.getfield 7, 3) := by decide +kernel
theorem dX7_addTray_5 : decode cX7_addTray 5 = .ok (.iconst 0, 1) := by decide +kernel
theorem dX7_addTray_6 : decode cX7_addTray 6 = .ok (.iaload, 1) := by decide +kernel
theorem dX7_addTray_7 : decode cX7_addTray 7 = .ok (.iconst 3, 1) := by decide +kernel
theorem dX7_addTray_8 : decode cX7_addTray 8 = .ok (.if_icmp .ne 7, 3) := by decide +kernel
theorem dX7_addTray_11 : decode cX7_addTray 11 = .ok (.iconst 1, 1) := by decide +kernel
theorem dX7_addTray_12 : decode cX7_addTray 12 = .ok (.goto 4, 3) := by decide +kernel
theorem dX7_addTray_15 : decode cX7_addTray 15 = .ok (.iconst 0, 1) := by decide +kernel
theorem dX7_addTray_16 : decode cX7_addTray 16 = .ok (.putfield 26, 3) := by decide +kernel
theorem dX7_addTray_19 : decode cX7_addTray 19 = .ok (.aload_n 0, 1) := by decide +kernel
theorem dX7_addTray_20 : decode cX7_addTray 20 = .ok (.getfield 26, 3) := by decide +kernel
theorem dX7_addTray_23 : decode cX7_addTray 23 = .ok (.ifCond .le 5, 3) := by decide +kernel
theorem dX7_addTray_26 : decode cX7_addTray 26 = .ok (.iconst 0, 1) := by decide +kernel
theorem dX7_addTray_27 : decode cX7_addTray 27 = .ok (.ireturn, 1) := by decide +kernel
theorem dX7_addTray_28 : decode cX7_addTray 28 = .ok (.aload_n 0, 1) := by decide +kernel
theorem dX7_addTray_29 : decode cX7_addTray 29 = .ok (.invokevirtual 131, 3) := by decide +kernel
theorem dX7_addTray_32 : decode cX7_addTray 32 = .ok (.aload_n 0, 1) := by decide +kernel
theorem dX7_addTray_33 : decode cX7_addTray 33 = .ok (.invokevirtual 150, 3) := by decide +kernel
theorem dX7_addTray_36 : decode cX7_addTray 36 = .ok (.ireturn, 1) := by decide +kernel
set_option maxRecDepth 20000 in
theorem ggX7_closes_X7_lettersOn : GoodIn wsX7_closes wsX7_lettersOn := goodIn_r _ [6, 7, 8, 9, 5, 10, 11, 12, 13, 14, 1, 19, 20, 21, 22, 23, 24, 25, 26, 27, 28, 29, 30, 31, 32, 33, 34] (by decide +kernel) (by decide +kernel)
set_option maxRecDepth 20000 in
theorem gX7_closes_X7_lettersOn : GoodIn wsX7_closes (wsV RX7 90 RX7 yX7_lettersOn wsX7_lettersOn) := goodIn_app (goodIn_of _ (by decide +kernel)) ggX7_closes_X7_lettersOn
set_option maxRecDepth 20000 in
theorem ggX7_closes_X7_isOn : GoodIn wsX7_closes wsX7_isOn := goodIn_r _ [10, 11, 12, 13, 5, 14, 1, 19, 20, 21, 22, 23, 24, 25, 26, 27, 28, 29, 30, 31, 32, 33, 34] (by decide +kernel) (by decide +kernel)
set_option maxRecDepth 20000 in
theorem gX7_closes_X7_isOn : GoodIn wsX7_closes (wsV RX7 55 RX7 yX7_isOn wsX7_isOn) := goodIn_app (goodIn_of _ (by decide +kernel)) ggX7_closes_X7_isOn
set_option maxRecDepth 20000 in
theorem ggX7_closes_X7_of : GoodIn wsX7_closes wsX7_of := goodIn_r _ [14, 1, 19, 20, 21, 22, 23, 24, 25, 26, 27, 28, 29, 30, 31, 32, 33, 34] (by decide +kernel) (by decide +kernel)
set_option maxRecDepth 20000 in
theorem gX7_closes_X7_of : GoodIn wsX7_closes (wsV RX7 40 RX7 yX7_of wsX7_of) := goodIn_app (goodIn_of _ (by decide +kernel)) ggX7_closes_X7_of
set_option maxRecDepth 20000 in
theorem ggX7_closes_X7_tall : GoodIn wsX7_closes wsX7_tall := goodIn_r _ [18, 1, 19, 20, 21, 22, 23, 24, 25, 26, 27, 28, 29, 30, 31, 32, 33, 34] (by decide +kernel) (by decide +kernel)
set_option maxRecDepth 20000 in
theorem gX7_closes_X7_tall : GoodIn wsX7_closes (wsV RX7 52 RX7 yX7_tall wsX7_tall) := goodIn_app (goodIn_of _ (by decide +kernel)) ggX7_closes_X7_tall
theorem dX7_closes_0 : decode cX7_closes 0 = .ok (.iconst 0, 1) := by decide +kernel
theorem dX7_closes_1 : decode cX7_closes 1 = .ok (.istore_n 1, 1) := by decide +kernel
theorem dX7_closes_2 : decode cX7_closes 2 = .ok (.iconst 0, 1) := by decide +kernel
theorem dX7_closes_3 : decode cX7_closes 3 = .ok (.istore_n 2, 1) := by decide +kernel
theorem dX7_closes_4 : decode cX7_closes 4 = .ok (.iload_n 2, 1) := by decide +kernel
theorem dX7_closes_5 : decode cX7_closes 5 = .ok (.aload_n 0, 1) := by decide +kernel
theorem dX7_closes_6 : decode cX7_closes 6 = .ok (.getfield 7, 3) := by decide +kernel
theorem dX7_closes_9 : decode cX7_closes 9 = .ok (.iconst 0, 1) := by decide +kernel
theorem dX7_closes_10 : decode cX7_closes 10 = .ok (.iaload, 1) := by decide +kernel
theorem dX7_closes_11 : decode cX7_closes 11 = .ok (.if_icmp .ge 163, 3) := by decide +kernel
theorem dX7_closes_14 : decode cX7_closes 14 = .ok (.iconst 0, 1) := by decide +kernel
theorem dX7_closes_15 : decode cX7_closes 15 = .ok (.istore_n 3, 1) := by decide +kernel
theorem dX7_closes_16 : decode cX7_closes 16 = .ok (.iconst 0, 1) := by decide +kernel
theorem dX7_closes_17 : decode cX7_closes 17 = .ok (.istore 4, 2) := by decide +kernel
theorem dX7_closes_19 : decode cX7_closes 19 = .ok (.iload 4, 2) := by decide +kernel
theorem dX7_closes_21 : decode cX7_closes 21 = .ok (.aload_n 0, 1) := by decide +kernel
theorem dX7_closes_22 : decode cX7_closes 22 = .ok (.getfield 7, 3) := by decide +kernel
theorem dX7_closes_25 : decode cX7_closes 25 = .ok (.bipush 44, 2) := by decide +kernel
theorem dX7_closes_27 : decode cX7_closes 27 = .ok (.iload_n 2, 1) := by decide +kernel
theorem dX7_closes_28 : decode cX7_closes 28 = .ok (.iadd, 1) := by decide +kernel
theorem dX7_closes_29 : decode cX7_closes 29 = .ok (.iaload, 1) := by decide +kernel
theorem dX7_closes_30 : decode cX7_closes 30 = .ok (.if_icmp .ge 128, 3) := by decide +kernel
theorem dX7_closes_33 : decode cX7_closes 33 = .ok (.aload_n 0, 1) := by decide +kernel
theorem dX7_closes_34 : decode cX7_closes 34 = .ok (.iload_n 2, 1) := by decide +kernel
theorem dX7_closes_35 : decode cX7_closes 35 = .ok (.iload 4, 2) := by decide +kernel
theorem dX7_closes_37 : decode cX7_closes 37 = .ok (.invokevirtual 90, 3) := by decide +kernel
theorem dX7_closes_40 : decode cX7_closes 40 = .ok (.ifCond .le 7, 3) := by decide +kernel
theorem dX7_closes_43 : decode cX7_closes 43 = .ok (.iconst 1, 1) := by decide +kernel
theorem dX7_closes_44 : decode cX7_closes 44 = .ok (.goto 4, 3) := by decide +kernel
theorem dX7_closes_47 : decode cX7_closes 47 = .ok (.iconst 0, 1) := by decide +kernel
theorem dX7_closes_48 : decode cX7_closes 48 = .ok (.istore 5, 2) := by decide +kernel
theorem dX7_closes_50 : decode cX7_closes 50 = .ok (.iconst 0, 1) := by decide +kernel
theorem dX7_closes_51 : decode cX7_closes 51 = .ok (.istore 6, 2) := by decide +kernel
theorem dX7_closes_53 : decode cX7_closes 53 = .ok (.iload 6, 2) := by decide +kernel
theorem dX7_closes_55 : decode cX7_closes 55 = .ok (.sipush 144, 3) := by decide +kernel
theorem dX7_closes_58 : decode cX7_closes 58 = .ok (.if_icmp .ge 47, 3) := by decide +kernel
theorem dX7_closes_61 : decode cX7_closes 61 = .ok (.aload_n 0, 1) := by decide +kernel
theorem dX7_closes_62 : decode cX7_closes 62 = .ok (.getfield 7, 3) := by decide +kernel
theorem dX7_closes_65 : decode cX7_closes 65 = .ok (.bipush 119, 2) := by decide +kernel
theorem dX7_closes_67 : decode cX7_closes 67 = .ok (.bipush 6, 2) := by decide +kernel
theorem dX7_closes_69 : decode cX7_closes 69 = .ok (.iload 6, 2) := by decide +kernel
theorem dX7_closes_71 : decode cX7_closes 71 = .ok (.imul, 1) := by decide +kernel
theorem dX7_closes_72 : decode cX7_closes 72 = .ok (.iadd, 1) := by decide +kernel
theorem dX7_closes_73 : decode cX7_closes 73 = .ok (.iconst 1, 1) := by decide +kernel
theorem dX7_closes_74 : decode cX7_closes 74 = .ok (.iadd, 1) := by decide +kernel
theorem dX7_closes_75 : decode cX7_closes 75 = .ok (.aload_n 0, 1) := by decide +kernel
theorem dX7_closes_76 : decode cX7_closes 76 = .ok (.iload 6, 2) := by decide +kernel
theorem dX7_closes_78 : decode cX7_closes 78 = .ok (.iload_n 2, 1) := by decide +kernel
theorem dX7_closes_79 : decode cX7_closes 79 = .ok (.iload 4, 2) := by decide +kernel
theorem dX7_closes_81 : decode cX7_closes 81 = .ok (.invokevirtual 55, 3) := by decide +kernel
theorem dX7_closes_84 : decode cX7_closes 84 = .ok (.ifCond .eq 7, 3) := by decide +kernel
theorem dX7_closes_87 : decode cX7_closes 87 = .ok (.iload_n 3, 1) := by decide +kernel
theorem dX7_closes_88 : decode cX7_closes 88 = .ok (.goto 10, 3) := by decide +kernel
theorem dX7_closes_91 : decode cX7_closes 91 = .ok (.aload_n 0, 1) := by decide +kernel
theorem dX7_closes_92 : decode cX7_closes 92 = .ok (.iload 6, 2) := by decide +kernel
theorem dX7_closes_94 : decode cX7_closes 94 = .ok (.iconst 1, 1) := by decide +kernel
theorem dX7_closes_95 : decode cX7_closes 95 = .ok (.invokevirtual 40, 3) := by decide +kernel
theorem dX7_closes_98 : decode cX7_closes 98 = .ok (.iastore, 1) := by decide +kernel
theorem dX7_closes_99 : decode cX7_closes 99 = .ok (.iinc 6 1, 3) := by decide +kernel
theorem dX7_closes_102 : decode cX7_closes 102 = .ok (.goto (-49), 3) := by decide +kernel
theorem dX7_closes_105 : decode cX7_closes 105 = .ok (.aload_n 0, 1) := by decide +kernel
theorem dX7_closes_106 : decode cX7_closes 106 = .ok (.getfield 7, 3) := by decide +kernel
theorem dX7_closes_109 : decode cX7_closes 109 = .ok (.bipush 47, 2) := by decide +kernel
theorem dX7_closes_111 : decode cX7_closes 111 = .ok (.bipush 24, 2) := by decide +kernel
theorem dX7_closes_113 : decode cX7_closes 113 = .ok (.iload_n 2, 1) := by decide +kernel
theorem dX7_closes_114 : decode cX7_closes 114 = .ok (.imul, 1) := by decide +kernel
theorem dX7_closes_115 : decode cX7_closes 115 = .ok (.iadd, 1) := by decide +kernel
theorem dX7_closes_116 : decode cX7_closes 116 = .ok (.iload_n 3, 1) := by decide +kernel
theorem dX7_closes_117 : decode cX7_closes 117 = .ok (.iadd, 1) := by decide +kernel
theorem dX7_closes_118 : decode cX7_closes 118 = .ok (.aload_n 0, 1) := by decide +kernel
theorem dX7_closes_119 : decode cX7_closes 119 = .ok (.iload_n 2, 1) := by decide +kernel
theorem dX7_closes_120 : decode cX7_closes 120 = .ok (.iload 4, 2) := by decide +kernel
theorem dX7_closes_122 : decode cX7_closes 122 = .ok (.invokevirtual 52, 3) := by decide +kernel
theorem dX7_closes_125 : decode cX7_closes 125 = .ok (.iastore, 1) := by decide +kernel
theorem dX7_closes_126 : decode cX7_closes 126 = .ok (.iload_n 3, 1) := by decide +kernel
theorem dX7_closes_127 : decode cX7_closes 127 = .ok (.iload 5, 2) := by decide +kernel
theorem dX7_closes_129 : decode cX7_closes 129 = .ok (.ifCond .eq 7, 3) := by decide +kernel
theorem dX7_closes_132 : decode cX7_closes 132 = .ok (.iconst 1, 1) := by decide +kernel
theorem dX7_closes_133 : decode cX7_closes 133 = .ok (.goto 4, 3) := by decide +kernel
theorem dX7_closes_136 : decode cX7_closes 136 = .ok (.iconst 0, 1) := by decide +kernel
theorem dX7_closes_137 : decode cX7_closes 137 = .ok (.iadd, 1) := by decide +kernel
theorem dX7_closes_138 : decode cX7_closes 138 = .ok (.istore_n 3, 1) := by decide +kernel
theorem dX7_closes_139 : decode cX7_closes 139 = .ok (.iload_n 1, 1) := by decide +kernel
theorem dX7_closes_140 : decode cX7_closes 140 = .ok (.iload 5, 2) := by decide +kernel
theorem dX7_closes_142 : decode cX7_closes 142 = .ok (.ifCond .eq 7, 3) := by decide +kernel
theorem dX7_closes_145 : decode cX7_closes 145 = .ok (.iconst 0, 1) := by decide +kernel
theorem dX7_closes_146 : decode cX7_closes 146 = .ok (.goto 4, 3) := by decide +kernel
theorem dX7_closes_149 : decode cX7_closes 149 = .ok (.iconst 1, 1) := by decide +kernel
theorem dX7_closes_150 : decode cX7_closes 150 = .ok (.iadd, 1) := by decide +kernel
theorem dX7_closes_151 : decode cX7_closes 151 = .ok (.istore_n 1, 1) := by decide +kernel
theorem dX7_closes_152 : decode cX7_closes 152 = .ok (.iinc 4 1, 3) := by decide +kernel
theorem dX7_closes_155 : decode cX7_closes 155 = .ok (.goto (-136), 3) := by decide +kernel
theorem dX7_closes_158 : decode cX7_closes 158 = .ok (.aload_n 0, 1) := by decide +kernel
theorem dX7_closes_159 : decode cX7_closes 159 = .ok (.getfield 7, 3) := by decide +kernel
theorem dX7_closes_162 : decode cX7_closes 162 = .ok (.bipush 44, 2) := by decide +kernel
theorem dX7_closes_164 : decode cX7_closes 164 = .ok (.iload_n 2, 1) := by decide +kernel
theorem dX7_closes_165 : decode cX7_closes 165 = .ok (.iadd, 1) := by decide +kernel
theorem dX7_closes_166 : decode cX7_closes 166 = .ok (.iload_n 3, 1) := by decide +kernel
theorem dX7_closes_167 : decode cX7_closes 167 = .ok (.iastore, 1) := by decide +kernel
theorem dX7_closes_168 : decode cX7_closes 168 = .ok (.iinc 2 1, 3) := by decide +kernel
theorem dX7_closes_171 : decode cX7_closes 171 = .ok (.goto (-167), 3) := by decide +kernel
theorem dX7_closes_174 : decode cX7_closes 174 = .ok (.iload_n 1, 1) := by decide +kernel
theorem dX7_closes_175 : decode cX7_closes 175 = .ok (.ireturn, 1) := by decide +kernel
set_option maxRecDepth 20000 in
theorem ggX7_closeShelves_X7_saves : GoodIn wsX7_closeShelves wsX7_saves := goodIn_r _ [6, 7, 8, 9, 30, 31, 32, 33, 34, 35, 36, 37, 38, 39, 40, 41, 42, 43, 44, 45] (by decide +kernel) (by decide +kernel)
set_option maxRecDepth 20000 in
theorem gX7_closeShelves_X7_saves : GoodIn wsX7_closeShelves (wsV RX7 131 RX7 yX7_saves wsX7_saves) := goodIn_app (goodIn_of _ (by decide +kernel)) ggX7_closeShelves_X7_saves
set_option maxRecDepth 20000 in
theorem ggX7_closeShelves_X7_closes : GoodIn wsX7_closeShelves wsX7_closes := goodIn_r _ [13, 9, 14, 15, 16, 5, 17, 18, 19, 20, 21, 22, 23, 24, 25, 26, 27, 28, 29, 30, 31, 32, 33, 34, 35, 36, 37, 38, 39, 40, 41, 42, 43, 44, 45] (by decide +kernel) (by decide +kernel)
set_option maxRecDepth 20000 in
theorem gX7_closeShelves_X7_closes : GoodIn wsX7_closeShelves (wsV RX7 153 RX7 yX7_closes wsX7_closes) := goodIn_app (goodIn_of _ (by decide +kernel)) ggX7_closeShelves_X7_closes
theorem dX7_closeShelves_0 : decode cX7_closeShelves 0 = .ok (.aload_n 0, 1) := by decide +kernel
theorem dX7_closeShelves_1 : decode cX7_closeShelves 1 = .ok (.iconst 0, 1) := by decide +kernel
theorem dX7_closeShelves_2 : decode cX7_closeShelves 2 = .ok (.putfield 26, 3) := by decide +kernel
theorem dX7_closeShelves_5 : decode cX7_closeShelves 5 = .ok (.aload_n 0, 1) := by decide +kernel
theorem dX7_closeShelves_6 : decode cX7_closeShelves 6 = .ok (.invokevirtual 131, 3) := by decide +kernel
theorem dX7_closeShelves_9 : decode cX7_closeShelves 9 = .ok (.aload_n 0, 1) := by decide +kernel
theorem dX7_closeShelves_10 : decode cX7_closeShelves 10 = .ok (.invokevirtual 153, 3) := by decide +kernel
theorem dX7_closeShelves_13 : decode cX7_closeShelves 13 = .ok (.ireturn, 1) := by decide +kernel
set_option maxRecDepth 20000 in
theorem ggX7_letterBy_X7_widthOf : GoodIn wsX7_letterBy wsX7_widthOf := goodIn_r _ [5, 6, 34, 35, 36, 37, 38, 39, 40, 41, 42, 43, 44, 45, 46, 47, 48, 49] (by decide +kernel) (by decide +kernel)
set_option maxRecDepth 20000 in
theorem gX7_letterBy_X7_widthOf : GoodIn wsX7_letterBy (wsV RX7 33 RX7 yX7_widthOf wsX7_widthOf) := goodIn_app (goodIn_of _ (by decide +kernel)) ggX7_letterBy_X7_widthOf
set_option maxRecDepth 20000 in
theorem ggX7_letterBy_X7_heightOf : GoodIn wsX7_letterBy wsX7_heightOf := goodIn_r _ [10, 6, 34, 35, 36, 37, 38, 39, 40, 41, 42, 43, 44, 45, 46, 47, 48, 49] (by decide +kernel) (by decide +kernel)
set_option maxRecDepth 20000 in
theorem gX7_letterBy_X7_heightOf : GoodIn wsX7_letterBy (wsV RX7 37 RX7 yX7_heightOf wsX7_heightOf) := goodIn_app (goodIn_of _ (by decide +kernel)) ggX7_letterBy_X7_heightOf
set_option maxRecDepth 20000 in
theorem ggX7_letterBy_X7_is : GoodIn wsX7_letterBy wsX7_is := goodIn_r _ [14, 15, 16, 17, 4, 18, 6, 34, 35, 36, 37, 38, 39, 40, 41, 42, 43, 44, 45, 46, 47, 48, 49] (by decide +kernel) (by decide +kernel)
set_option maxRecDepth 20000 in
theorem gX7_letterBy_X7_is : GoodIn wsX7_letterBy (wsV RX7 48 RX7 yX7_is wsX7_is) := goodIn_app (goodIn_of _ (by decide +kernel)) ggX7_letterBy_X7_is
set_option maxRecDepth 20000 in
theorem ggX7_letterBy_X7_isLaid : GoodIn wsX7_letterBy wsX7_isLaid := goodIn_r _ [22, 15, 16, 17, 4, 18, 6, 23, 24, 25, 34, 35, 36, 37, 38, 39, 40, 41, 42, 43, 44, 45, 46, 47, 48, 49] (by decide +kernel) (by decide +kernel)
set_option maxRecDepth 20000 in
theorem gX7_letterBy_X7_isLaid : GoodIn wsX7_letterBy (wsV RX7 156 RX7 yX7_isLaid wsX7_isLaid) := goodIn_app (goodIn_of _ (by decide +kernel)) ggX7_letterBy_X7_isLaid
set_option maxRecDepth 20000 in
theorem ggX7_letterBy_X7_of : GoodIn wsX7_letterBy wsX7_of := goodIn_r _ [18, 6, 34, 35, 36, 37, 38, 39, 40, 41, 42, 43, 44, 45, 46, 47, 48, 49] (by decide +kernel) (by decide +kernel)
set_option maxRecDepth 20000 in
theorem gX7_letterBy_X7_of : GoodIn wsX7_letterBy (wsV RX7 40 RX7 yX7_of wsX7_of) := goodIn_app (goodIn_of _ (by decide +kernel)) ggX7_letterBy_X7_of
set_option maxRecDepth 20000 in
theorem ggX7_letterBy_X7_top : GoodIn wsX7_letterBy wsX7_top := goodIn_r _ [29, 30, 31, 32, 4, 33, 6, 34, 35, 36, 37, 38, 39, 40, 41, 42, 43, 44, 45, 46, 47, 48, 49] (by decide +kernel) (by decide +kernel)
set_option maxRecDepth 20000 in
theorem gX7_letterBy_X7_top : GoodIn wsX7_letterBy (wsV RX7 80 RX7 yX7_top wsX7_top) := goodIn_app (goodIn_of _ (by decide +kernel)) ggX7_letterBy_X7_top
theorem dX7_letterBy_0 : decode cX7_letterBy 0 = .ok (.iload_n 2, 1) := by decide +kernel
theorem dX7_letterBy_1 : decode cX7_letterBy 1 = .ok (.iconst 3, 1) := by decide +kernel
theorem dX7_letterBy_2 : decode cX7_letterBy 2 = .ok (.if_icmp .eq 8, 3) := by decide +kernel
theorem dX7_letterBy_5 : decode cX7_letterBy 5 = .ok (.iload_n 2, 1) := by decide +kernel
theorem dX7_letterBy_6 : decode cX7_letterBy 6 = .ok (.iconst 4, 1) := by decide +kernel
theorem dX7_letterBy_7 : decode cX7_letterBy 7 = .ok (.if_icmp .ne 22, 3) := by decide +kernel
theorem dX7_letterBy_10 : decode cX7_letterBy 10 = .ok (.iload_n 2, 1) := by decide +kernel
theorem dX7_letterBy_11 : decode cX7_letterBy 11 = .ok (.iconst 3, 1) := by decide +kernel
theorem dX7_letterBy_12 : decode cX7_letterBy 12 = .ok (.if_icmp .ne 11, 3) := by decide +kernel
theorem dX7_letterBy_15 : decode cX7_letterBy 15 = .ok (.aload_n 0, 1) := by decide +kernel
theorem dX7_letterBy_16 : decode cX7_letterBy 16 = .ok (.iload_n 1, 1) := by decide +kernel
theorem dX7_letterBy_17 : decode cX7_letterBy 17 = .ok (.invokevirtual 33, 3) := by decide +kernel
theorem dX7_letterBy_20 : decode cX7_letterBy 20 = .ok (.goto 8, 3) := by decide +kernel
theorem dX7_letterBy_23 : decode cX7_letterBy 23 = .ok (.aload_n 0, 1) := by decide +kernel
theorem dX7_letterBy_24 : decode cX7_letterBy 24 = .ok (.iload_n 1, 1) := by decide +kernel
theorem dX7_letterBy_25 : decode cX7_letterBy 25 = .ok (.invokevirtual 37, 3) := by decide +kernel
theorem dX7_letterBy_28 : decode cX7_letterBy 28 = .ok (.ireturn, 1) := by decide +kernel
theorem dX7_letterBy_29 : decode cX7_letterBy 29 = .ok (.aload_n 0, 1) := by decide +kernel
theorem dX7_letterBy_30 : decode cX7_letterBy 30 = .ok (.iload_n 1, 1) := by decide +kernel
theorem dX7_letterBy_31 : decode cX7_letterBy 31 = .ok (.invokevirtual 48, 3) := by decide +kernel
theorem dX7_letterBy_34 : decode cX7_letterBy 34 = .ok (.ifCond .eq 22, 3) := by decide +kernel
theorem dX7_letterBy_37 : decode cX7_letterBy 37 = .ok (.aload_n 0, 1) := by decide +kernel
theorem dX7_letterBy_38 : decode cX7_letterBy 38 = .ok (.iload_n 1, 1) := by decide +kernel
theorem dX7_letterBy_39 : decode cX7_letterBy 39 = .ok (.invokevirtual 156, 3) := by decide +kernel
theorem dX7_letterBy_42 : decode cX7_letterBy 42 = .ok (.ifCond .ne 16, 3) := by decide +kernel
theorem dX7_letterBy_45 : decode cX7_letterBy 45 = .ok (.iload_n 2, 1) := by decide +kernel
theorem dX7_letterBy_46 : decode cX7_letterBy 46 = .ok (.iconst 3, 1) := by decide +kernel
theorem dX7_letterBy_47 : decode cX7_letterBy 47 = .ok (.if_icmp .lt 9, 3) := by decide +kernel
theorem dX7_letterBy_50 : decode cX7_letterBy 50 = .ok (.iload_n 2, 1) := by decide +kernel
theorem dX7_letterBy_51 : decode cX7_letterBy 51 = .ok (.bipush 8, 2) := by decide +kernel
theorem dX7_letterBy_53 : decode cX7_letterBy 53 = .ok (.if_icmp .ne 5, 3) := by decide +kernel
theorem dX7_letterBy_56 : decode cX7_letterBy 56 = .ok (.iconst (-1), 1) := by decide +kernel
theorem dX7_letterBy_57 : decode cX7_letterBy 57 = .ok (.ireturn, 1) := by decide +kernel
theorem dX7_letterBy_58 : decode cX7_letterBy 58 = .ok (.iload_n 2, 1) := by decide +kernel
theorem dX7_letterBy_59 : decode cX7_letterBy 59 = .ok (.tableswitch 87 0 8 #[49, 56, 63, 87, 87, 87, 87, 87, 80], 49) := by decide +kernel
theorem dX7_letterBy_108 : decode cX7_letterBy 108 = .ok (.aload_n 0, 1) := by decide +kernel
theorem dX7_letterBy_109 : decode cX7_letterBy 109 = .ok (.iload_n 1, 1) := by decide +kernel
theorem dX7_letterBy_110 : decode cX7_letterBy 110 = .ok (.iconst 0, 1) := by decide +kernel
theorem dX7_letterBy_111 : decode cX7_letterBy 111 = .ok (.invokevirtual 40, 3) := by decide +kernel
theorem dX7_letterBy_114 : decode cX7_letterBy 114 = .ok (.ireturn, 1) := by decide +kernel
theorem dX7_letterBy_115 : decode cX7_letterBy 115 = .ok (.aload_n 0, 1) := by decide +kernel
theorem dX7_letterBy_116 : decode cX7_letterBy 116 = .ok (.iload_n 1, 1) := by decide +kernel
theorem dX7_letterBy_117 : decode cX7_letterBy 117 = .ok (.iconst 2, 1) := by decide +kernel
theorem dX7_letterBy_118 : decode cX7_letterBy 118 = .ok (.invokevirtual 40, 3) := by decide +kernel
theorem dX7_letterBy_121 : decode cX7_letterBy 121 = .ok (.ireturn, 1) := by decide +kernel
theorem dX7_letterBy_122 : decode cX7_letterBy 122 = .ok (.aload_n 0, 1) := by decide +kernel
theorem dX7_letterBy_123 : decode cX7_letterBy 123 = .ok (.aload_n 0, 1) := by decide +kernel
theorem dX7_letterBy_124 : decode cX7_letterBy 124 = .ok (.iload_n 1, 1) := by decide +kernel
theorem dX7_letterBy_125 : decode cX7_letterBy 125 = .ok (.iconst 0, 1) := by decide +kernel
theorem dX7_letterBy_126 : decode cX7_letterBy 126 = .ok (.invokevirtual 40, 3) := by decide +kernel
theorem dX7_letterBy_129 : decode cX7_letterBy 129 = .ok (.aload_n 0, 1) := by decide +kernel
theorem dX7_letterBy_130 : decode cX7_letterBy 130 = .ok (.iload_n 1, 1) := by decide +kernel
theorem dX7_letterBy_131 : decode cX7_letterBy 131 = .ok (.iconst 1, 1) := by decide +kernel
theorem dX7_letterBy_132 : decode cX7_letterBy 132 = .ok (.invokevirtual 40, 3) := by decide +kernel
theorem dX7_letterBy_135 : decode cX7_letterBy 135 = .ok (.invokevirtual 80, 3) := by decide +kernel
theorem dX7_letterBy_138 : decode cX7_letterBy 138 = .ok (.ireturn, 1) := by decide +kernel
theorem dX7_letterBy_139 : decode cX7_letterBy 139 = .ok (.aload_n 0, 1) := by decide +kernel
theorem dX7_letterBy_140 : decode cX7_letterBy 140 = .ok (.iload_n 1, 1) := by decide +kernel
theorem dX7_letterBy_141 : decode cX7_letterBy 141 = .ok (.iconst 1, 1) := by decide +kernel
theorem dX7_letterBy_142 : decode cX7_letterBy 142 = .ok (.invokevirtual 40, 3) := by decide +kernel
theorem dX7_letterBy_145 : decode cX7_letterBy 145 = .ok (.ireturn, 1) := by decide +kernel
theorem dX7_letterBy_146 : decode cX7_letterBy 146 = .ok (.aload_n 0, 1) := by decide +kernel
theorem dX7_letterBy_147 : decode cX7_letterBy 147 = .ok (.iload_n 1, 1) := by decide +kernel
theorem dX7_letterBy_148 : decode cX7_letterBy 148 = .ok (.iload_n 2, 1) := by decide +kernel
theorem dX7_letterBy_149 : decode cX7_letterBy 149 = .ok (.iconst 2, 1) := by decide +kernel
theorem dX7_letterBy_150 : decode cX7_letterBy 150 = .ok (.isub, 1) := by decide +kernel
theorem dX7_letterBy_151 : decode cX7_letterBy 151 = .ok (.invokevirtual 40, 3) := by decide +kernel
theorem dX7_letterBy_154 : decode cX7_letterBy 154 = .ok (.ireturn, 1) := by decide +kernel
set_option maxRecDepth 20000 in
theorem ggX7_letter_X7_bars : GoodIn wsX7_letter wsX7_bars := goodIn_r _ [5, 6, 7, 4, 8] (by decide +kernel) (by decide +kernel)
set_option maxRecDepth 20000 in
theorem gX7_letter_X7_bars : GoodIn wsX7_letter (va_wsS RX7 137 yX7_bars wsX7_bars) := goodIn_app (goodIn_of _ (by decide +kernel)) ggX7_letter_X7_bars
set_option maxRecDepth 20000 in
theorem ggX7_letter_X7_in : GoodIn wsX7_letter wsX7_in := goodIn_r _ [8] (by decide +kernel) (by decide +kernel)
set_option maxRecDepth 20000 in
theorem gX7_letter_X7_in : GoodIn wsX7_letter (va_wsS RX7 44 yX7_in wsX7_in) := goodIn_app (goodIn_of _ (by decide +kernel)) ggX7_letter_X7_in
set_option maxRecDepth 20000 in
theorem ggX7_letter_X7_number : GoodIn wsX7_letter wsX7_number := goodIn_r _ [11] (by decide +kernel) (by decide +kernel)
set_option maxRecDepth 20000 in
theorem gX7_letter_X7_number : GoodIn wsX7_letter (va_wsS RX7 140 yX7_number wsX7_number) := goodIn_app (goodIn_of _ (by decide +kernel)) ggX7_letter_X7_number
set_option maxRecDepth 20000 in
theorem ggX7_letter_X7_letterBy : GoodIn wsX7_letter wsX7_letterBy := goodIn_r _ [15, 16, 17, 18, 4, 19, 20, 21, 22, 23, 24, 25, 26, 27, 28, 29, 30, 31, 32, 33, 34, 35, 36, 6, 7, 8, 37, 38, 39, 40, 41, 42, 43, 44, 45, 46, 47, 48, 49, 50, 51, 52, 53, 54, 55, 56, 57, 58, 59, 60] (by decide +kernel) (by decide +kernel)
set_option maxRecDepth 20000 in
theorem gX7_letter_X7_letterBy : GoodIn wsX7_letter (wsV RX7 159 RX7 yX7_letterBy wsX7_letterBy) := goodIn_app (goodIn_of _ (by decide +kernel)) ggX7_letter_X7_letterBy
theorem dX7_letter_0 : decode cX7_letter 0 = .ok (.aload_n 0, 1) := by decide +kernel
theorem dX7_letter_1 : decode cX7_letter 1 = .ok (.iload_n 1, 1) := by decide +kernel
theorem dX7_letter_2 : decode cX7_letter 2 = .ok (.iload_n 2, 1) := by decide +kernel
theorem dX7_letter_3 : decode cX7_letter 3 = .ok (.iload_n 3, 1) := by decide +kernel
theorem dX7_letter_4 : decode cX7_letter 4 = .ok (.invokestatic 137, 3) := by decide +kernel
theorem dX7_letter_7 : decode cX7_letter 7 = .ok (.putfield 26, 3) := by decide +kernel
theorem dX7_letter_10 : decode cX7_letter 10 = .ok (.aload_n 0, 1) := by decide +kernel
theorem dX7_letter_11 : decode cX7_letter 11 = .ok (.aload_n 0, 1) := by decide +kernel
theorem dX7_letter_12 : decode cX7_letter 12 = .ok (.getfield 26, 3) := by decide +kernel
theorem dX7_letter_15 : decode cX7_letter 15 = .ok (.ifCond .ne 18, 3) := by decide +kernel
theorem dX7_letter_18 : decode cX7_letter 18 = .ok (.iload 4, 2) := by decide +kernel
theorem dX7_letter_20 : decode cX7_letter 20 = .ok (.iconst 0, 1) := by decide +kernel
theorem dX7_letter_21 : decode cX7_letter 21 = .ok (.bipush 8, 2) := by decide +kernel
theorem dX7_letter_23 : decode cX7_letter 23 = .ok (.invokestatic 44, 3) := by decide +kernel
theorem dX7_letter_26 : decode cX7_letter 26 = .ok (.ifCond .ne 7, 3) := by decide +kernel
theorem dX7_letter_29 : decode cX7_letter 29 = .ok (.iconst 2, 1) := by decide +kernel
theorem dX7_letter_30 : decode cX7_letter 30 = .ok (.goto 7, 3) := by decide +kernel
theorem dX7_letter_33 : decode cX7_letter 33 = .ok (.aload_n 0, 1) := by decide +kernel
theorem dX7_letter_34 : decode cX7_letter 34 = .ok (.getfield 26, 3) := by decide +kernel
theorem dX7_letter_37 : decode cX7_letter 37 = .ok (.putfield 26, 3) := by decide +kernel
theorem dX7_letter_40 : decode cX7_letter 40 = .ok (.aload_n 0, 1) := by decide +kernel
theorem dX7_letter_41 : decode cX7_letter 41 = .ok (.getfield 26, 3) := by decide +kernel
theorem dX7_letter_44 : decode cX7_letter 44 = .ok (.ifCond .le 7, 3) := by decide +kernel
theorem dX7_letter_47 : decode cX7_letter 47 = .ok (.iconst 0, 1) := by decide +kernel
theorem dX7_letter_48 : decode cX7_letter 48 = .ok (.goto 15, 3) := by decide +kernel
theorem dX7_letter_51 : decode cX7_letter 51 = .ok (.aload_n 0, 1) := by decide +kernel
theorem dX7_letter_52 : decode cX7_letter 52 = .ok (.iload_n 1, 1) := by decide +kernel
theorem dX7_letter_53 : decode cX7_letter 53 = .ok (.iload_n 2, 1) := by decide +kernel
theorem dX7_letter_54 : decode cX7_letter 54 = .ok (.iload_n 3, 1) := by decide +kernel
theorem dX7_letter_55 : decode cX7_letter 55 = .ok (.invokestatic 140, 3) := by decide +kernel
theorem dX7_letter_58 : decode cX7_letter 58 = .ok (.iload 4, 2) := by decide +kernel
theorem dX7_letter_60 : decode cX7_letter 60 = .ok (.invokevirtual 159, 3) := by decide +kernel
theorem dX7_letter_63 : decode cX7_letter 63 = .ok (.ireturn, 1) := by decide +kernel
set_option maxRecDepth 20000 in
theorem ggX7_signBy_X7_is : GoodIn wsX7_signBy wsX7_is := goodIn_r _ [6, 7, 8, 9, 5, 10, 1, 18, 19, 20, 21, 22, 23, 24, 25, 26, 27, 28, 29, 30, 31, 32, 33] (by decide +kernel) (by decide +kernel)
set_option maxRecDepth 20000 in
theorem gX7_signBy_X7_is : GoodIn wsX7_signBy (wsV RX7 48 RX7 yX7_is wsX7_is) := goodIn_app (goodIn_of _ (by decide +kernel)) ggX7_signBy_X7_is
set_option maxRecDepth 20000 in
theorem ggX7_signBy_X7_isLaid : GoodIn wsX7_signBy wsX7_isLaid := goodIn_r _ [14, 7, 8, 9, 5, 10, 1, 15, 16, 17, 18, 19, 20, 21, 22, 23, 24, 25, 26, 27, 28, 29, 30, 31, 32, 33] (by decide +kernel) (by decide +kernel)
set_option maxRecDepth 20000 in
theorem gX7_signBy_X7_isLaid : GoodIn wsX7_signBy (wsV RX7 156 RX7 yX7_isLaid wsX7_isLaid) := goodIn_app (goodIn_of _ (by decide +kernel)) ggX7_signBy_X7_isLaid
theorem dX7_signBy_0 : decode cX7_signBy 0 = .ok (.iload_n 2, 1) := by decide +kernel
theorem dX7_signBy_1 : decode cX7_signBy 1 = .ok (.iconst 2, 1) := by decide +kernel
theorem dX7_signBy_2 : decode cX7_signBy 2 = .ok (.if_icmp .ge 22, 3) := by decide +kernel
theorem dX7_signBy_5 : decode cX7_signBy 5 = .ok (.aload_n 0, 1) := by decide +kernel
theorem dX7_signBy_6 : decode cX7_signBy 6 = .ok (.getfield 7, 3) := by decide +kernel
theorem dX7_signBy_9 : decode cX7_signBy 9 = .ok (.iload_n 2, 1) := by decide +kernel
theorem dX7_signBy_10 : decode cX7_signBy 10 = .ok (.ifCond .ne 8, 3) := by decide +kernel
theorem dX7_signBy_13 : decode cX7_signBy 13 = .ok (.bipush 12, 2) := by decide +kernel
theorem dX7_signBy_15 : decode cX7_signBy 15 = .ok (.goto 5, 3) := by decide +kernel
theorem dX7_signBy_18 : decode cX7_signBy 18 = .ok (.bipush 28, 2) := by decide +kernel
theorem dX7_signBy_20 : decode cX7_signBy 20 = .ok (.iload_n 1, 1) := by decide +kernel
theorem dX7_signBy_21 : decode cX7_signBy 21 = .ok (.iadd, 1) := by decide +kernel
theorem dX7_signBy_22 : decode cX7_signBy 22 = .ok (.iaload, 1) := by decide +kernel
theorem dX7_signBy_23 : decode cX7_signBy 23 = .ok (.ireturn, 1) := by decide +kernel
theorem dX7_signBy_24 : decode cX7_signBy 24 = .ok (.iconst 0, 1) := by decide +kernel
theorem dX7_signBy_25 : decode cX7_signBy 25 = .ok (.istore_n 3, 1) := by decide +kernel
theorem dX7_signBy_26 : decode cX7_signBy 26 = .ok (.bipush 9, 2) := by decide +kernel
theorem dX7_signBy_28 : decode cX7_signBy 28 = .ok (.iload_n 1, 1) := by decide +kernel
theorem dX7_signBy_29 : decode cX7_signBy 29 = .ok (.imul, 1) := by decide +kernel
theorem dX7_signBy_30 : decode cX7_signBy 30 = .ok (.istore 4, 2) := by decide +kernel
theorem dX7_signBy_32 : decode cX7_signBy 32 = .ok (.iload 4, 2) := by decide +kernel
theorem dX7_signBy_34 : decode cX7_signBy 34 = .ok (.bipush 9, 2) := by decide +kernel
theorem dX7_signBy_36 : decode cX7_signBy 36 = .ok (.iload_n 1, 1) := by decide +kernel
theorem dX7_signBy_37 : decode cX7_signBy 37 = .ok (.imul, 1) := by decide +kernel
theorem dX7_signBy_38 : decode cX7_signBy 38 = .ok (.bipush 9, 2) := by decide +kernel
theorem dX7_signBy_40 : decode cX7_signBy 40 = .ok (.iadd, 1) := by decide +kernel
theorem dX7_signBy_41 : decode cX7_signBy 41 = .ok (.if_icmp .ge 45, 3) := by decide +kernel
theorem dX7_signBy_44 : decode cX7_signBy 44 = .ok (.iload_n 3, 1) := by decide +kernel
theorem dX7_signBy_45 : decode cX7_signBy 45 = .ok (.aload_n 0, 1) := by decide +kernel
theorem dX7_signBy_46 : decode cX7_signBy 46 = .ok (.iload 4, 2) := by decide +kernel
theorem dX7_signBy_48 : decode cX7_signBy 48 = .ok (.invokevirtual 48, 3) := by decide +kernel
theorem dX7_signBy_51 : decode cX7_signBy 51 = .ok (.ifCond .eq 26, 3) := by decide +kernel
theorem dX7_signBy_54 : decode cX7_signBy 54 = .ok (.aload_n 0, 1) := by decide +kernel
theorem dX7_signBy_55 : decode cX7_signBy 55 = .ok (.iload 4, 2) := by decide +kernel
theorem dX7_signBy_57 : decode cX7_signBy 57 = .ok (.invokevirtual 156, 3) := by decide +kernel
theorem dX7_signBy_60 : decode cX7_signBy 60 = .ok (.iload_n 2, 1) := by decide +kernel
theorem dX7_signBy_61 : decode cX7_signBy 61 = .ok (.iconst 2, 1) := by decide +kernel
theorem dX7_signBy_62 : decode cX7_signBy 62 = .ok (.if_icmp .ne 7, 3) := by decide +kernel
theorem dX7_signBy_65 : decode cX7_signBy 65 = .ok (.iconst 1, 1) := by decide +kernel
theorem dX7_signBy_66 : decode cX7_signBy 66 = .ok (.goto 4, 3) := by decide +kernel
theorem dX7_signBy_69 : decode cX7_signBy 69 = .ok (.iconst 0, 1) := by decide +kernel
theorem dX7_signBy_70 : decode cX7_signBy 70 = .ok (.if_icmp .ne 7, 3) := by decide +kernel
theorem dX7_signBy_73 : decode cX7_signBy 73 = .ok (.iconst 1, 1) := by decide +kernel
theorem dX7_signBy_74 : decode cX7_signBy 74 = .ok (.goto 4, 3) := by decide +kernel
theorem dX7_signBy_77 : decode cX7_signBy 77 = .ok (.iconst 0, 1) := by decide +kernel
theorem dX7_signBy_78 : decode cX7_signBy 78 = .ok (.iadd, 1) := by decide +kernel
theorem dX7_signBy_79 : decode cX7_signBy 79 = .ok (.istore_n 3, 1) := by decide +kernel
theorem dX7_signBy_80 : decode cX7_signBy 80 = .ok (.iinc 4 1, 3) := by decide +kernel
theorem dX7_signBy_83 : decode cX7_signBy 83 = .ok (.goto (-51), 3) := by decide +kernel
theorem dX7_signBy_86 : decode cX7_signBy 86 = .ok (.iload_n 3, 1) := by decide +kernel
theorem dX7_signBy_87 : decode cX7_signBy 87 = .ok (.ireturn, 1) := by decide +kernel
set_option maxRecDepth 20000 in
theorem ggX7_sign_X7_in : GoodIn wsX7_sign wsX7_in := goodIn_r _ [5] (by decide +kernel) (by decide +kernel)
set_option maxRecDepth 20000 in
theorem gX7_sign_X7_in : GoodIn wsX7_sign (va_wsS RX7 44 yX7_in wsX7_in) := goodIn_app (goodIn_of _ (by decide +kernel)) ggX7_sign_X7_in
set_option maxRecDepth 20000 in
theorem ggX7_sign_X7_signBy : GoodIn wsX7_sign wsX7_signBy := goodIn_r _ [9, 10, 11, 12, 13, 4, 14, 15, 16, 17, 18, 19, 20, 21, 22, 2, 3, 5, 23, 24, 25, 26, 27, 28, 29, 30, 31, 32, 33, 34, 35, 36, 37, 38] (by decide +kernel) (by decide +kernel)
set_option maxRecDepth 20000 in
theorem gX7_sign_X7_signBy : GoodIn wsX7_sign (wsV RX7 162 RX7 yX7_signBy wsX7_signBy) := goodIn_app (goodIn_of _ (by decide +kernel)) ggX7_sign_X7_signBy
theorem dX7_sign_0 : decode cX7_sign 0 = .ok (.aload_n 0, 1) := by decide +kernel
theorem dX7_sign_1 : decode cX7_sign 1 = .ok (.iload_n 1, 1) := by decide +kernel
theorem dX7_sign_2 : decode cX7_sign 2 = .ok (.iconst 0, 1) := by decide +kernel
theorem dX7_sign_3 : decode cX7_sign 3 = .ok (.bipush 15, 2) := by decide +kernel
theorem dX7_sign_5 : decode cX7_sign 5 = .ok (.invokestatic 44, 3) := by decide +kernel
theorem dX7_sign_8 : decode cX7_sign 8 = .ok (.ifCond .ne 7, 3) := by decide +kernel
theorem dX7_sign_11 : decode cX7_sign 11 = .ok (.iconst 1, 1) := by decide +kernel
theorem dX7_sign_12 : decode cX7_sign 12 = .ok (.goto 17, 3) := by decide +kernel
theorem dX7_sign_15 : decode cX7_sign 15 = .ok (.iload_n 2, 1) := by decide +kernel
theorem dX7_sign_16 : decode cX7_sign 16 = .ok (.iconst 0, 1) := by decide +kernel
theorem dX7_sign_17 : decode cX7_sign 17 = .ok (.iconst 3, 1) := by decide +kernel
theorem dX7_sign_18 : decode cX7_sign 18 = .ok (.invokestatic 44, 3) := by decide +kernel
theorem dX7_sign_21 : decode cX7_sign 21 = .ok (.ifCond .ne 7, 3) := by decide +kernel
theorem dX7_sign_24 : decode cX7_sign 24 = .ok (.iconst 2, 1) := by decide +kernel
theorem dX7_sign_25 : decode cX7_sign 25 = .ok (.goto 4, 3) := by decide +kernel
theorem dX7_sign_28 : decode cX7_sign 28 = .ok (.iconst 0, 1) := by decide +kernel
theorem dX7_sign_29 : decode cX7_sign 29 = .ok (.putfield 26, 3) := by decide +kernel
theorem dX7_sign_32 : decode cX7_sign 32 = .ok (.aload_n 0, 1) := by decide +kernel
theorem dX7_sign_33 : decode cX7_sign 33 = .ok (.getfield 26, 3) := by decide +kernel
theorem dX7_sign_36 : decode cX7_sign 36 = .ok (.ifCond .le 7, 3) := by decide +kernel
theorem dX7_sign_39 : decode cX7_sign 39 = .ok (.iconst 0, 1) := by decide +kernel
theorem dX7_sign_40 : decode cX7_sign 40 = .ok (.goto 9, 3) := by decide +kernel
theorem dX7_sign_43 : decode cX7_sign 43 = .ok (.aload_n 0, 1) := by decide +kernel
theorem dX7_sign_44 : decode cX7_sign 44 = .ok (.iload_n 1, 1) := by decide +kernel
theorem dX7_sign_45 : decode cX7_sign 45 = .ok (.iload_n 2, 1) := by decide +kernel
theorem dX7_sign_46 : decode cX7_sign 46 = .ok (.invokevirtual 162, 3) := by decide +kernel
theorem dX7_sign_49 : decode cX7_sign 49 = .ok (.ireturn, 1) := by decide +kernel
set_option maxRecDepth 20000 in
theorem ggX7_trayBy_X7_of : GoodIn wsX7_trayBy wsX7_of := goodIn_r _ [6, 1, 27, 28, 29, 30, 31, 32, 33, 34, 35, 36, 37, 38, 39, 40, 41, 42] (by decide +kernel) (by decide +kernel)
set_option maxRecDepth 20000 in
theorem gX7_trayBy_X7_of : GoodIn wsX7_trayBy (wsV RX7 40 RX7 yX7_of wsX7_of) := goodIn_app (goodIn_of _ (by decide +kernel)) ggX7_trayBy_X7_of
set_option maxRecDepth 20000 in
theorem ggX7_trayBy_X7_areaOf : GoodIn wsX7_trayBy wsX7_areaOf := goodIn_r _ [10, 11, 12, 13, 5, 14, 1, 15, 16, 17, 18, 27, 28, 29, 30, 31, 32, 33, 34, 35, 36, 37, 38, 39, 40, 41, 42] (by decide +kernel) (by decide +kernel)
set_option maxRecDepth 20000 in
theorem gX7_trayBy_X7_areaOf : GoodIn wsX7_trayBy (wsV RX7 112 RX7 yX7_areaOf wsX7_areaOf) := goodIn_app (goodIn_of _ (by decide +kernel)) ggX7_trayBy_X7_areaOf
set_option maxRecDepth 20000 in
theorem ggX7_trayBy_X7_top : GoodIn wsX7_trayBy wsX7_top := goodIn_r _ [22, 23, 24, 25, 5, 26, 1, 27, 28, 29, 30, 31, 32, 33, 34, 35, 36, 37, 38, 39, 40, 41, 42] (by decide +kernel) (by decide +kernel)
set_option maxRecDepth 20000 in
theorem gX7_trayBy_X7_top : GoodIn wsX7_trayBy (wsV RX7 80 RX7 yX7_top wsX7_top) := goodIn_app (goodIn_of _ (by decide +kernel)) ggX7_trayBy_X7_top
theorem dX7_trayBy_0 : decode cX7_trayBy 0 = .ok (.iconst 0, 1) := by decide +kernel
theorem dX7_trayBy_1 : decode cX7_trayBy 1 = .ok (.istore_n 3, 1) := by decide +kernel
theorem dX7_trayBy_2 : decode cX7_trayBy 2 = .ok (.iconst 0, 1) := by decide +kernel
theorem dX7_trayBy_3 : decode cX7_trayBy 3 = .ok (.istore 4, 2) := by decide +kernel
theorem dX7_trayBy_5 : decode cX7_trayBy 5 = .ok (.iload 4, 2) := by decide +kernel
theorem dX7_trayBy_7 : decode cX7_trayBy 7 = .ok (.sipush 144, 3) := by decide +kernel
theorem dX7_trayBy_10 : decode cX7_trayBy 10 = .ok (.if_icmp .ge 42, 3) := by decide +kernel
theorem dX7_trayBy_13 : decode cX7_trayBy 13 = .ok (.iload_n 3, 1) := by decide +kernel
theorem dX7_trayBy_14 : decode cX7_trayBy 14 = .ok (.aload_n 0, 1) := by decide +kernel
theorem dX7_trayBy_15 : decode cX7_trayBy 15 = .ok (.iload 4, 2) := by decide +kernel
theorem dX7_trayBy_17 : decode cX7_trayBy 17 = .ok (.iconst 0, 1) := by decide +kernel
theorem dX7_trayBy_18 : decode cX7_trayBy 18 = .ok (.invokevirtual 40, 3) := by decide +kernel
theorem dX7_trayBy_21 : decode cX7_trayBy 21 = .ok (.iload_n 1, 1) := by decide +kernel
theorem dX7_trayBy_22 : decode cX7_trayBy 22 = .ok (.if_icmp .eq 7, 3) := by decide +kernel
theorem dX7_trayBy_25 : decode cX7_trayBy 25 = .ok (.iconst 0, 1) := by decide +kernel
theorem dX7_trayBy_26 : decode cX7_trayBy 26 = .ok (.goto 18, 3) := by decide +kernel
theorem dX7_trayBy_29 : decode cX7_trayBy 29 = .ok (.iload_n 2, 1) := by decide +kernel
theorem dX7_trayBy_30 : decode cX7_trayBy 30 = .ok (.iconst 2, 1) := by decide +kernel
theorem dX7_trayBy_31 : decode cX7_trayBy 31 = .ok (.if_icmp .ne 7, 3) := by decide +kernel
theorem dX7_trayBy_34 : decode cX7_trayBy 34 = .ok (.iconst 1, 1) := by decide +kernel
theorem dX7_trayBy_35 : decode cX7_trayBy 35 = .ok (.goto 9, 3) := by decide +kernel
theorem dX7_trayBy_38 : decode cX7_trayBy 38 = .ok (.aload_n 0, 1) := by decide +kernel
theorem dX7_trayBy_39 : decode cX7_trayBy 39 = .ok (.iload 4, 2) := by decide +kernel
theorem dX7_trayBy_41 : decode cX7_trayBy 41 = .ok (.invokevirtual 112, 3) := by decide +kernel
theorem dX7_trayBy_44 : decode cX7_trayBy 44 = .ok (.iadd, 1) := by decide +kernel
theorem dX7_trayBy_45 : decode cX7_trayBy 45 = .ok (.istore_n 3, 1) := by decide +kernel
theorem dX7_trayBy_46 : decode cX7_trayBy 46 = .ok (.iinc 4 1, 3) := by decide +kernel
theorem dX7_trayBy_49 : decode cX7_trayBy 49 = .ok (.goto (-44), 3) := by decide +kernel
theorem dX7_trayBy_52 : decode cX7_trayBy 52 = .ok (.iload_n 2, 1) := by decide +kernel
theorem dX7_trayBy_53 : decode cX7_trayBy 53 = .ok (.ifCond .ne 15, 3) := by decide +kernel
theorem dX7_trayBy_56 : decode cX7_trayBy 56 = .ok (.aload_n 0, 1) := by decide +kernel
theorem dX7_trayBy_57 : decode cX7_trayBy 57 = .ok (.getfield 7, 3) := by decide +kernel
theorem dX7_trayBy_60 : decode cX7_trayBy 60 = .ok (.bipush 44, 2) := by decide +kernel
theorem dX7_trayBy_62 : decode cX7_trayBy 62 = .ok (.iload_n 1, 1) := by decide +kernel
theorem dX7_trayBy_63 : decode cX7_trayBy 63 = .ok (.iadd, 1) := by decide +kernel
theorem dX7_trayBy_64 : decode cX7_trayBy 64 = .ok (.iaload, 1) := by decide +kernel
theorem dX7_trayBy_65 : decode cX7_trayBy 65 = .ok (.goto 26, 3) := by decide +kernel
theorem dX7_trayBy_68 : decode cX7_trayBy 68 = .ok (.iload_n 2, 1) := by decide +kernel
theorem dX7_trayBy_69 : decode cX7_trayBy 69 = .ok (.iconst 1, 1) := by decide +kernel
theorem dX7_trayBy_70 : decode cX7_trayBy 70 = .ok (.if_icmp .ne 20, 3) := by decide +kernel
theorem dX7_trayBy_73 : decode cX7_trayBy 73 = .ok (.aload_n 0, 1) := by decide +kernel
theorem dX7_trayBy_74 : decode cX7_trayBy 74 = .ok (.iload_n 1, 1) := by decide +kernel
theorem dX7_trayBy_75 : decode cX7_trayBy 75 = .ok (.aload_n 0, 1) := by decide +kernel
theorem dX7_trayBy_76 : decode cX7_trayBy 76 = .ok (.getfield 7, 3) := by decide +kernel
theorem dX7_trayBy_79 : decode cX7_trayBy 79 = .ok (.bipush 44, 2) := by decide +kernel
theorem dX7_trayBy_81 : decode cX7_trayBy 81 = .ok (.iload_n 1, 1) := by decide +kernel
theorem dX7_trayBy_82 : decode cX7_trayBy 82 = .ok (.iadd, 1) := by decide +kernel
theorem dX7_trayBy_83 : decode cX7_trayBy 83 = .ok (.iaload, 1) := by decide +kernel
theorem dX7_trayBy_84 : decode cX7_trayBy 84 = .ok (.invokevirtual 80, 3) := by decide +kernel
theorem dX7_trayBy_87 : decode cX7_trayBy 87 = .ok (.goto 4, 3) := by decide +kernel
theorem dX7_trayBy_90 : decode cX7_trayBy 90 = .ok (.iload_n 3, 1) := by decide +kernel
theorem dX7_trayBy_91 : decode cX7_trayBy 91 = .ok (.ireturn, 1) := by decide +kernel
set_option maxRecDepth 20000 in
theorem ggX7_isTray_X7_in : GoodIn wsX7_isTray wsX7_in := goodIn_r _ [5] (by decide +kernel) (by decide +kernel)
set_option maxRecDepth 20000 in
theorem gX7_isTray_X7_in : GoodIn wsX7_isTray (va_wsS RX7 44 yX7_in wsX7_in) := goodIn_app (goodIn_of _ (by decide +kernel)) ggX7_isTray_X7_in
theorem dX7_isTray_0 : decode cX7_isTray 0 = .ok (.iload_n 1, 1) := by decide +kernel
theorem dX7_isTray_1 : decode cX7_isTray 1 = .ok (.iconst 0, 1) := by decide +kernel
theorem dX7_isTray_2 : decode cX7_isTray 2 = .ok (.aload_n 0, 1) := by decide +kernel
theorem dX7_isTray_3 : decode cX7_isTray 3 = .ok (.getfield 7, 3) := by decide +kernel
theorem dX7_isTray_6 : decode cX7_isTray 6 = .ok (.iconst 0, 1) := by decide +kernel
theorem dX7_isTray_7 : decode cX7_isTray 7 = .ok (.iaload, 1) := by decide +kernel
theorem dX7_isTray_8 : decode cX7_isTray 8 = .ok (.iconst 1, 1) := by decide +kernel
theorem dX7_isTray_9 : decode cX7_isTray 9 = .ok (.isub, 1) := by decide +kernel
theorem dX7_isTray_10 : decode cX7_isTray 10 = .ok (.invokestatic 44, 3) := by decide +kernel
theorem dX7_isTray_13 : decode cX7_isTray 13 = .ok (.ireturn, 1) := by decide +kernel
set_option maxRecDepth 20000 in
theorem ggX7_tray_X7_isTray : GoodIn wsX7_tray wsX7_isTray := goodIn_r _ [6, 7, 8, 9, 5, 10, 39, 40, 41, 42, 43, 44, 45, 46, 47, 48, 49, 50, 51, 52, 53, 54] (by decide +kernel) (by decide +kernel)
set_option maxRecDepth 20000 in
theorem gX7_tray_X7_isTray : GoodIn wsX7_tray (wsV RX7 165 RX7 yX7_isTray wsX7_isTray) := goodIn_app (goodIn_of _ (by decide +kernel)) ggX7_tray_X7_isTray
set_option maxRecDepth 20000 in
theorem ggX7_tray_X7_in : GoodIn wsX7_tray wsX7_in := goodIn_r _ [10] (by decide +kernel) (by decide +kernel)
set_option maxRecDepth 20000 in
theorem gX7_tray_X7_in : GoodIn wsX7_tray (va_wsS RX7 44 yX7_in wsX7_in) := goodIn_app (goodIn_of _ (by decide +kernel)) ggX7_tray_X7_in
set_option maxRecDepth 20000 in
theorem ggX7_tray_X7_trayBy : GoodIn wsX7_tray wsX7_trayBy := goodIn_r _ [14, 7, 15, 16, 17, 5, 18, 19, 20, 21, 22, 23, 24, 25, 26, 27, 28, 29, 30, 31, 32, 33, 34, 35, 36, 37, 38, 39, 40, 41, 42, 43, 44, 45, 46, 47, 48, 49, 50, 51, 52, 53, 54] (by decide +kernel) (by decide +kernel)
set_option maxRecDepth 20000 in
theorem gX7_tray_X7_trayBy : GoodIn wsX7_tray (wsV RX7 168 RX7 yX7_trayBy wsX7_trayBy) := goodIn_app (goodIn_of _ (by decide +kernel)) ggX7_tray_X7_trayBy
theorem dX7_tray_0 : decode cX7_tray 0 = .ok (.aload_n 0, 1) := by decide +kernel
theorem dX7_tray_1 : decode cX7_tray 1 = .ok (.aload_n 0, 1) := by decide +kernel
theorem dX7_tray_2 : decode cX7_tray 2 = .ok (.iload_n 1, 1) := by decide +kernel
theorem dX7_tray_3 : decode cX7_tray 3 = .ok (.invokevirtual 165, 3) := by decide +kernel
theorem dX7_tray_6 : decode cX7_tray 6 = .ok (.ifCond .ne 7, 3) := by decide +kernel
theorem dX7_tray_9 : decode cX7_tray 9 = .ok (.iconst 1, 1) := by decide +kernel
theorem dX7_tray_10 : decode cX7_tray 10 = .ok (.goto 17, 3) := by decide +kernel
theorem dX7_tray_13 : decode cX7_tray 13 = .ok (.iload_n 2, 1) := by decide +kernel
theorem dX7_tray_14 : decode cX7_tray 14 = .ok (.iconst 0, 1) := by decide +kernel
theorem dX7_tray_15 : decode cX7_tray 15 = .ok (.iconst 3, 1) := by decide +kernel
theorem dX7_tray_16 : decode cX7_tray 16 = .ok (.invokestatic 44, 3) := by decide +kernel
theorem dX7_tray_19 : decode cX7_tray 19 = .ok (.ifCond .ne 7, 3) := by decide +kernel
theorem dX7_tray_22 : decode cX7_tray 22 = .ok (.iconst 2, 1) := by decide +kernel
theorem dX7_tray_23 : decode cX7_tray 23 = .ok (.goto 4, 3) := by decide +kernel
theorem dX7_tray_26 : decode cX7_tray 26 = .ok (.iconst 0, 1) := by decide +kernel
theorem dX7_tray_27 : decode cX7_tray 27 = .ok (.putfield 26, 3) := by decide +kernel
theorem dX7_tray_30 : decode cX7_tray 30 = .ok (.aload_n 0, 1) := by decide +kernel
theorem dX7_tray_31 : decode cX7_tray 31 = .ok (.getfield 26, 3) := by decide +kernel
theorem dX7_tray_34 : decode cX7_tray 34 = .ok (.ifCond .le 7, 3) := by decide +kernel
theorem dX7_tray_37 : decode cX7_tray 37 = .ok (.iconst 0, 1) := by decide +kernel
theorem dX7_tray_38 : decode cX7_tray 38 = .ok (.goto 9, 3) := by decide +kernel
theorem dX7_tray_41 : decode cX7_tray 41 = .ok (.aload_n 0, 1) := by decide +kernel
theorem dX7_tray_42 : decode cX7_tray 42 = .ok (.iload_n 1, 1) := by decide +kernel
theorem dX7_tray_43 : decode cX7_tray 43 = .ok (.iload_n 2, 1) := by decide +kernel
theorem dX7_tray_44 : decode cX7_tray 44 = .ok (.invokevirtual 168, 3) := by decide +kernel
theorem dX7_tray_47 : decode cX7_tray 47 = .ok (.ireturn, 1) := by decide +kernel
set_option maxRecDepth 20000 in
theorem ggX7_gapsOf_X7_covers : GoodIn wsX7_gapsOf wsX7_covers := goodIn_r _ [5, 6, 7, 8, 9, 4, 10, 11, 12, 13, 14, 15, 16, 17, 18, 19, 24, 25, 26, 27, 28, 29, 30, 31, 32, 33, 34, 35, 36, 37, 38, 39] (by decide +kernel) (by decide +kernel)
set_option maxRecDepth 20000 in
theorem gX7_gapsOf_X7_covers : GoodIn wsX7_gapsOf (wsV RX7 61 RX7 yX7_covers wsX7_covers) := goodIn_app (goodIn_of _ (by decide +kernel)) ggX7_gapsOf_X7_covers
set_option maxRecDepth 20000 in
theorem ggX7_gapsOf_X7_endOf : GoodIn wsX7_gapsOf wsX7_endOf := goodIn_r _ [23, 6, 24, 25, 26, 27, 28, 29, 30, 31, 32, 33, 34, 35, 36, 37, 38, 39] (by decide +kernel) (by decide +kernel)
set_option maxRecDepth 20000 in
theorem gX7_gapsOf_X7_endOf : GoodIn wsX7_gapsOf (wsV RX7 65 RX7 yX7_endOf wsX7_endOf) := goodIn_app (goodIn_of _ (by decide +kernel)) ggX7_gapsOf_X7_endOf
theorem dX7_gapsOf_0 : decode cX7_gapsOf 0 = .ok (.iconst 0, 1) := by decide +kernel
theorem dX7_gapsOf_1 : decode cX7_gapsOf 1 = .ok (.istore 4, 2) := by decide +kernel
theorem dX7_gapsOf_3 : decode cX7_gapsOf 3 = .ok (.iconst 0, 1) := by decide +kernel
theorem dX7_gapsOf_4 : decode cX7_gapsOf 4 = .ok (.istore 5, 2) := by decide +kernel
theorem dX7_gapsOf_6 : decode cX7_gapsOf 6 = .ok (.aload_n 0, 1) := by decide +kernel
theorem dX7_gapsOf_7 : decode cX7_gapsOf 7 = .ok (.iload_n 1, 1) := by decide +kernel
theorem dX7_gapsOf_8 : decode cX7_gapsOf 8 = .ok (.iload_n 2, 1) := by decide +kernel
theorem dX7_gapsOf_9 : decode cX7_gapsOf 9 = .ok (.invokevirtual 61, 3) := by decide +kernel
theorem dX7_gapsOf_12 : decode cX7_gapsOf 12 = .ok (.iconst 0, 1) := by decide +kernel
theorem dX7_gapsOf_13 : decode cX7_gapsOf 13 = .ok (.istore 6, 2) := by decide +kernel
theorem dX7_gapsOf_15 : decode cX7_gapsOf 15 = .ok (.iload 6, 2) := by decide +kernel
theorem dX7_gapsOf_17 : decode cX7_gapsOf 17 = .ok (.bipush 24, 2) := by decide +kernel
theorem dX7_gapsOf_19 : decode cX7_gapsOf 19 = .ok (.if_icmp .ge 51, 3) := by decide +kernel
theorem dX7_gapsOf_22 : decode cX7_gapsOf 22 = .ok (.aload_n 0, 1) := by decide +kernel
theorem dX7_gapsOf_23 : decode cX7_gapsOf 23 = .ok (.iload 6, 2) := by decide +kernel
theorem dX7_gapsOf_25 : decode cX7_gapsOf 25 = .ok (.invokevirtual 65, 3) := by decide +kernel
theorem dX7_gapsOf_28 : decode cX7_gapsOf 28 = .ok (.iload 6, 2) := by decide +kernel
theorem dX7_gapsOf_30 : decode cX7_gapsOf 30 = .ok (.isub, 1) := by decide +kernel
theorem dX7_gapsOf_31 : decode cX7_gapsOf 31 = .ok (.istore 7, 2) := by decide +kernel
theorem dX7_gapsOf_33 : decode cX7_gapsOf 33 = .ok (.iload 4, 2) := by decide +kernel
theorem dX7_gapsOf_35 : decode cX7_gapsOf 35 = .ok (.iload 7, 2) := by decide +kernel
theorem dX7_gapsOf_37 : decode cX7_gapsOf 37 = .ok (.ifCond .le 7, 3) := by decide +kernel
theorem dX7_gapsOf_40 : decode cX7_gapsOf 40 = .ok (.iconst 1, 1) := by decide +kernel
theorem dX7_gapsOf_41 : decode cX7_gapsOf 41 = .ok (.goto 4, 3) := by decide +kernel
theorem dX7_gapsOf_44 : decode cX7_gapsOf 44 = .ok (.iconst 0, 1) := by decide +kernel
theorem dX7_gapsOf_45 : decode cX7_gapsOf 45 = .ok (.iadd, 1) := by decide +kernel
theorem dX7_gapsOf_46 : decode cX7_gapsOf 46 = .ok (.istore 4, 2) := by decide +kernel
theorem dX7_gapsOf_48 : decode cX7_gapsOf 48 = .ok (.iload 7, 2) := by decide +kernel
theorem dX7_gapsOf_50 : decode cX7_gapsOf 50 = .ok (.iload 5, 2) := by decide +kernel
theorem dX7_gapsOf_52 : decode cX7_gapsOf 52 = .ok (.if_icmp .le 8, 3) := by decide +kernel
theorem dX7_gapsOf_55 : decode cX7_gapsOf 55 = .ok (.iload 7, 2) := by decide +kernel
theorem dX7_gapsOf_57 : decode cX7_gapsOf 57 = .ok (.goto 5, 3) := by decide +kernel
theorem dX7_gapsOf_60 : decode cX7_gapsOf 60 = .ok (.iload 5, 2) := by decide +kernel
theorem dX7_gapsOf_62 : decode cX7_gapsOf 62 = .ok (.istore 5, 2) := by decide +kernel
theorem dX7_gapsOf_64 : decode cX7_gapsOf 64 = .ok (.iinc 6 1, 3) := by decide +kernel
theorem dX7_gapsOf_67 : decode cX7_gapsOf 67 = .ok (.goto (-52), 3) := by decide +kernel
theorem dX7_gapsOf_70 : decode cX7_gapsOf 70 = .ok (.iload_n 3, 1) := by decide +kernel
theorem dX7_gapsOf_71 : decode cX7_gapsOf 71 = .ok (.ifCond .eq 8, 3) := by decide +kernel
theorem dX7_gapsOf_74 : decode cX7_gapsOf 74 = .ok (.iload 4, 2) := by decide +kernel
theorem dX7_gapsOf_76 : decode cX7_gapsOf 76 = .ok (.goto 5, 3) := by decide +kernel
theorem dX7_gapsOf_79 : decode cX7_gapsOf 79 = .ok (.iload 5, 2) := by decide +kernel
theorem dX7_gapsOf_81 : decode cX7_gapsOf 81 = .ok (.ireturn, 1) := by decide +kernel
set_option maxRecDepth 20000 in
theorem ggX7_shelfBy_X7_top : GoodIn wsX7_shelfBy wsX7_top := goodIn_r _ [5, 6, 7, 8, 4, 9, 10, 56, 57, 58, 59, 60, 61, 62, 63, 64, 65, 66, 67, 68, 69, 70, 71] (by decide +kernel) (by decide +kernel)
set_option maxRecDepth 20000 in
theorem gX7_shelfBy_X7_top : GoodIn wsX7_shelfBy (wsV RX7 80 RX7 yX7_top wsX7_top) := goodIn_app (goodIn_of _ (by decide +kernel)) ggX7_shelfBy_X7_top
set_option maxRecDepth 20000 in
theorem ggX7_shelfBy_X7_tall : GoodIn wsX7_shelfBy wsX7_tall := goodIn_r _ [9, 10, 56, 57, 58, 59, 60, 61, 62, 63, 64, 65, 66, 67, 68, 69, 70, 71] (by decide +kernel) (by decide +kernel)
set_option maxRecDepth 20000 in
theorem gX7_shelfBy_X7_tall : GoodIn wsX7_shelfBy (wsV RX7 52 RX7 yX7_tall wsX7_tall) := goodIn_app (goodIn_of _ (by decide +kernel)) ggX7_shelfBy_X7_tall
set_option maxRecDepth 20000 in
theorem ggX7_shelfBy_X7_lettersOn : GoodIn wsX7_shelfBy wsX7_lettersOn := goodIn_r _ [14, 15, 16, 17, 4, 18, 19, 20, 21, 22, 10, 56, 57, 58, 59, 60, 61, 62, 63, 64, 65, 66, 67, 68, 69, 70, 71] (by decide +kernel) (by decide +kernel)
set_option maxRecDepth 20000 in
theorem gX7_shelfBy_X7_lettersOn : GoodIn wsX7_shelfBy (wsV RX7 90 RX7 yX7_lettersOn wsX7_lettersOn) := goodIn_app (goodIn_of _ (by decide +kernel)) ggX7_shelfBy_X7_lettersOn
set_option maxRecDepth 20000 in
theorem ggX7_shelfBy_X7_gapsOf : GoodIn wsX7_shelfBy wsX7_gapsOf := goodIn_r _ [26, 27, 28, 29, 4, 30, 31, 32, 33, 34, 35, 10, 15, 16, 17, 18, 19, 20, 21, 22, 36, 37, 38, 39, 56, 57, 58, 59, 60, 61, 62, 63, 64, 65, 66, 67, 68, 69, 70, 71] (by decide +kernel) (by decide +kernel)
set_option maxRecDepth 20000 in
theorem gX7_shelfBy_X7_gapsOf : GoodIn wsX7_shelfBy (wsV RX7 171 RX7 yX7_gapsOf wsX7_gapsOf) := goodIn_app (goodIn_of _ (by decide +kernel)) ggX7_shelfBy_X7_gapsOf
set_option maxRecDepth 20000 in
theorem ggX7_shelfBy_X7_latestOn : GoodIn wsX7_shelfBy wsX7_latestOn := goodIn_r _ [43, 15, 16, 17, 4, 18, 19, 20, 21, 22, 10, 56, 57, 58, 59, 60, 61, 62, 63, 64, 65, 66, 67, 68, 69, 70, 71] (by decide +kernel) (by decide +kernel)
set_option maxRecDepth 20000 in
theorem gX7_shelfBy_X7_latestOn : GoodIn wsX7_shelfBy (wsV RX7 83 RX7 yX7_latestOn wsX7_latestOn) := goodIn_app (goodIn_of _ (by decide +kernel)) ggX7_shelfBy_X7_latestOn
set_option maxRecDepth 20000 in
theorem ggX7_shelfBy_X7_isNowOn : GoodIn wsX7_shelfBy wsX7_isNowOn := goodIn_r _ [47, 15, 16, 17, 4, 18, 19, 20, 21, 22, 10, 48, 49, 50, 51, 52, 53, 54, 55, 56, 57, 58, 59, 60, 61, 62, 63, 64, 65, 66, 67, 68, 69, 70, 71] (by decide +kernel) (by decide +kernel)
set_option maxRecDepth 20000 in
theorem gX7_shelfBy_X7_isNowOn : GoodIn wsX7_shelfBy (wsV RX7 86 RX7 yX7_isNowOn wsX7_isNowOn) := goodIn_app (goodIn_of _ (by decide +kernel)) ggX7_shelfBy_X7_isNowOn
theorem dX7_shelfBy_0 : decode cX7_shelfBy 0 = .ok (.iload_n 3, 1) := by decide +kernel
theorem dX7_shelfBy_1 : decode cX7_shelfBy 1 = .ok (.tableswitch 84 0 5 #[39, 46, 53, 60, 60, 77], 39) := by decide +kernel
theorem dX7_shelfBy_40 : decode cX7_shelfBy 40 = .ok (.aload_n 0, 1) := by decide +kernel
theorem dX7_shelfBy_41 : decode cX7_shelfBy 41 = .ok (.iload_n 1, 1) := by decide +kernel
theorem dX7_shelfBy_42 : decode cX7_shelfBy 42 = .ok (.iload_n 2, 1) := by decide +kernel
theorem dX7_shelfBy_43 : decode cX7_shelfBy 43 = .ok (.invokevirtual 80, 3) := by decide +kernel
theorem dX7_shelfBy_46 : decode cX7_shelfBy 46 = .ok (.ireturn, 1) := by decide +kernel
theorem dX7_shelfBy_47 : decode cX7_shelfBy 47 = .ok (.aload_n 0, 1) := by decide +kernel
theorem dX7_shelfBy_48 : decode cX7_shelfBy 48 = .ok (.iload_n 1, 1) := by decide +kernel
theorem dX7_shelfBy_49 : decode cX7_shelfBy 49 = .ok (.iload_n 2, 1) := by decide +kernel
theorem dX7_shelfBy_50 : decode cX7_shelfBy 50 = .ok (.invokevirtual 52, 3) := by decide +kernel
theorem dX7_shelfBy_53 : decode cX7_shelfBy 53 = .ok (.ireturn, 1) := by decide +kernel
theorem dX7_shelfBy_54 : decode cX7_shelfBy 54 = .ok (.aload_n 0, 1) := by decide +kernel
theorem dX7_shelfBy_55 : decode cX7_shelfBy 55 = .ok (.iload_n 1, 1) := by decide +kernel
theorem dX7_shelfBy_56 : decode cX7_shelfBy 56 = .ok (.iload_n 2, 1) := by decide +kernel
theorem dX7_shelfBy_57 : decode cX7_shelfBy 57 = .ok (.invokevirtual 90, 3) := by decide +kernel
theorem dX7_shelfBy_60 : decode cX7_shelfBy 60 = .ok (.ireturn, 1) := by decide +kernel
theorem dX7_shelfBy_61 : decode cX7_shelfBy 61 = .ok (.aload_n 0, 1) := by decide +kernel
theorem dX7_shelfBy_62 : decode cX7_shelfBy 62 = .ok (.iload_n 1, 1) := by decide +kernel
theorem dX7_shelfBy_63 : decode cX7_shelfBy 63 = .ok (.iload_n 2, 1) := by decide +kernel
theorem dX7_shelfBy_64 : decode cX7_shelfBy 64 = .ok (.iload_n 3, 1) := by decide +kernel
theorem dX7_shelfBy_65 : decode cX7_shelfBy 65 = .ok (.iconst 3, 1) := by decide +kernel
theorem dX7_shelfBy_66 : decode cX7_shelfBy 66 = .ok (.if_icmp .ne 7, 3) := by decide +kernel
theorem dX7_shelfBy_69 : decode cX7_shelfBy 69 = .ok (.iconst 1, 1) := by decide +kernel
theorem dX7_shelfBy_70 : decode cX7_shelfBy 70 = .ok (.goto 4, 3) := by decide +kernel
theorem dX7_shelfBy_73 : decode cX7_shelfBy 73 = .ok (.iconst 0, 1) := by decide +kernel
theorem dX7_shelfBy_74 : decode cX7_shelfBy 74 = .ok (.invokevirtual 171, 3) := by decide +kernel
theorem dX7_shelfBy_77 : decode cX7_shelfBy 77 = .ok (.ireturn, 1) := by decide +kernel
theorem dX7_shelfBy_78 : decode cX7_shelfBy 78 = .ok (.aload_n 0, 1) := by decide +kernel
theorem dX7_shelfBy_79 : decode cX7_shelfBy 79 = .ok (.iload_n 1, 1) := by decide +kernel
theorem dX7_shelfBy_80 : decode cX7_shelfBy 80 = .ok (.iload_n 2, 1) := by decide +kernel
theorem dX7_shelfBy_81 : decode cX7_shelfBy 81 = .ok (.invokevirtual 83, 3) := by decide +kernel
theorem dX7_shelfBy_84 : decode cX7_shelfBy 84 = .ok (.ireturn, 1) := by decide +kernel
theorem dX7_shelfBy_85 : decode cX7_shelfBy 85 = .ok (.aload_n 0, 1) := by decide +kernel
theorem dX7_shelfBy_86 : decode cX7_shelfBy 86 = .ok (.iload_n 1, 1) := by decide +kernel
theorem dX7_shelfBy_87 : decode cX7_shelfBy 87 = .ok (.iload_n 2, 1) := by decide +kernel
theorem dX7_shelfBy_88 : decode cX7_shelfBy 88 = .ok (.invokevirtual 86, 3) := by decide +kernel
theorem dX7_shelfBy_91 : decode cX7_shelfBy 91 = .ok (.ifCond .eq 7, 3) := by decide +kernel
theorem dX7_shelfBy_94 : decode cX7_shelfBy 94 = .ok (.iconst 1, 1) := by decide +kernel
theorem dX7_shelfBy_95 : decode cX7_shelfBy 95 = .ok (.goto 4, 3) := by decide +kernel
theorem dX7_shelfBy_98 : decode cX7_shelfBy 98 = .ok (.iconst 0, 1) := by decide +kernel
theorem dX7_shelfBy_99 : decode cX7_shelfBy 99 = .ok (.ireturn, 1) := by decide +kernel
set_option maxRecDepth 20000 in
theorem ggX7_shelf_X7_isTray : GoodIn wsX7_shelf wsX7_isTray := goodIn_r _ [7, 1, 8, 9, 6, 10, 68, 69, 70, 71, 72, 73, 74, 75, 76, 77, 78, 79, 80, 81, 82, 83] (by decide +kernel) (by decide +kernel)
set_option maxRecDepth 20000 in
theorem gX7_shelf_X7_isTray : GoodIn wsX7_shelf (wsV RX7 165 RX7 yX7_isTray wsX7_isTray) := goodIn_app (goodIn_of _ (by decide +kernel)) ggX7_shelf_X7_isTray
set_option maxRecDepth 20000 in
theorem ggX7_shelf_X7_in : GoodIn wsX7_shelf wsX7_in := goodIn_r _ [10] (by decide +kernel) (by decide +kernel)
set_option maxRecDepth 20000 in
theorem gX7_shelf_X7_in : GoodIn wsX7_shelf (va_wsS RX7 44 yX7_in wsX7_in) := goodIn_app (goodIn_of _ (by decide +kernel)) ggX7_shelf_X7_in
set_option maxRecDepth 20000 in
theorem ggX7_shelf_X7_shelfBy : GoodIn wsX7_shelf wsX7_shelfBy := goodIn_r _ [14, 15, 16, 17, 6, 18, 19, 20, 21, 22, 1, 23, 24, 25, 26, 27, 28, 29, 30, 31, 32, 33, 34, 35, 36, 37, 38, 39, 40, 41, 42, 43, 44, 45, 46, 47, 48, 49, 50, 51, 52, 53, 54, 55, 56, 57, 58, 59, 60, 61, 62, 63, 64, 65, 66, 67, 68, 69, 70, 71, 72, 73, 74, 75, 76, 77, 78, 79, 80, 81, 82, 83] (by decide +kernel) (by decide +kernel)
set_option maxRecDepth 20000 in
theorem gX7_shelf_X7_shelfBy : GoodIn wsX7_shelf (wsV RX7 175 RX7 yX7_shelfBy wsX7_shelfBy) := goodIn_app (goodIn_of _ (by decide +kernel)) ggX7_shelf_X7_shelfBy
