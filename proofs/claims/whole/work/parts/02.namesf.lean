theorem dX4_trayValue_0 : decode cX4_trayValue 0 = .ok (.iload_n 2, 1) := by decide +kernel
theorem dX4_trayValue_1 : decode cX4_trayValue 1 = .ok (.tableswitch 45 0 2 #[27, 33, 39], 27) := by decide +kernel
theorem dX4_trayValue_28 : decode cX4_trayValue 28 = .ok (.aload_n 0, 1) := by decide +kernel
theorem dX4_trayValue_29 : decode cX4_trayValue 29 = .ok (.iload_n 1, 1) := by decide +kernel
theorem dX4_trayValue_30 : decode cX4_trayValue 30 = .ok (.invokevirtual 165, 3) := by decide +kernel
theorem dX4_trayValue_33 : decode cX4_trayValue 33 = .ok (.ireturn, 1) := by decide +kernel
theorem dX4_trayValue_34 : decode cX4_trayValue 34 = .ok (.aload_n 0, 1) := by decide +kernel
theorem dX4_trayValue_35 : decode cX4_trayValue 35 = .ok (.iload_n 1, 1) := by decide +kernel
theorem dX4_trayValue_36 : decode cX4_trayValue 36 = .ok (.invokevirtual 168, 3) := by decide +kernel
theorem dX4_trayValue_39 : decode cX4_trayValue 39 = .ok (.ireturn, 1) := by decide +kernel
theorem dX4_trayValue_40 : decode cX4_trayValue 40 = .ok (.aload_n 0, 1) := by decide +kernel
theorem dX4_trayValue_41 : decode cX4_trayValue 41 = .ok (.iload_n 1, 1) := by decide +kernel
theorem dX4_trayValue_42 : decode cX4_trayValue 42 = .ok (.invokevirtual 171, 3) := by decide +kernel
theorem dX4_trayValue_45 : decode cX4_trayValue 45 = .ok (.ireturn, 1) := by decide +kernel
theorem dX4_trayValue_46 : decode cX4_trayValue 46 = .ok (.aload_n 0, 1) := by decide +kernel
theorem dX4_trayValue_47 : decode cX4_trayValue 47 = .ok (.iload_n 1, 1) := by decide +kernel
theorem dX4_trayValue_48 : decode cX4_trayValue 48 = .ok (.invokevirtual 174, 3) := by decide +kernel
theorem dX4_trayValue_51 : decode cX4_trayValue 51 = .ok (.ireturn, 1) := by decide +kernel
set_option maxRecDepth 20000 in
theorem ggX4_countShelves_X3_get : GoodIn wsX4_countShelves wsX3_get := goodIn_r _ [6, 7, 26] (by decide +kernel) (by decide +kernel)
set_option maxRecDepth 20000 in
theorem gX4_countShelves_X3_get : GoodIn wsX4_countShelves (wsV RX4 79 RX3 yX3_get wsX3_get) := goodIn_app (goodIn_of _ (by decide +kernel)) ggX4_countShelves_X3_get
theorem dX4_countShelves_0 : decode cX4_countShelves 0 = .ok (.iconst 0, 1) := by decide +kernel
theorem dX4_countShelves_1 : decode cX4_countShelves 1 = .ok (.istore_n 2, 1) := by decide +kernel
theorem dX4_countShelves_2 : decode cX4_countShelves 2 = .ok (.iload_n 1, 1) := by decide +kernel
theorem dX4_countShelves_3 : decode cX4_countShelves 3 = .ok (.bipush 24, 2) := by decide +kernel
theorem dX4_countShelves_5 : decode cX4_countShelves 5 = .ok (.imul, 1) := by decide +kernel
theorem dX4_countShelves_6 : decode cX4_countShelves 6 = .ok (.istore_n 3, 1) := by decide +kernel
theorem dX4_countShelves_7 : decode cX4_countShelves 7 = .ok (.iload_n 3, 1) := by decide +kernel
theorem dX4_countShelves_8 : decode cX4_countShelves 8 = .ok (.iload_n 1, 1) := by decide +kernel
theorem dX4_countShelves_9 : decode cX4_countShelves 9 = .ok (.bipush 24, 2) := by decide +kernel
theorem dX4_countShelves_11 : decode cX4_countShelves 11 = .ok (.imul, 1) := by decide +kernel
theorem dX4_countShelves_12 : decode cX4_countShelves 12 = .ok (.bipush 24, 2) := by decide +kernel
theorem dX4_countShelves_14 : decode cX4_countShelves 14 = .ok (.iadd, 1) := by decide +kernel
theorem dX4_countShelves_15 : decode cX4_countShelves 15 = .ok (.if_icmp .ge 23, 3) := by decide +kernel
theorem dX4_countShelves_18 : decode cX4_countShelves 18 = .ok (.aload_n 0, 1) := by decide +kernel
theorem dX4_countShelves_19 : decode cX4_countShelves 19 = .ok (.getfield 23, 3) := by decide +kernel
theorem dX4_countShelves_22 : decode cX4_countShelves 22 = .ok (.iload_n 3, 1) := by decide +kernel
theorem dX4_countShelves_23 : decode cX4_countShelves 23 = .ok (.invokevirtual 79, 3) := by decide +kernel
theorem dX4_countShelves_26 : decode cX4_countShelves 26 = .ok (.ifCond .le 6, 3) := by decide +kernel
theorem dX4_countShelves_29 : decode cX4_countShelves 29 = .ok (.iinc 2 1, 3) := by decide +kernel
theorem dX4_countShelves_32 : decode cX4_countShelves 32 = .ok (.iinc 3 1, 3) := by decide +kernel
theorem dX4_countShelves_35 : decode cX4_countShelves 35 = .ok (.goto (-28), 3) := by decide +kernel
theorem dX4_countShelves_38 : decode cX4_countShelves 38 = .ok (.iload_n 2, 1) := by decide +kernel
theorem dX4_countShelves_39 : decode cX4_countShelves 39 = .ok (.ireturn, 1) := by decide +kernel
set_option maxRecDepth 20000 in
theorem ggX4_heightOfShelves_X3_get : GoodIn wsX4_heightOfShelves wsX3_get := goodIn_r _ [6, 7, 26] (by decide +kernel) (by decide +kernel)
set_option maxRecDepth 20000 in
theorem gX4_heightOfShelves_X3_get : GoodIn wsX4_heightOfShelves (wsV RX4 79 RX3 yX3_get wsX3_get) := goodIn_app (goodIn_of _ (by decide +kernel)) ggX4_heightOfShelves_X3_get
theorem dX4_heightOfShelves_0 : decode cX4_heightOfShelves 0 = .ok (.iconst 0, 1) := by decide +kernel
theorem dX4_heightOfShelves_1 : decode cX4_heightOfShelves 1 = .ok (.istore_n 2, 1) := by decide +kernel
theorem dX4_heightOfShelves_2 : decode cX4_heightOfShelves 2 = .ok (.iload_n 1, 1) := by decide +kernel
theorem dX4_heightOfShelves_3 : decode cX4_heightOfShelves 3 = .ok (.bipush 24, 2) := by decide +kernel
theorem dX4_heightOfShelves_5 : decode cX4_heightOfShelves 5 = .ok (.imul, 1) := by decide +kernel
theorem dX4_heightOfShelves_6 : decode cX4_heightOfShelves 6 = .ok (.istore_n 3, 1) := by decide +kernel
theorem dX4_heightOfShelves_7 : decode cX4_heightOfShelves 7 = .ok (.iload_n 3, 1) := by decide +kernel
theorem dX4_heightOfShelves_8 : decode cX4_heightOfShelves 8 = .ok (.iload_n 1, 1) := by decide +kernel
theorem dX4_heightOfShelves_9 : decode cX4_heightOfShelves 9 = .ok (.bipush 24, 2) := by decide +kernel
theorem dX4_heightOfShelves_11 : decode cX4_heightOfShelves 11 = .ok (.imul, 1) := by decide +kernel
theorem dX4_heightOfShelves_12 : decode cX4_heightOfShelves 12 = .ok (.bipush 24, 2) := by decide +kernel
theorem dX4_heightOfShelves_14 : decode cX4_heightOfShelves 14 = .ok (.iadd, 1) := by decide +kernel
theorem dX4_heightOfShelves_15 : decode cX4_heightOfShelves 15 = .ok (.if_icmp .ge 20, 3) := by decide +kernel
theorem dX4_heightOfShelves_18 : decode cX4_heightOfShelves 18 = .ok (.iload_n 2, 1) := by decide +kernel
theorem dX4_heightOfShelves_19 : decode cX4_heightOfShelves 19 = .ok (.aload_n 0, 1) := by decide +kernel
theorem dX4_heightOfShelves_20 : decode cX4_heightOfShelves 20 = .ok (.getfield 23, 3) := by decide +kernel
theorem dX4_heightOfShelves_23 : decode cX4_heightOfShelves 23 = .ok (.iload_n 3, 1) := by decide +kernel
theorem dX4_heightOfShelves_24 : decode cX4_heightOfShelves 24 = .ok (.invokevirtual 79, 3) := by decide +kernel
theorem dX4_heightOfShelves_27 : decode cX4_heightOfShelves 27 = .ok (.iadd, 1) := by decide +kernel
theorem dX4_heightOfShelves_28 : decode cX4_heightOfShelves 28 = .ok (.istore_n 2, 1) := by decide +kernel
theorem dX4_heightOfShelves_29 : decode cX4_heightOfShelves 29 = .ok (.iinc 3 1, 3) := by decide +kernel
theorem dX4_heightOfShelves_32 : decode cX4_heightOfShelves 32 = .ok (.goto (-25), 3) := by decide +kernel
theorem dX4_heightOfShelves_35 : decode cX4_heightOfShelves 35 = .ok (.iload_n 2, 1) := by decide +kernel
theorem dX4_heightOfShelves_36 : decode cX4_heightOfShelves 36 = .ok (.ireturn, 1) := by decide +kernel
set_option maxRecDepth 20000 in
theorem ggX4_isInTray_X4_isLaid : GoodIn wsX4_isInTray wsX4_isLaid := goodIn_r _ [6, 1, 7, 8, 9, 10, 11, 12, 13, 14, 15, 16, 17, 18, 19, 20, 21, 22, 23, 24, 25, 26, 27, 28, 29, 30, 31] (by decide +kernel) (by decide +kernel)
set_option maxRecDepth 20000 in
theorem gX4_isInTray_X4_isLaid : GoodIn wsX4_isInTray (wsV RX4 149 RX4 yX4_isLaid wsX4_isLaid) := goodIn_app (goodIn_of _ (by decide +kernel)) ggX4_isInTray_X4_isLaid
set_option maxRecDepth 20000 in
theorem ggX4_isInTray_X3_get : GoodIn wsX4_isInTray wsX3_get := goodIn_r _ [11, 12, 31] (by decide +kernel) (by decide +kernel)
set_option maxRecDepth 20000 in
theorem gX4_isInTray_X3_get : GoodIn wsX4_isInTray (wsV RX4 79 RX3 yX3_get wsX3_get) := goodIn_app (goodIn_of _ (by decide +kernel)) ggX4_isInTray_X3_get
theorem dX4_isInTray_0 : decode cX4_isInTray 0 = .ok (.aload_n 0, 1) := by decide +kernel
theorem dX4_isInTray_1 : decode cX4_isInTray 1 = .ok (.iload_n 1, 1) := by decide +kernel
theorem dX4_isInTray_2 : decode cX4_isInTray 2 = .ok (.invokevirtual 149, 3) := by decide +kernel
theorem dX4_isInTray_5 : decode cX4_isInTray 5 = .ok (.ifCond .eq 22, 3) := by decide +kernel
theorem dX4_isInTray_8 : decode cX4_isInTray 8 = .ok (.aload_n 0, 1) := by decide +kernel
theorem dX4_isInTray_9 : decode cX4_isInTray 9 = .ok (.getfield 26, 3) := by decide +kernel
theorem dX4_isInTray_12 : decode cX4_isInTray 12 = .ok (.iload_n 1, 1) := by decide +kernel
theorem dX4_isInTray_13 : decode cX4_isInTray 13 = .ok (.invokevirtual 79, 3) := by decide +kernel
theorem dX4_isInTray_16 : decode cX4_isInTray 16 = .ok (.bipush 24, 2) := by decide +kernel
theorem dX4_isInTray_18 : decode cX4_isInTray 18 = .ok (.idiv, 1) := by decide +kernel
theorem dX4_isInTray_19 : decode cX4_isInTray 19 = .ok (.iload_n 2, 1) := by decide +kernel
theorem dX4_isInTray_20 : decode cX4_isInTray 20 = .ok (.if_icmp .ne 7, 3) := by decide +kernel
theorem dX4_isInTray_23 : decode cX4_isInTray 23 = .ok (.iconst 1, 1) := by decide +kernel
theorem dX4_isInTray_24 : decode cX4_isInTray 24 = .ok (.goto 4, 3) := by decide +kernel
theorem dX4_isInTray_27 : decode cX4_isInTray 27 = .ok (.iconst 0, 1) := by decide +kernel
theorem dX4_isInTray_28 : decode cX4_isInTray 28 = .ok (.ireturn, 1) := by decide +kernel
set_option maxRecDepth 20000 in
theorem ggX4_countInTray_X3_get : GoodIn wsX4_countInTray wsX3_get := goodIn_r _ [7, 8, 37] (by decide +kernel) (by decide +kernel)
set_option maxRecDepth 20000 in
theorem gX4_countInTray_X3_get : GoodIn wsX4_countInTray (wsV RX4 79 RX3 yX3_get wsX3_get) := goodIn_app (goodIn_of _ (by decide +kernel)) ggX4_countInTray_X3_get
set_option maxRecDepth 20000 in
theorem ggX4_countInTray_X4_isInTray : GoodIn wsX4_countInTray wsX4_isInTray := goodIn_r _ [13, 14, 15, 16, 17, 12, 18, 3, 4, 5, 6, 7, 8, 19, 20, 21, 22, 23, 24, 25, 26, 27, 28, 29, 30, 31, 32, 33, 34, 35, 36, 37] (by decide +kernel) (by decide +kernel)
set_option maxRecDepth 20000 in
theorem gX4_countInTray_X4_isInTray : GoodIn wsX4_countInTray (wsV RX4 177 RX4 yX4_isInTray wsX4_isInTray) := goodIn_app (goodIn_of _ (by decide +kernel)) ggX4_countInTray_X4_isInTray
theorem dX4_countInTray_0 : decode cX4_countInTray 0 = .ok (.iconst 0, 1) := by decide +kernel
theorem dX4_countInTray_1 : decode cX4_countInTray 1 = .ok (.istore_n 2, 1) := by decide +kernel
theorem dX4_countInTray_2 : decode cX4_countInTray 2 = .ok (.iconst 0, 1) := by decide +kernel
theorem dX4_countInTray_3 : decode cX4_countInTray 3 = .ok (.istore_n 3, 1) := by decide +kernel
theorem dX4_countInTray_4 : decode cX4_countInTray 4 = .ok (.iload_n 3, 1) := by decide +kernel
theorem dX4_countInTray_5 : decode cX4_countInTray 5 = .ok (.aload_n 0, 1) := by decide +kernel
theorem dX4_countInTray_6 : decode cX4_countInTray 6 = .ok (.getfield 47, 3) := by decide +kernel
theorem dX4_countInTray_9 : decode cX4_countInTray 9 = .ok (.if_icmp .ge 28, 3) := by decide +kernel
theorem dX4_countInTray_12 : decode cX4_countInTray 12 = .ok (.aload_n 0, 1) := by decide +kernel
theorem dX4_countInTray_13 : decode cX4_countInTray 13 = .ok (.aload_n 0, 1) := by decide +kernel
theorem dX4_countInTray_14 : decode cX4_countInTray 14 = .ok (.getfield 44, 3) := by decide +kernel
theorem dX4_countInTray_17 : decode cX4_countInTray 17 = .ok (.iload_n 3, 1) := by decide +kernel
theorem dX4_countInTray_18 : decode cX4_countInTray 18 = .ok (.invokevirtual 79, 3) := by decide +kernel
theorem dX4_countInTray_21 : decode cX4_countInTray 21 = .ok (.iload_n 1, 1) := by decide +kernel
theorem dX4_countInTray_22 : decode cX4_countInTray 22 = .ok (.invokevirtual 177, 3) := by decide +kernel
theorem dX4_countInTray_25 : decode cX4_countInTray 25 = .ok (.ifCond .eq 6, 3) := by decide +kernel
theorem dX4_countInTray_28 : decode cX4_countInTray 28 = .ok (.iinc 2 1, 3) := by decide +kernel
theorem dX4_countInTray_31 : decode cX4_countInTray 31 = .ok (.iinc 3 1, 3) := by decide +kernel
theorem dX4_countInTray_34 : decode cX4_countInTray 34 = .ok (.goto (-30), 3) := by decide +kernel
theorem dX4_countInTray_37 : decode cX4_countInTray 37 = .ok (.iload_n 2, 1) := by decide +kernel
theorem dX4_countInTray_38 : decode cX4_countInTray 38 = .ok (.ireturn, 1) := by decide +kernel
set_option maxRecDepth 20000 in
theorem ggX4_areaInTray_X3_get : GoodIn wsX4_areaInTray wsX3_get := goodIn_r _ [7, 8, 58] (by decide +kernel) (by decide +kernel)
set_option maxRecDepth 20000 in
theorem gX4_areaInTray_X3_get : GoodIn wsX4_areaInTray (wsV RX4 79 RX3 yX3_get wsX3_get) := goodIn_app (goodIn_of _ (by decide +kernel)) ggX4_areaInTray_X3_get
set_option maxRecDepth 20000 in
theorem ggX4_areaInTray_X4_isInTray : GoodIn wsX4_areaInTray wsX4_isInTray := goodIn_r _ [13, 14, 15, 16, 17, 12, 18, 3, 4, 5, 6, 7, 8, 40, 41, 42, 43, 44, 45, 46, 47, 48, 49, 50, 51, 52, 53, 54, 55, 56, 57, 58] (by decide +kernel) (by decide +kernel)
set_option maxRecDepth 20000 in
theorem gX4_areaInTray_X4_isInTray : GoodIn wsX4_areaInTray (wsV RX4 177 RX4 yX4_isInTray wsX4_isInTray) := goodIn_app (goodIn_of _ (by decide +kernel)) ggX4_areaInTray_X4_isInTray
set_option maxRecDepth 20000 in
theorem ggX4_areaInTray_X4_areaOf : GoodIn wsX4_areaInTray wsX4_areaOf := goodIn_r _ [22, 23, 24, 25, 12, 26, 27, 28, 29, 30, 3, 4, 5, 6, 7, 8, 31, 32, 33, 34, 35, 36, 37, 38, 39, 40, 41, 42, 43, 44, 45, 46, 47, 48, 49, 50, 51, 52, 53, 54, 55, 56, 57, 58] (by decide +kernel) (by decide +kernel)
set_option maxRecDepth 20000 in
theorem gX4_areaInTray_X4_areaOf : GoodIn wsX4_areaInTray (wsV RX4 143 RX4 yX4_areaOf wsX4_areaOf) := goodIn_app (goodIn_of _ (by decide +kernel)) ggX4_areaInTray_X4_areaOf
theorem dX4_areaInTray_0 : decode cX4_areaInTray 0 = .ok (.iconst 0, 1) := by decide +kernel
theorem dX4_areaInTray_1 : decode cX4_areaInTray 1 = .ok (.istore_n 2, 1) := by decide +kernel
theorem dX4_areaInTray_2 : decode cX4_areaInTray 2 = .ok (.iconst 0, 1) := by decide +kernel
theorem dX4_areaInTray_3 : decode cX4_areaInTray 3 = .ok (.istore_n 3, 1) := by decide +kernel
theorem dX4_areaInTray_4 : decode cX4_areaInTray 4 = .ok (.iload_n 3, 1) := by decide +kernel
theorem dX4_areaInTray_5 : decode cX4_areaInTray 5 = .ok (.aload_n 0, 1) := by decide +kernel
theorem dX4_areaInTray_6 : decode cX4_areaInTray 6 = .ok (.getfield 47, 3) := by decide +kernel
theorem dX4_areaInTray_9 : decode cX4_areaInTray 9 = .ok (.if_icmp .ge 38, 3) := by decide +kernel
theorem dX4_areaInTray_12 : decode cX4_areaInTray 12 = .ok (.aload_n 0, 1) := by decide +kernel
theorem dX4_areaInTray_13 : decode cX4_areaInTray 13 = .ok (.getfield 44, 3) := by decide +kernel
theorem dX4_areaInTray_16 : decode cX4_areaInTray 16 = .ok (.iload_n 3, 1) := by decide +kernel
theorem dX4_areaInTray_17 : decode cX4_areaInTray 17 = .ok (.invokevirtual 79, 3) := by decide +kernel
theorem dX4_areaInTray_20 : decode cX4_areaInTray 20 = .ok (.istore 4, 2) := by decide +kernel
theorem dX4_areaInTray_22 : decode cX4_areaInTray 22 = .ok (.aload_n 0, 1) := by decide +kernel
theorem dX4_areaInTray_23 : decode cX4_areaInTray 23 = .ok (.iload 4, 2) := by decide +kernel
theorem dX4_areaInTray_25 : decode cX4_areaInTray 25 = .ok (.iload_n 1, 1) := by decide +kernel
theorem dX4_areaInTray_26 : decode cX4_areaInTray 26 = .ok (.invokevirtual 177, 3) := by decide +kernel
theorem dX4_areaInTray_29 : decode cX4_areaInTray 29 = .ok (.ifCond .eq 12, 3) := by decide +kernel
theorem dX4_areaInTray_32 : decode cX4_areaInTray 32 = .ok (.iload_n 2, 1) := by decide +kernel
theorem dX4_areaInTray_33 : decode cX4_areaInTray 33 = .ok (.aload_n 0, 1) := by decide +kernel
theorem dX4_areaInTray_34 : decode cX4_areaInTray 34 = .ok (.iload 4, 2) := by decide +kernel
theorem dX4_areaInTray_36 : decode cX4_areaInTray 36 = .ok (.invokevirtual 143, 3) := by decide +kernel
theorem dX4_areaInTray_39 : decode cX4_areaInTray 39 = .ok (.iadd, 1) := by decide +kernel
theorem dX4_areaInTray_40 : decode cX4_areaInTray 40 = .ok (.istore_n 2, 1) := by decide +kernel
theorem dX4_areaInTray_41 : decode cX4_areaInTray 41 = .ok (.iinc 3 1, 3) := by decide +kernel
theorem dX4_areaInTray_44 : decode cX4_areaInTray 44 = .ok (.goto (-40), 3) := by decide +kernel
theorem dX4_areaInTray_47 : decode cX4_areaInTray 47 = .ok (.iload_n 2, 1) := by decide +kernel
theorem dX4_areaInTray_48 : decode cX4_areaInTray 48 = .ok (.ireturn, 1) := by decide +kernel
set_option maxRecDepth 20000 in
theorem ggX4_letterAt_X3_get : GoodIn wsX4_letterAt wsX3_get := goodIn_r _ [7, 8, 60] (by decide +kernel) (by decide +kernel)
set_option maxRecDepth 20000 in
theorem gX4_letterAt_X3_get : GoodIn wsX4_letterAt (wsV RX4 79 RX3 yX3_get wsX3_get) := goodIn_app (goodIn_of _ (by decide +kernel)) ggX4_letterAt_X3_get
set_option maxRecDepth 20000 in
theorem ggX4_letterAt_X4_isInTray : GoodIn wsX4_letterAt wsX4_isInTray := goodIn_r _ [13, 14, 15, 16, 17, 12, 18, 3, 4, 5, 6, 7, 8, 42, 43, 44, 45, 46, 47, 48, 49, 50, 51, 52, 53, 54, 55, 56, 57, 58, 59, 60] (by decide +kernel) (by decide +kernel)
set_option maxRecDepth 20000 in
theorem gX4_letterAt_X4_isInTray : GoodIn wsX4_letterAt (wsV RX4 177 RX4 yX4_isInTray wsX4_isInTray) := goodIn_app (goodIn_of _ (by decide +kernel)) ggX4_letterAt_X4_isInTray
set_option maxRecDepth 20000 in
theorem ggX4_letterAt_X4_covers : GoodIn wsX4_letterAt wsX4_covers := goodIn_r _ [22, 14, 23, 24, 3, 4, 5, 6, 7, 8, 25, 26, 27, 12, 28, 29, 30, 31, 32, 33, 34, 35, 36, 37, 38, 39, 40, 41, 42, 43, 44, 45, 46, 47, 48, 49, 50, 51, 52, 53, 54, 55, 56, 57, 58, 59, 60] (by decide +kernel) (by decide +kernel)
set_option maxRecDepth 20000 in
theorem gX4_letterAt_X4_covers : GoodIn wsX4_letterAt (wsV RX4 181 RX4 yX4_covers wsX4_covers) := goodIn_app (goodIn_of _ (by decide +kernel)) ggX4_letterAt_X4_covers
theorem dX4_letterAt_0 : decode cX4_letterAt 0 = .ok (.iconst 0, 1) := by decide +kernel
theorem dX4_letterAt_1 : decode cX4_letterAt 1 = .ok (.istore 4, 2) := by decide +kernel
theorem dX4_letterAt_3 : decode cX4_letterAt 3 = .ok (.iload 4, 2) := by decide +kernel
theorem dX4_letterAt_5 : decode cX4_letterAt 5 = .ok (.aload_n 0, 1) := by decide +kernel
theorem dX4_letterAt_6 : decode cX4_letterAt 6 = .ok (.getfield 47, 3) := by decide +kernel
theorem dX4_letterAt_9 : decode cX4_letterAt 9 = .ok (.if_icmp .ge 44, 3) := by decide +kernel
theorem dX4_letterAt_12 : decode cX4_letterAt 12 = .ok (.aload_n 0, 1) := by decide +kernel
theorem dX4_letterAt_13 : decode cX4_letterAt 13 = .ok (.getfield 44, 3) := by decide +kernel
theorem dX4_letterAt_16 : decode cX4_letterAt 16 = .ok (.iload 4, 2) := by decide +kernel
theorem dX4_letterAt_18 : decode cX4_letterAt 18 = .ok (.invokevirtual 79, 3) := by decide +kernel
theorem dX4_letterAt_21 : decode cX4_letterAt 21 = .ok (.istore 5, 2) := by decide +kernel
theorem dX4_letterAt_23 : decode cX4_letterAt 23 = .ok (.aload_n 0, 1) := by decide +kernel
theorem dX4_letterAt_24 : decode cX4_letterAt 24 = .ok (.iload 5, 2) := by decide +kernel
theorem dX4_letterAt_26 : decode cX4_letterAt 26 = .ok (.iload_n 1, 1) := by decide +kernel
theorem dX4_letterAt_27 : decode cX4_letterAt 27 = .ok (.invokevirtual 177, 3) := by decide +kernel
theorem dX4_letterAt_30 : decode cX4_letterAt 30 = .ok (.ifCond .eq 17, 3) := by decide +kernel
theorem dX4_letterAt_33 : decode cX4_letterAt 33 = .ok (.aload_n 0, 1) := by decide +kernel
theorem dX4_letterAt_34 : decode cX4_letterAt 34 = .ok (.iload 5, 2) := by decide +kernel
theorem dX4_letterAt_36 : decode cX4_letterAt 36 = .ok (.iload_n 2, 1) := by decide +kernel
theorem dX4_letterAt_37 : decode cX4_letterAt 37 = .ok (.iload_n 3, 1) := by decide +kernel
theorem dX4_letterAt_38 : decode cX4_letterAt 38 = .ok (.invokevirtual 181, 3) := by decide +kernel
theorem dX4_letterAt_41 : decode cX4_letterAt 41 = .ok (.ifCond .eq 6, 3) := by decide +kernel
theorem dX4_letterAt_44 : decode cX4_letterAt 44 = .ok (.iload 5, 2) := by decide +kernel
theorem dX4_letterAt_46 : decode cX4_letterAt 46 = .ok (.ireturn, 1) := by decide +kernel
theorem dX4_letterAt_47 : decode cX4_letterAt 47 = .ok (.iinc 4 1, 3) := by decide +kernel
theorem dX4_letterAt_50 : decode cX4_letterAt 50 = .ok (.goto (-47), 3) := by decide +kernel
theorem dX4_letterAt_53 : decode cX4_letterAt 53 = .ok (.iconst (-1), 1) := by decide +kernel
theorem dX4_letterAt_54 : decode cX4_letterAt 54 = .ok (.ireturn, 1) := by decide +kernel
set_option maxRecDepth 20000 in
theorem ggX4_shelfValue_X4_topOf : GoodIn wsX4_shelfValue wsX4_topOf := goodIn_r _ [6, 1, 7, 8, 9, 10, 11, 12, 56, 57, 58, 59, 60, 61, 62, 63, 64, 65, 66, 67, 68, 69, 70, 71, 72, 73, 74] (by decide +kernel) (by decide +kernel)
set_option maxRecDepth 20000 in
theorem gX4_shelfValue_X4_topOf : GoodIn wsX4_shelfValue (wsV RX4 146 RX4 yX4_topOf wsX4_topOf) := goodIn_app (goodIn_of _ (by decide +kernel)) ggX4_shelfValue_X4_topOf
set_option maxRecDepth 20000 in
theorem ggX4_shelfValue_X3_get : GoodIn wsX4_shelfValue wsX3_get := goodIn_r _ [11, 12, 74] (by decide +kernel) (by decide +kernel)
set_option maxRecDepth 20000 in
theorem gX4_shelfValue_X3_get : GoodIn wsX4_shelfValue (wsV RX4 79 RX3 yX3_get wsX3_get) := goodIn_app (goodIn_of _ (by decide +kernel)) ggX4_shelfValue_X3_get
set_option maxRecDepth 20000 in
theorem ggX4_shelfValue_X4_countOnShelf : GoodIn wsX4_shelfValue wsX4_countOnShelf := goodIn_r _ [16, 17, 18, 19, 7, 8, 9, 10, 11, 12, 56, 57, 58, 59, 60, 61, 62, 63, 64, 65, 66, 67, 68, 69, 70, 71, 72, 73, 74] (by decide +kernel) (by decide +kernel)
set_option maxRecDepth 20000 in
theorem gX4_shelfValue_X4_countOnShelf : GoodIn wsX4_shelfValue (wsV RX4 128 RX4 yX4_countOnShelf wsX4_countOnShelf) := goodIn_app (goodIn_of _ (by decide +kernel)) ggX4_shelfValue_X4_countOnShelf
set_option maxRecDepth 20000 in
theorem ggX4_shelfValue_X4_coverOf : GoodIn wsX4_shelfValue wsX4_coverOf := goodIn_r _ [23, 17, 19, 18, 24, 25, 7, 8, 9, 10, 11, 12, 56, 57, 58, 59, 60, 61, 62, 63, 64, 65, 66, 67, 68, 69, 70, 71, 72, 73, 74] (by decide +kernel) (by decide +kernel)
set_option maxRecDepth 20000 in
theorem gX4_shelfValue_X4_coverOf : GoodIn wsX4_shelfValue (wsV RX4 185 RX4 yX4_coverOf wsX4_coverOf) := goodIn_app (goodIn_of _ (by decide +kernel)) ggX4_shelfValue_X4_coverOf
set_option maxRecDepth 20000 in
theorem ggX4_shelfValue_X1_count : GoodIn wsX4_shelfValue wsX1_count := goodIn_r _ [29, 30, 31, 28, 32] (by decide +kernel) (by decide +kernel)
set_option maxRecDepth 20000 in
theorem gX4_shelfValue_X1_count : GoodIn wsX4_shelfValue (va_wsS RX4 188 yX1_count wsX1_count) := goodIn_app (goodIn_of _ (by decide +kernel)) ggX4_shelfValue_X1_count
set_option maxRecDepth 20000 in
theorem ggX4_shelfValue_X1_widest : GoodIn wsX4_shelfValue wsX1_widest := goodIn_r _ [35, 36, 37, 38, 39, 30, 31, 28, 32] (by decide +kernel) (by decide +kernel)
set_option maxRecDepth 20000 in
theorem gX4_shelfValue_X1_widest : GoodIn wsX4_shelfValue (va_wsS RX4 193 yX1_widest wsX1_widest) := goodIn_app (goodIn_of _ (by decide +kernel)) ggX4_shelfValue_X1_widest
set_option maxRecDepth 20000 in
theorem ggX4_shelfValue_X4_latestUseOnShelf : GoodIn wsX4_shelfValue wsX4_latestUseOnShelf := goodIn_r _ [43, 17, 19, 18, 44, 45, 37, 38, 39, 7, 8, 9, 10, 11, 12, 56, 57, 58, 59, 60, 61, 62, 63, 64, 65, 66, 67, 68, 69, 70, 71, 72, 73, 74] (by decide +kernel) (by decide +kernel)
set_option maxRecDepth 20000 in
theorem gX4_shelfValue_X4_latestUseOnShelf : GoodIn wsX4_shelfValue (wsV RX4 196 RX4 yX4_latestUseOnShelf wsX4_latestUseOnShelf) := goodIn_app (goodIn_of _ (by decide +kernel)) ggX4_shelfValue_X4_latestUseOnShelf
set_option maxRecDepth 20000 in
theorem ggX4_shelfValue_X4_hasLetterOfLine : GoodIn wsX4_shelfValue wsX4_hasLetterOfLine := goodIn_r _ [49, 17, 19, 18, 7, 8, 9, 10, 11, 12, 50, 51, 52, 5, 53, 54, 55, 56, 57, 58, 59, 60, 61, 62, 63, 64, 65, 66, 67, 68, 69, 70, 71, 72, 73, 74] (by decide +kernel) (by decide +kernel)
set_option maxRecDepth 20000 in
theorem gX4_shelfValue_X4_hasLetterOfLine : GoodIn wsX4_shelfValue (wsV RX4 199 RX4 yX4_hasLetterOfLine wsX4_hasLetterOfLine) := goodIn_app (goodIn_of _ (by decide +kernel)) ggX4_shelfValue_X4_hasLetterOfLine
theorem dX4_shelfValue_0 : decode cX4_shelfValue 0 = .ok (.iload_n 2, 1) := by decide +kernel
theorem dX4_shelfValue_1 : decode cX4_shelfValue 1 = .ok (.tableswitch 84 0 5 #[39, 45, 54, 60, 69, 78], 39) := by decide +kernel
theorem dX4_shelfValue_40 : decode cX4_shelfValue 40 = .ok (.aload_n 0, 1) := by decide +kernel
theorem dX4_shelfValue_41 : decode cX4_shelfValue 41 = .ok (.iload_n 1, 1) := by decide +kernel
theorem dX4_shelfValue_42 : decode cX4_shelfValue 42 = .ok (.invokevirtual 146, 3) := by decide +kernel
theorem dX4_shelfValue_45 : decode cX4_shelfValue 45 = .ok (.ireturn, 1) := by decide +kernel
theorem dX4_shelfValue_46 : decode cX4_shelfValue 46 = .ok (.aload_n 0, 1) := by decide +kernel
theorem dX4_shelfValue_47 : decode cX4_shelfValue 47 = .ok (.getfield 23, 3) := by decide +kernel
theorem dX4_shelfValue_50 : decode cX4_shelfValue 50 = .ok (.iload_n 1, 1) := by decide +kernel
theorem dX4_shelfValue_51 : decode cX4_shelfValue 51 = .ok (.invokevirtual 79, 3) := by decide +kernel
theorem dX4_shelfValue_54 : decode cX4_shelfValue 54 = .ok (.ireturn, 1) := by decide +kernel
theorem dX4_shelfValue_55 : decode cX4_shelfValue 55 = .ok (.aload_n 0, 1) := by decide +kernel
theorem dX4_shelfValue_56 : decode cX4_shelfValue 56 = .ok (.iload_n 1, 1) := by decide +kernel
theorem dX4_shelfValue_57 : decode cX4_shelfValue 57 = .ok (.invokevirtual 128, 3) := by decide +kernel
theorem dX4_shelfValue_60 : decode cX4_shelfValue 60 = .ok (.ireturn, 1) := by decide +kernel
theorem dX4_shelfValue_61 : decode cX4_shelfValue 61 = .ok (.aload_n 0, 1) := by decide +kernel
theorem dX4_shelfValue_62 : decode cX4_shelfValue 62 = .ok (.iload_n 1, 1) := by decide +kernel
theorem dX4_shelfValue_63 : decode cX4_shelfValue 63 = .ok (.invokevirtual 185, 3) := by decide +kernel
theorem dX4_shelfValue_66 : decode cX4_shelfValue 66 = .ok (.invokestatic 188, 3) := by decide +kernel
theorem dX4_shelfValue_69 : decode cX4_shelfValue 69 = .ok (.ireturn, 1) := by decide +kernel
theorem dX4_shelfValue_70 : decode cX4_shelfValue 70 = .ok (.aload_n 0, 1) := by decide +kernel
theorem dX4_shelfValue_71 : decode cX4_shelfValue 71 = .ok (.iload_n 1, 1) := by decide +kernel
theorem dX4_shelfValue_72 : decode cX4_shelfValue 72 = .ok (.invokevirtual 185, 3) := by decide +kernel
theorem dX4_shelfValue_75 : decode cX4_shelfValue 75 = .ok (.invokestatic 193, 3) := by decide +kernel
theorem dX4_shelfValue_78 : decode cX4_shelfValue 78 = .ok (.ireturn, 1) := by decide +kernel
theorem dX4_shelfValue_79 : decode cX4_shelfValue 79 = .ok (.aload_n 0, 1) := by decide +kernel
theorem dX4_shelfValue_80 : decode cX4_shelfValue 80 = .ok (.iload_n 1, 1) := by decide +kernel
theorem dX4_shelfValue_81 : decode cX4_shelfValue 81 = .ok (.invokevirtual 196, 3) := by decide +kernel
theorem dX4_shelfValue_84 : decode cX4_shelfValue 84 = .ok (.ireturn, 1) := by decide +kernel
theorem dX4_shelfValue_85 : decode cX4_shelfValue 85 = .ok (.aload_n 0, 1) := by decide +kernel
theorem dX4_shelfValue_86 : decode cX4_shelfValue 86 = .ok (.iload_n 1, 1) := by decide +kernel
theorem dX4_shelfValue_87 : decode cX4_shelfValue 87 = .ok (.invokevirtual 199, 3) := by decide +kernel
theorem dX4_shelfValue_90 : decode cX4_shelfValue 90 = .ok (.ifCond .eq 7, 3) := by decide +kernel
theorem dX4_shelfValue_93 : decode cX4_shelfValue 93 = .ok (.iconst 1, 1) := by decide +kernel
theorem dX4_shelfValue_94 : decode cX4_shelfValue 94 = .ok (.goto 4, 3) := by decide +kernel
theorem dX4_shelfValue_97 : decode cX4_shelfValue 97 = .ok (.iconst 0, 1) := by decide +kernel
theorem dX4_shelfValue_98 : decode cX4_shelfValue 98 = .ok (.ireturn, 1) := by decide +kernel
set_option maxRecDepth 20000 in
theorem ggX4_topOf_X3_get : GoodIn wsX4_topOf wsX3_get := goodIn_r _ [6, 7, 26] (by decide +kernel) (by decide +kernel)
set_option maxRecDepth 20000 in
theorem gX4_topOf_X3_get : GoodIn wsX4_topOf (wsV RX4 79 RX3 yX3_get wsX3_get) := goodIn_app (goodIn_of _ (by decide +kernel)) ggX4_topOf_X3_get
theorem dX4_topOf_0 : decode cX4_topOf 0 = .ok (.iconst 0, 1) := by decide +kernel
theorem dX4_topOf_1 : decode cX4_topOf 1 = .ok (.istore_n 2, 1) := by decide +kernel
theorem dX4_topOf_2 : decode cX4_topOf 2 = .ok (.iload_n 1, 1) := by decide +kernel
theorem dX4_topOf_3 : decode cX4_topOf 3 = .ok (.bipush 24, 2) := by decide +kernel
theorem dX4_topOf_5 : decode cX4_topOf 5 = .ok (.idiv, 1) := by decide +kernel
theorem dX4_topOf_6 : decode cX4_topOf 6 = .ok (.bipush 24, 2) := by decide +kernel
theorem dX4_topOf_8 : decode cX4_topOf 8 = .ok (.imul, 1) := by decide +kernel
theorem dX4_topOf_9 : decode cX4_topOf 9 = .ok (.istore_n 3, 1) := by decide +kernel
theorem dX4_topOf_10 : decode cX4_topOf 10 = .ok (.iload_n 3, 1) := by decide +kernel
theorem dX4_topOf_11 : decode cX4_topOf 11 = .ok (.iload_n 1, 1) := by decide +kernel
theorem dX4_topOf_12 : decode cX4_topOf 12 = .ok (.if_icmp .ge 20, 3) := by decide +kernel
theorem dX4_topOf_15 : decode cX4_topOf 15 = .ok (.iload_n 2, 1) := by decide +kernel
theorem dX4_topOf_16 : decode cX4_topOf 16 = .ok (.aload_n 0, 1) := by decide +kernel
theorem dX4_topOf_17 : decode cX4_topOf 17 = .ok (.getfield 23, 3) := by decide +kernel
theorem dX4_topOf_20 : decode cX4_topOf 20 = .ok (.iload_n 3, 1) := by decide +kernel
theorem dX4_topOf_21 : decode cX4_topOf 21 = .ok (.invokevirtual 79, 3) := by decide +kernel
theorem dX4_topOf_24 : decode cX4_topOf 24 = .ok (.iadd, 1) := by decide +kernel
theorem dX4_topOf_25 : decode cX4_topOf 25 = .ok (.istore_n 2, 1) := by decide +kernel
theorem dX4_topOf_26 : decode cX4_topOf 26 = .ok (.iinc 3 1, 3) := by decide +kernel
theorem dX4_topOf_29 : decode cX4_topOf 29 = .ok (.goto (-19), 3) := by decide +kernel
theorem dX4_topOf_32 : decode cX4_topOf 32 = .ok (.iload_n 2, 1) := by decide +kernel
theorem dX4_topOf_33 : decode cX4_topOf 33 = .ok (.ireturn, 1) := by decide +kernel
set_option maxRecDepth 20000 in
theorem ggX4_heightOfShelf_X3_get : GoodIn wsX4_heightOfShelf wsX3_get := goodIn_r _ [6, 7, 26] (by decide +kernel) (by decide +kernel)
set_option maxRecDepth 20000 in
theorem gX4_heightOfShelf_X3_get : GoodIn wsX4_heightOfShelf (wsV RX4 79 RX3 yX3_get wsX3_get) := goodIn_app (goodIn_of _ (by decide +kernel)) ggX4_heightOfShelf_X3_get
theorem dX4_heightOfShelf_0 : decode cX4_heightOfShelf 0 = .ok (.aload_n 0, 1) := by decide +kernel
theorem dX4_heightOfShelf_1 : decode cX4_heightOfShelf 1 = .ok (.getfield 23, 3) := by decide +kernel
theorem dX4_heightOfShelf_4 : decode cX4_heightOfShelf 4 = .ok (.iload_n 1, 1) := by decide +kernel
theorem dX4_heightOfShelf_5 : decode cX4_heightOfShelf 5 = .ok (.invokevirtual 79, 3) := by decide +kernel
theorem dX4_heightOfShelf_8 : decode cX4_heightOfShelf 8 = .ok (.ireturn, 1) := by decide +kernel
set_option maxRecDepth 20000 in
theorem ggX4_coverOf_X3_get : GoodIn wsX4_coverOf wsX3_get := goodIn_r _ [10, 11, 30] (by decide +kernel) (by decide +kernel)
set_option maxRecDepth 20000 in
theorem gX4_coverOf_X3_get : GoodIn wsX4_coverOf (wsV RX4 79 RX3 yX3_get wsX3_get) := goodIn_app (goodIn_of _ (by decide +kernel)) ggX4_coverOf_X3_get
theorem dX4_coverOf_0 : decode cX4_coverOf 0 = .ok (.iconst 0, 1) := by decide +kernel
theorem dX4_coverOf_1 : decode cX4_coverOf 1 = .ok (.istore_n 2, 1) := by decide +kernel
theorem dX4_coverOf_2 : decode cX4_coverOf 2 = .ok (.iconst 0, 1) := by decide +kernel
theorem dX4_coverOf_3 : decode cX4_coverOf 3 = .ok (.istore_n 3, 1) := by decide +kernel
theorem dX4_coverOf_4 : decode cX4_coverOf 4 = .ok (.iload_n 3, 1) := by decide +kernel
theorem dX4_coverOf_5 : decode cX4_coverOf 5 = .ok (.aload_n 0, 1) := by decide +kernel
theorem dX4_coverOf_6 : decode cX4_coverOf 6 = .ok (.getfield 47, 3) := by decide +kernel
theorem dX4_coverOf_9 : decode cX4_coverOf 9 = .ok (.if_icmp .ge 58, 3) := by decide +kernel
theorem dX4_coverOf_12 : decode cX4_coverOf 12 = .ok (.aload_n 0, 1) := by decide +kernel
theorem dX4_coverOf_13 : decode cX4_coverOf 13 = .ok (.getfield 44, 3) := by decide +kernel
theorem dX4_coverOf_16 : decode cX4_coverOf 16 = .ok (.iload_n 3, 1) := by decide +kernel
theorem dX4_coverOf_17 : decode cX4_coverOf 17 = .ok (.invokevirtual 79, 3) := by decide +kernel
theorem dX4_coverOf_20 : decode cX4_coverOf 20 = .ok (.istore 4, 2) := by decide +kernel
theorem dX4_coverOf_22 : decode cX4_coverOf 22 = .ok (.aload_n 0, 1) := by decide +kernel
theorem dX4_coverOf_23 : decode cX4_coverOf 23 = .ok (.getfield 26, 3) := by decide +kernel
theorem dX4_coverOf_26 : decode cX4_coverOf 26 = .ok (.iload 4, 2) := by decide +kernel
theorem dX4_coverOf_28 : decode cX4_coverOf 28 = .ok (.invokevirtual 79, 3) := by decide +kernel
theorem dX4_coverOf_31 : decode cX4_coverOf 31 = .ok (.iload_n 1, 1) := by decide +kernel
theorem dX4_coverOf_32 : decode cX4_coverOf 32 = .ok (.if_icmp .ne 29, 3) := by decide +kernel
theorem dX4_coverOf_35 : decode cX4_coverOf 35 = .ok (.iload_n 2, 1) := by decide +kernel
theorem dX4_coverOf_36 : decode cX4_coverOf 36 = .ok (.iconst 1, 1) := by decide +kernel
theorem dX4_coverOf_37 : decode cX4_coverOf 37 = .ok (.aload_n 0, 1) := by decide +kernel
theorem dX4_coverOf_38 : decode cX4_coverOf 38 = .ok (.getfield 32, 3) := by decide +kernel
theorem dX4_coverOf_41 : decode cX4_coverOf 41 = .ok (.iload 4, 2) := by decide +kernel
theorem dX4_coverOf_43 : decode cX4_coverOf 43 = .ok (.invokevirtual 79, 3) := by decide +kernel
theorem dX4_coverOf_46 : decode cX4_coverOf 46 = .ok (.ishl, 1) := by decide +kernel
theorem dX4_coverOf_47 : decode cX4_coverOf 47 = .ok (.iconst 1, 1) := by decide +kernel
theorem dX4_coverOf_48 : decode cX4_coverOf 48 = .ok (.aload_n 0, 1) := by decide +kernel
theorem dX4_coverOf_49 : decode cX4_coverOf 49 = .ok (.getfield 29, 3) := by decide +kernel
theorem dX4_coverOf_52 : decode cX4_coverOf 52 = .ok (.iload 4, 2) := by decide +kernel
theorem dX4_coverOf_54 : decode cX4_coverOf 54 = .ok (.invokevirtual 79, 3) := by decide +kernel
theorem dX4_coverOf_57 : decode cX4_coverOf 57 = .ok (.ishl, 1) := by decide +kernel
theorem dX4_coverOf_58 : decode cX4_coverOf 58 = .ok (.isub, 1) := by decide +kernel
theorem dX4_coverOf_59 : decode cX4_coverOf 59 = .ok (.ior, 1) := by decide +kernel
theorem dX4_coverOf_60 : decode cX4_coverOf 60 = .ok (.istore_n 2, 1) := by decide +kernel
theorem dX4_coverOf_61 : decode cX4_coverOf 61 = .ok (.iinc 3 1, 3) := by decide +kernel
theorem dX4_coverOf_64 : decode cX4_coverOf 64 = .ok (.goto (-60), 3) := by decide +kernel
theorem dX4_coverOf_67 : decode cX4_coverOf 67 = .ok (.iload_n 2, 1) := by decide +kernel
theorem dX4_coverOf_68 : decode cX4_coverOf 68 = .ok (.ireturn, 1) := by decide +kernel
set_option maxRecDepth 20000 in
theorem ggX4_countOnShelf_X3_get : GoodIn wsX4_countOnShelf wsX3_get := goodIn_r _ [8, 9, 28] (by decide +kernel) (by decide +kernel)
set_option maxRecDepth 20000 in
theorem gX4_countOnShelf_X3_get : GoodIn wsX4_countOnShelf (wsV RX4 79 RX3 yX3_get wsX3_get) := goodIn_app (goodIn_of _ (by decide +kernel)) ggX4_countOnShelf_X3_get
theorem dX4_countOnShelf_0 : decode cX4_countOnShelf 0 = .ok (.iconst 0, 1) := by decide +kernel
theorem dX4_countOnShelf_1 : decode cX4_countOnShelf 1 = .ok (.istore_n 2, 1) := by decide +kernel
theorem dX4_countOnShelf_2 : decode cX4_countOnShelf 2 = .ok (.iconst 0, 1) := by decide +kernel
theorem dX4_countOnShelf_3 : decode cX4_countOnShelf 3 = .ok (.istore_n 3, 1) := by decide +kernel
theorem dX4_countOnShelf_4 : decode cX4_countOnShelf 4 = .ok (.iload_n 3, 1) := by decide +kernel
theorem dX4_countOnShelf_5 : decode cX4_countOnShelf 5 = .ok (.aload_n 0, 1) := by decide +kernel
theorem dX4_countOnShelf_6 : decode cX4_countOnShelf 6 = .ok (.getfield 47, 3) := by decide +kernel
theorem dX4_countOnShelf_9 : decode cX4_countOnShelf 9 = .ok (.if_icmp .ge 31, 3) := by decide +kernel
theorem dX4_countOnShelf_12 : decode cX4_countOnShelf 12 = .ok (.aload_n 0, 1) := by decide +kernel
theorem dX4_countOnShelf_13 : decode cX4_countOnShelf 13 = .ok (.getfield 26, 3) := by decide +kernel
theorem dX4_countOnShelf_16 : decode cX4_countOnShelf 16 = .ok (.aload_n 0, 1) := by decide +kernel
theorem dX4_countOnShelf_17 : decode cX4_countOnShelf 17 = .ok (.getfield 44, 3) := by decide +kernel
theorem dX4_countOnShelf_20 : decode cX4_countOnShelf 20 = .ok (.iload_n 3, 1) := by decide +kernel
theorem dX4_countOnShelf_21 : decode cX4_countOnShelf 21 = .ok (.invokevirtual 79, 3) := by decide +kernel
theorem dX4_countOnShelf_24 : decode cX4_countOnShelf 24 = .ok (.invokevirtual 79, 3) := by decide +kernel
theorem dX4_countOnShelf_27 : decode cX4_countOnShelf 27 = .ok (.iload_n 1, 1) := by decide +kernel
theorem dX4_countOnShelf_28 : decode cX4_countOnShelf 28 = .ok (.if_icmp .ne 6, 3) := by decide +kernel
theorem dX4_countOnShelf_31 : decode cX4_countOnShelf 31 = .ok (.iinc 2 1, 3) := by decide +kernel
theorem dX4_countOnShelf_34 : decode cX4_countOnShelf 34 = .ok (.iinc 3 1, 3) := by decide +kernel
theorem dX4_countOnShelf_37 : decode cX4_countOnShelf 37 = .ok (.goto (-33), 3) := by decide +kernel
theorem dX4_countOnShelf_40 : decode cX4_countOnShelf 40 = .ok (.iload_n 2, 1) := by decide +kernel
theorem dX4_countOnShelf_41 : decode cX4_countOnShelf 41 = .ok (.ireturn, 1) := by decide +kernel
set_option maxRecDepth 20000 in
theorem ggX4_latestUseOnShelf_X3_get : GoodIn wsX4_latestUseOnShelf wsX3_get := goodIn_r _ [13, 14, 33] (by decide +kernel) (by decide +kernel)
set_option maxRecDepth 20000 in
theorem gX4_latestUseOnShelf_X3_get : GoodIn wsX4_latestUseOnShelf (wsV RX4 79 RX3 yX3_get wsX3_get) := goodIn_app (goodIn_of _ (by decide +kernel)) ggX4_latestUseOnShelf_X3_get
theorem dX4_latestUseOnShelf_0 : decode cX4_latestUseOnShelf 0 = .ok (.iconst (-1), 1) := by decide +kernel
theorem dX4_latestUseOnShelf_1 : decode cX4_latestUseOnShelf 1 = .ok (.istore_n 2, 1) := by decide +kernel
theorem dX4_latestUseOnShelf_2 : decode cX4_latestUseOnShelf 2 = .ok (.iconst 0, 1) := by decide +kernel
theorem dX4_latestUseOnShelf_3 : decode cX4_latestUseOnShelf 3 = .ok (.istore_n 3, 1) := by decide +kernel
theorem dX4_latestUseOnShelf_4 : decode cX4_latestUseOnShelf 4 = .ok (.iload_n 3, 1) := by decide +kernel
theorem dX4_latestUseOnShelf_5 : decode cX4_latestUseOnShelf 5 = .ok (.aload_n 0, 1) := by decide +kernel
theorem dX4_latestUseOnShelf_6 : decode cX4_latestUseOnShelf 6 = .ok (.getfield 47, 3) := by decide +kernel
theorem dX4_latestUseOnShelf_9 : decode cX4_latestUseOnShelf 9 = .ok (.if_icmp .ge 46, 3) := by decide +kernel
theorem dX4_latestUseOnShelf_12 : decode cX4_latestUseOnShelf 12 = .ok (.aload_n 0, 1) := by decide +kernel
theorem dX4_latestUseOnShelf_13 : decode cX4_latestUseOnShelf 13 = .ok (.getfield 44, 3) := by decide +kernel
theorem dX4_latestUseOnShelf_16 : decode cX4_latestUseOnShelf 16 = .ok (.iload_n 3, 1) := by decide +kernel
theorem dX4_latestUseOnShelf_17 : decode cX4_latestUseOnShelf 17 = .ok (.invokevirtual 79, 3) := by decide +kernel
theorem dX4_latestUseOnShelf_20 : decode cX4_latestUseOnShelf 20 = .ok (.istore 4, 2) := by decide +kernel
theorem dX4_latestUseOnShelf_22 : decode cX4_latestUseOnShelf 22 = .ok (.aload_n 0, 1) := by decide +kernel
theorem dX4_latestUseOnShelf_23 : decode cX4_latestUseOnShelf 23 = .ok (.getfield 26, 3) := by decide +kernel
theorem dX4_latestUseOnShelf_26 : decode cX4_latestUseOnShelf 26 = .ok (.iload 4, 2) := by decide +kernel
theorem dX4_latestUseOnShelf_28 : decode cX4_latestUseOnShelf 28 = .ok (.invokevirtual 79, 3) := by decide +kernel
theorem dX4_latestUseOnShelf_31 : decode cX4_latestUseOnShelf 31 = .ok (.iload_n 1, 1) := by decide +kernel
theorem dX4_latestUseOnShelf_32 : decode cX4_latestUseOnShelf 32 = .ok (.if_icmp .ne 17, 3) := by decide +kernel
theorem dX4_latestUseOnShelf_35 : decode cX4_latestUseOnShelf 35 = .ok (.iload_n 2, 1) := by decide +kernel
theorem dX4_latestUseOnShelf_36 : decode cX4_latestUseOnShelf 36 = .ok (.aload_n 0, 1) := by decide +kernel
theorem dX4_latestUseOnShelf_37 : decode cX4_latestUseOnShelf 37 = .ok (.getfield 35, 3) := by decide +kernel
theorem dX4_latestUseOnShelf_40 : decode cX4_latestUseOnShelf 40 = .ok (.iload 4, 2) := by decide +kernel
theorem dX4_latestUseOnShelf_42 : decode cX4_latestUseOnShelf 42 = .ok (.invokevirtual 79, 3) := by decide +kernel
theorem dX4_latestUseOnShelf_45 : decode cX4_latestUseOnShelf 45 = .ok (.invokestatic 202, 3) := by decide +kernel
theorem dX4_latestUseOnShelf_48 : decode cX4_latestUseOnShelf 48 = .ok (.istore_n 2, 1) := by decide +kernel
theorem dX4_latestUseOnShelf_49 : decode cX4_latestUseOnShelf 49 = .ok (.iinc 3 1, 3) := by decide +kernel
theorem dX4_latestUseOnShelf_52 : decode cX4_latestUseOnShelf 52 = .ok (.goto (-48), 3) := by decide +kernel
theorem dX4_latestUseOnShelf_55 : decode cX4_latestUseOnShelf 55 = .ok (.iload_n 2, 1) := by decide +kernel
theorem dX4_latestUseOnShelf_56 : decode cX4_latestUseOnShelf 56 = .ok (.ireturn, 1) := by decide +kernel
set_option maxRecDepth 20000 in
theorem ggX4_hasLetterOfLine_X3_get : GoodIn wsX4_hasLetterOfLine wsX3_get := goodIn_r _ [8, 9, 35] (by decide +kernel) (by decide +kernel)
set_option maxRecDepth 20000 in
theorem gX4_hasLetterOfLine_X3_get : GoodIn wsX4_hasLetterOfLine (wsV RX4 79 RX3 yX3_get wsX3_get) := goodIn_app (goodIn_of _ (by decide +kernel)) ggX4_hasLetterOfLine_X3_get
set_option maxRecDepth 20000 in
theorem ggX4_hasLetterOfLine_X4_isOfLine : GoodIn wsX4_hasLetterOfLine wsX4_isOfLine := goodIn_r _ [14, 15, 16, 4, 5, 6, 7, 8, 9, 17, 18, 19, 20, 21, 22, 23, 24, 25, 26, 27, 28, 29, 30, 31, 32, 33, 34, 35] (by decide +kernel) (by decide +kernel)
set_option maxRecDepth 20000 in
theorem gX4_hasLetterOfLine_X4_isOfLine : GoodIn wsX4_hasLetterOfLine (wsV RX4 207 RX4 yX4_isOfLine wsX4_isOfLine) := goodIn_app (goodIn_of _ (by decide +kernel)) ggX4_hasLetterOfLine_X4_isOfLine
theorem dX4_hasLetterOfLine_0 : decode cX4_hasLetterOfLine 0 = .ok (.iconst 0, 1) := by decide +kernel
theorem dX4_hasLetterOfLine_1 : decode cX4_hasLetterOfLine 1 = .ok (.istore_n 2, 1) := by decide +kernel
theorem dX4_hasLetterOfLine_2 : decode cX4_hasLetterOfLine 2 = .ok (.iload_n 2, 1) := by decide +kernel
theorem dX4_hasLetterOfLine_3 : decode cX4_hasLetterOfLine 3 = .ok (.aload_n 0, 1) := by decide +kernel
theorem dX4_hasLetterOfLine_4 : decode cX4_hasLetterOfLine 4 = .ok (.getfield 47, 3) := by decide +kernel
theorem dX4_hasLetterOfLine_7 : decode cX4_hasLetterOfLine 7 = .ok (.if_icmp .ge 40, 3) := by decide +kernel
theorem dX4_hasLetterOfLine_10 : decode cX4_hasLetterOfLine 10 = .ok (.aload_n 0, 1) := by decide +kernel
theorem dX4_hasLetterOfLine_11 : decode cX4_hasLetterOfLine 11 = .ok (.getfield 44, 3) := by decide +kernel
theorem dX4_hasLetterOfLine_14 : decode cX4_hasLetterOfLine 14 = .ok (.iload_n 2, 1) := by decide +kernel
theorem dX4_hasLetterOfLine_15 : decode cX4_hasLetterOfLine 15 = .ok (.invokevirtual 79, 3) := by decide +kernel
theorem dX4_hasLetterOfLine_18 : decode cX4_hasLetterOfLine 18 = .ok (.istore_n 3, 1) := by decide +kernel
theorem dX4_hasLetterOfLine_19 : decode cX4_hasLetterOfLine 19 = .ok (.aload_n 0, 1) := by decide +kernel
theorem dX4_hasLetterOfLine_20 : decode cX4_hasLetterOfLine 20 = .ok (.getfield 26, 3) := by decide +kernel
theorem dX4_hasLetterOfLine_23 : decode cX4_hasLetterOfLine 23 = .ok (.iload_n 3, 1) := by decide +kernel
theorem dX4_hasLetterOfLine_24 : decode cX4_hasLetterOfLine 24 = .ok (.invokevirtual 79, 3) := by decide +kernel
theorem dX4_hasLetterOfLine_27 : decode cX4_hasLetterOfLine 27 = .ok (.iload_n 1, 1) := by decide +kernel
theorem dX4_hasLetterOfLine_28 : decode cX4_hasLetterOfLine 28 = .ok (.if_icmp .ne 13, 3) := by decide +kernel
theorem dX4_hasLetterOfLine_31 : decode cX4_hasLetterOfLine 31 = .ok (.aload_n 0, 1) := by decide +kernel
theorem dX4_hasLetterOfLine_32 : decode cX4_hasLetterOfLine 32 = .ok (.iload_n 3, 1) := by decide +kernel
theorem dX4_hasLetterOfLine_33 : decode cX4_hasLetterOfLine 33 = .ok (.invokevirtual 207, 3) := by decide +kernel
theorem dX4_hasLetterOfLine_36 : decode cX4_hasLetterOfLine 36 = .ok (.ifCond .eq 5, 3) := by decide +kernel
theorem dX4_hasLetterOfLine_39 : decode cX4_hasLetterOfLine 39 = .ok (.iconst 1, 1) := by decide +kernel
theorem dX4_hasLetterOfLine_40 : decode cX4_hasLetterOfLine 40 = .ok (.ireturn, 1) := by decide +kernel
theorem dX4_hasLetterOfLine_41 : decode cX4_hasLetterOfLine 41 = .ok (.iinc 2 1, 3) := by decide +kernel
theorem dX4_hasLetterOfLine_44 : decode cX4_hasLetterOfLine 44 = .ok (.goto (-42), 3) := by decide +kernel
theorem dX4_hasLetterOfLine_47 : decode cX4_hasLetterOfLine 47 = .ok (.iconst 0, 1) := by decide +kernel
theorem dX4_hasLetterOfLine_48 : decode cX4_hasLetterOfLine 48 = .ok (.ireturn, 1) := by decide +kernel
set_option maxRecDepth 20000 in
theorem ggX4_countInStreet_X3_get : GoodIn wsX4_countInStreet wsX3_get := goodIn_r _ [7, 8, 33] (by decide +kernel) (by decide +kernel)
set_option maxRecDepth 20000 in
theorem gX4_countInStreet_X3_get : GoodIn wsX4_countInStreet (wsV RX4 79 RX3 yX3_get wsX3_get) := goodIn_app (goodIn_of _ (by decide +kernel)) ggX4_countInStreet_X3_get
set_option maxRecDepth 20000 in
theorem ggX4_countInStreet_X4_isInStreet : GoodIn wsX4_countInStreet wsX4_isInStreet := goodIn_r _ [13, 14, 3, 4, 5, 6, 7, 8, 15, 16, 17, 18, 19, 20, 21, 22, 23, 24, 25, 26, 27, 28, 29, 30, 31, 32, 33] (by decide +kernel) (by decide +kernel)
set_option maxRecDepth 20000 in
theorem gX4_countInStreet_X4_isInStreet : GoodIn wsX4_countInStreet (wsV RX4 162 RX4 yX4_isInStreet wsX4_isInStreet) := goodIn_app (goodIn_of _ (by decide +kernel)) ggX4_countInStreet_X4_isInStreet
theorem dX4_countInStreet_0 : decode cX4_countInStreet 0 = .ok (.iconst 0, 1) := by decide +kernel
theorem dX4_countInStreet_1 : decode cX4_countInStreet 1 = .ok (.istore_n 1, 1) := by decide +kernel
theorem dX4_countInStreet_2 : decode cX4_countInStreet 2 = .ok (.iconst 0, 1) := by decide +kernel
theorem dX4_countInStreet_3 : decode cX4_countInStreet 3 = .ok (.istore_n 2, 1) := by decide +kernel
theorem dX4_countInStreet_4 : decode cX4_countInStreet 4 = .ok (.iload_n 2, 1) := by decide +kernel
theorem dX4_countInStreet_5 : decode cX4_countInStreet 5 = .ok (.aload_n 0, 1) := by decide +kernel
theorem dX4_countInStreet_6 : decode cX4_countInStreet 6 = .ok (.getfield 47, 3) := by decide +kernel
theorem dX4_countInStreet_9 : decode cX4_countInStreet 9 = .ok (.if_icmp .ge 27, 3) := by decide +kernel
theorem dX4_countInStreet_12 : decode cX4_countInStreet 12 = .ok (.aload_n 0, 1) := by decide +kernel
theorem dX4_countInStreet_13 : decode cX4_countInStreet 13 = .ok (.aload_n 0, 1) := by decide +kernel
theorem dX4_countInStreet_14 : decode cX4_countInStreet 14 = .ok (.getfield 44, 3) := by decide +kernel
theorem dX4_countInStreet_17 : decode cX4_countInStreet 17 = .ok (.iload_n 2, 1) := by decide +kernel
theorem dX4_countInStreet_18 : decode cX4_countInStreet 18 = .ok (.invokevirtual 79, 3) := by decide +kernel
theorem dX4_countInStreet_21 : decode cX4_countInStreet 21 = .ok (.invokevirtual 162, 3) := by decide +kernel
theorem dX4_countInStreet_24 : decode cX4_countInStreet 24 = .ok (.ifCond .eq 6, 3) := by decide +kernel
theorem dX4_countInStreet_27 : decode cX4_countInStreet 27 = .ok (.iinc 1 1, 3) := by decide +kernel
theorem dX4_countInStreet_30 : decode cX4_countInStreet 30 = .ok (.iinc 2 1, 3) := by decide +kernel
theorem dX4_countInStreet_33 : decode cX4_countInStreet 33 = .ok (.goto (-29), 3) := by decide +kernel
theorem dX4_countInStreet_36 : decode cX4_countInStreet 36 = .ok (.iload_n 1, 1) := by decide +kernel
theorem dX4_countInStreet_37 : decode cX4_countInStreet 37 = .ok (.ireturn, 1) := by decide +kernel
set_option maxRecDepth 20000 in
theorem ggX4_letterOfStreet_X3_get : GoodIn wsX4_letterOfStreet wsX3_get := goodIn_r _ [7, 8, 33] (by decide +kernel) (by decide +kernel)
set_option maxRecDepth 20000 in
theorem gX4_letterOfStreet_X3_get : GoodIn wsX4_letterOfStreet (wsV RX4 79 RX3 yX3_get wsX3_get) := goodIn_app (goodIn_of _ (by decide +kernel)) ggX4_letterOfStreet_X3_get
set_option maxRecDepth 20000 in
theorem ggX4_letterOfStreet_X4_isInStreet : GoodIn wsX4_letterOfStreet wsX4_isInStreet := goodIn_r _ [13, 14, 3, 4, 5, 6, 7, 8, 15, 16, 17, 18, 19, 20, 21, 22, 23, 24, 25, 26, 27, 28, 29, 30, 31, 32, 33] (by decide +kernel) (by decide +kernel)
set_option maxRecDepth 20000 in
theorem gX4_letterOfStreet_X4_isInStreet : GoodIn wsX4_letterOfStreet (wsV RX4 162 RX4 yX4_isInStreet wsX4_isInStreet) := goodIn_app (goodIn_of _ (by decide +kernel)) ggX4_letterOfStreet_X4_isInStreet
theorem dX4_letterOfStreet_0 : decode cX4_letterOfStreet 0 = .ok (.iconst 0, 1) := by decide +kernel
theorem dX4_letterOfStreet_1 : decode cX4_letterOfStreet 1 = .ok (.istore_n 2, 1) := by decide +kernel
theorem dX4_letterOfStreet_2 : decode cX4_letterOfStreet 2 = .ok (.iconst 0, 1) := by decide +kernel
theorem dX4_letterOfStreet_3 : decode cX4_letterOfStreet 3 = .ok (.istore_n 3, 1) := by decide +kernel
theorem dX4_letterOfStreet_4 : decode cX4_letterOfStreet 4 = .ok (.iload_n 3, 1) := by decide +kernel
theorem dX4_letterOfStreet_5 : decode cX4_letterOfStreet 5 = .ok (.aload_n 0, 1) := by decide +kernel
theorem dX4_letterOfStreet_6 : decode cX4_letterOfStreet 6 = .ok (.getfield 47, 3) := by decide +kernel
theorem dX4_letterOfStreet_9 : decode cX4_letterOfStreet 9 = .ok (.if_icmp .ge 39, 3) := by decide +kernel
theorem dX4_letterOfStreet_12 : decode cX4_letterOfStreet 12 = .ok (.aload_n 0, 1) := by decide +kernel
theorem dX4_letterOfStreet_13 : decode cX4_letterOfStreet 13 = .ok (.getfield 44, 3) := by decide +kernel
theorem dX4_letterOfStreet_16 : decode cX4_letterOfStreet 16 = .ok (.iload_n 3, 1) := by decide +kernel
theorem dX4_letterOfStreet_17 : decode cX4_letterOfStreet 17 = .ok (.invokevirtual 79, 3) := by decide +kernel
theorem dX4_letterOfStreet_20 : decode cX4_letterOfStreet 20 = .ok (.istore 4, 2) := by decide +kernel
theorem dX4_letterOfStreet_22 : decode cX4_letterOfStreet 22 = .ok (.aload_n 0, 1) := by decide +kernel
theorem dX4_letterOfStreet_23 : decode cX4_letterOfStreet 23 = .ok (.iload 4, 2) := by decide +kernel
theorem dX4_letterOfStreet_25 : decode cX4_letterOfStreet 25 = .ok (.invokevirtual 162, 3) := by decide +kernel
theorem dX4_letterOfStreet_28 : decode cX4_letterOfStreet 28 = .ok (.ifCond .eq 14, 3) := by decide +kernel
theorem dX4_letterOfStreet_31 : decode cX4_letterOfStreet 31 = .ok (.iload_n 2, 1) := by decide +kernel
theorem dX4_letterOfStreet_32 : decode cX4_letterOfStreet 32 = .ok (.iload_n 1, 1) := by decide +kernel
theorem dX4_letterOfStreet_33 : decode cX4_letterOfStreet 33 = .ok (.if_icmp .ne 6, 3) := by decide +kernel
theorem dX4_letterOfStreet_36 : decode cX4_letterOfStreet 36 = .ok (.iload 4, 2) := by decide +kernel
theorem dX4_letterOfStreet_38 : decode cX4_letterOfStreet 38 = .ok (.ireturn, 1) := by decide +kernel
theorem dX4_letterOfStreet_39 : decode cX4_letterOfStreet 39 = .ok (.iinc 2 1, 3) := by decide +kernel
theorem dX4_letterOfStreet_42 : decode cX4_letterOfStreet 42 = .ok (.iinc 3 1, 3) := by decide +kernel
theorem dX4_letterOfStreet_45 : decode cX4_letterOfStreet 45 = .ok (.goto (-41), 3) := by decide +kernel
theorem dX4_letterOfStreet_48 : decode cX4_letterOfStreet 48 = .ok (.iconst (-1), 1) := by decide +kernel
theorem dX4_letterOfStreet_49 : decode cX4_letterOfStreet 49 = .ok (.ireturn, 1) := by decide +kernel
set_option maxRecDepth 20000 in
theorem ggX4_oldestOfStreetThatMayGo_X3_get : GoodIn wsX4_oldestOfStreetThatMayGo wsX3_get := goodIn_r _ [7, 8, 44] (by decide +kernel) (by decide +kernel)
set_option maxRecDepth 20000 in
theorem gX4_oldestOfStreetThatMayGo_X3_get : GoodIn wsX4_oldestOfStreetThatMayGo (wsV RX4 79 RX3 yX3_get wsX3_get) := goodIn_app (goodIn_of _ (by decide +kernel)) ggX4_oldestOfStreetThatMayGo_X3_get
set_option maxRecDepth 20000 in
theorem ggX4_oldestOfStreetThatMayGo_X4_isInStreet : GoodIn wsX4_oldestOfStreetThatMayGo wsX4_isInStreet := goodIn_r _ [13, 14, 3, 4, 5, 6, 7, 8, 26, 27, 28, 29, 30, 31, 32, 33, 34, 35, 36, 37, 38, 39, 40, 41, 42, 43, 44] (by decide +kernel) (by decide +kernel)
set_option maxRecDepth 20000 in
theorem gX4_oldestOfStreetThatMayGo_X4_isInStreet : GoodIn wsX4_oldestOfStreetThatMayGo (wsV RX4 162 RX4 yX4_isInStreet wsX4_isInStreet) := goodIn_app (goodIn_of _ (by decide +kernel)) ggX4_oldestOfStreetThatMayGo_X4_isInStreet
set_option maxRecDepth 20000 in
theorem ggX4_oldestOfStreetThatMayGo_X4_isOfLine : GoodIn wsX4_oldestOfStreetThatMayGo wsX4_isOfLine := goodIn_r _ [18, 19, 20, 3, 4, 5, 6, 7, 8, 26, 27, 28, 29, 30, 31, 32, 33, 34, 35, 36, 37, 38, 39, 40, 41, 42, 43, 44] (by decide +kernel) (by decide +kernel)
set_option maxRecDepth 20000 in
theorem gX4_oldestOfStreetThatMayGo_X4_isOfLine : GoodIn wsX4_oldestOfStreetThatMayGo (wsV RX4 207 RX4 yX4_isOfLine wsX4_isOfLine) := goodIn_app (goodIn_of _ (by decide +kernel)) ggX4_oldestOfStreetThatMayGo_X4_isOfLine
set_option maxRecDepth 20000 in
theorem ggX4_oldestOfStreetThatMayGo_X4_isOlder : GoodIn wsX4_oldestOfStreetThatMayGo wsX4_isOlder := goodIn_r _ [24, 25, 3, 4, 5, 6, 7, 8, 26, 27, 28, 29, 30, 31, 32, 33, 34, 35, 36, 37, 38, 39, 40, 41, 42, 43, 44] (by decide +kernel) (by decide +kernel)
set_option maxRecDepth 20000 in
theorem gX4_oldestOfStreetThatMayGo_X4_isOlder : GoodIn wsX4_oldestOfStreetThatMayGo (wsV RX4 210 RX4 yX4_isOlder wsX4_isOlder) := goodIn_app (goodIn_of _ (by decide +kernel)) ggX4_oldestOfStreetThatMayGo_X4_isOlder
theorem dX4_oldestOfStreetThatMayGo_0 : decode cX4_oldestOfStreetThatMayGo 0 = .ok (.iconst (-1), 1) := by decide +kernel
theorem dX4_oldestOfStreetThatMayGo_1 : decode cX4_oldestOfStreetThatMayGo 1 = .ok (.istore_n 1, 1) := by decide +kernel
theorem dX4_oldestOfStreetThatMayGo_2 : decode cX4_oldestOfStreetThatMayGo 2 = .ok (.iconst 0, 1) := by decide +kernel
theorem dX4_oldestOfStreetThatMayGo_3 : decode cX4_oldestOfStreetThatMayGo 3 = .ok (.istore_n 2, 1) := by decide +kernel
theorem dX4_oldestOfStreetThatMayGo_4 : decode cX4_oldestOfStreetThatMayGo 4 = .ok (.iload_n 2, 1) := by decide +kernel
theorem dX4_oldestOfStreetThatMayGo_5 : decode cX4_oldestOfStreetThatMayGo 5 = .ok (.aload_n 0, 1) := by decide +kernel
theorem dX4_oldestOfStreetThatMayGo_6 : decode cX4_oldestOfStreetThatMayGo 6 = .ok (.getfield 47, 3) := by decide +kernel
theorem dX4_oldestOfStreetThatMayGo_9 : decode cX4_oldestOfStreetThatMayGo 9 = .ok (.if_icmp .ge 45, 3) := by decide +kernel
theorem dX4_oldestOfStreetThatMayGo_12 : decode cX4_oldestOfStreetThatMayGo 12 = .ok (.aload_n 0, 1) := by decide +kernel
theorem dX4_oldestOfStreetThatMayGo_13 : decode cX4_oldestOfStreetThatMayGo 13 = .ok (.getfield 44, 3) := by decide +kernel
theorem dX4_oldestOfStreetThatMayGo_16 : decode cX4_oldestOfStreetThatMayGo 16 = .ok (.iload_n 2, 1) := by decide +kernel
theorem dX4_oldestOfStreetThatMayGo_17 : decode cX4_oldestOfStreetThatMayGo 17 = .ok (.invokevirtual 79, 3) := by decide +kernel
theorem dX4_oldestOfStreetThatMayGo_20 : decode cX4_oldestOfStreetThatMayGo 20 = .ok (.istore_n 3, 1) := by decide +kernel
theorem dX4_oldestOfStreetThatMayGo_21 : decode cX4_oldestOfStreetThatMayGo 21 = .ok (.aload_n 0, 1) := by decide +kernel
theorem dX4_oldestOfStreetThatMayGo_22 : decode cX4_oldestOfStreetThatMayGo 22 = .ok (.iload_n 3, 1) := by decide +kernel
theorem dX4_oldestOfStreetThatMayGo_23 : decode cX4_oldestOfStreetThatMayGo 23 = .ok (.invokevirtual 162, 3) := by decide +kernel
theorem dX4_oldestOfStreetThatMayGo_26 : decode cX4_oldestOfStreetThatMayGo 26 = .ok (.ifCond .eq 22, 3) := by decide +kernel
theorem dX4_oldestOfStreetThatMayGo_29 : decode cX4_oldestOfStreetThatMayGo 29 = .ok (.aload_n 0, 1) := by decide +kernel
theorem dX4_oldestOfStreetThatMayGo_30 : decode cX4_oldestOfStreetThatMayGo 30 = .ok (.iload_n 3, 1) := by decide +kernel
theorem dX4_oldestOfStreetThatMayGo_31 : decode cX4_oldestOfStreetThatMayGo 31 = .ok (.invokevirtual 207, 3) := by decide +kernel
theorem dX4_oldestOfStreetThatMayGo_34 : decode cX4_oldestOfStreetThatMayGo 34 = .ok (.ifCond .ne 14, 3) := by decide +kernel
theorem dX4_oldestOfStreetThatMayGo_37 : decode cX4_oldestOfStreetThatMayGo 37 = .ok (.aload_n 0, 1) := by decide +kernel
theorem dX4_oldestOfStreetThatMayGo_38 : decode cX4_oldestOfStreetThatMayGo 38 = .ok (.iload_n 3, 1) := by decide +kernel
theorem dX4_oldestOfStreetThatMayGo_39 : decode cX4_oldestOfStreetThatMayGo 39 = .ok (.iload_n 1, 1) := by decide +kernel
theorem dX4_oldestOfStreetThatMayGo_40 : decode cX4_oldestOfStreetThatMayGo 40 = .ok (.invokevirtual 210, 3) := by decide +kernel
theorem dX4_oldestOfStreetThatMayGo_43 : decode cX4_oldestOfStreetThatMayGo 43 = .ok (.ifCond .eq 5, 3) := by decide +kernel
theorem dX4_oldestOfStreetThatMayGo_46 : decode cX4_oldestOfStreetThatMayGo 46 = .ok (.iload_n 3, 1) := by decide +kernel
theorem dX4_oldestOfStreetThatMayGo_47 : decode cX4_oldestOfStreetThatMayGo 47 = .ok (.istore_n 1, 1) := by decide +kernel
theorem dX4_oldestOfStreetThatMayGo_48 : decode cX4_oldestOfStreetThatMayGo 48 = .ok (.iinc 2 1, 3) := by decide +kernel
theorem dX4_oldestOfStreetThatMayGo_51 : decode cX4_oldestOfStreetThatMayGo 51 = .ok (.goto (-47), 3) := by decide +kernel
theorem dX4_oldestOfStreetThatMayGo_54 : decode cX4_oldestOfStreetThatMayGo 54 = .ok (.iload_n 1, 1) := by decide +kernel
theorem dX4_oldestOfStreetThatMayGo_55 : decode cX4_oldestOfStreetThatMayGo 55 = .ok (.ireturn, 1) := by decide +kernel
set_option maxRecDepth 20000 in
theorem ggX4_wholeValue_X4_countAllShelves : GoodIn wsX4_wholeValue wsX4_countAllShelves := goodIn_r _ [13, 1, 14, 15, 16, 12, 17, 18, 19, 20, 21, 22, 23, 24, 73, 74, 75, 76, 77, 78, 79, 80, 81, 82, 83, 84, 85, 86, 87, 88, 89, 90, 91] (by decide +kernel) (by decide +kernel)
set_option maxRecDepth 20000 in
theorem gX4_wholeValue_X4_countAllShelves : GoodIn wsX4_wholeValue (wsV RX4 213 RX4 yX4_countAllShelves wsX4_countAllShelves) := goodIn_app (goodIn_of _ (by decide +kernel)) ggX4_wholeValue_X4_countAllShelves
set_option maxRecDepth 20000 in
theorem ggX4_wholeValue_X4_countInStreet : GoodIn wsX4_wholeValue wsX4_countInStreet := goodIn_r _ [28, 2, 29, 19, 20, 21, 22, 23, 24, 30, 31, 32, 12, 33, 34, 73, 74, 75, 76, 77, 78, 79, 80, 81, 82, 83, 84, 85, 86, 87, 88, 89, 90, 91] (by decide +kernel) (by decide +kernel)
set_option maxRecDepth 20000 in
theorem gX4_wholeValue_X4_countInStreet : GoodIn wsX4_wholeValue (wsV RX4 216 RX4 yX4_countInStreet wsX4_countInStreet) := goodIn_app (goodIn_of _ (by decide +kernel)) ggX4_wholeValue_X4_countInStreet
set_option maxRecDepth 20000 in
theorem ggX4_wholeValue_X4_countOfLine : GoodIn wsX4_wholeValue wsX4_countOfLine := goodIn_r _ [38, 2, 29, 19, 20, 21, 22, 23, 24, 39, 40, 41, 12, 42, 43, 3, 73, 74, 75, 76, 77, 78, 79, 80, 81, 82, 83, 84, 85, 86, 87, 88, 89, 90, 91] (by decide +kernel) (by decide +kernel)
set_option maxRecDepth 20000 in
theorem gX4_wholeValue_X4_countOfLine : GoodIn wsX4_wholeValue (wsV RX4 124 RX4 yX4_countOfLine wsX4_countOfLine) := goodIn_app (goodIn_of _ (by decide +kernel)) ggX4_wholeValue_X4_countOfLine
set_option maxRecDepth 20000 in
theorem ggX4_wholeValue_X4_areaLaid : GoodIn wsX4_wholeValue wsX4_areaLaid := goodIn_r _ [47, 2, 29, 19, 20, 21, 22, 23, 24, 48, 49, 50, 12, 51, 34, 52, 53, 54, 55, 56, 57, 58, 59, 60, 61, 62, 63, 64, 65, 66, 67, 68, 69, 70, 71, 72, 73, 74, 75, 76, 77, 78, 79, 80, 81, 82, 83, 84, 85, 86, 87, 88, 89, 90, 91] (by decide +kernel) (by decide +kernel)
set_option maxRecDepth 20000 in
theorem gX4_wholeValue_X4_areaLaid : GoodIn wsX4_wholeValue (wsV RX4 219 RX4 yX4_areaLaid wsX4_areaLaid) := goodIn_app (goodIn_of _ (by decide +kernel)) ggX4_wholeValue_X4_areaLaid
theorem dX4_wholeValue_0 : decode cX4_wholeValue 0 = .ok (.iload_n 1, 1) := by decide +kernel
theorem dX4_wholeValue_1 : decode cX4_wholeValue 1 = .ok (.tableswitch 119 0 10 #[59, 64, 69, 79, 84, 89, 94, 99, 104, 109, 114], 59) := by decide +kernel
theorem dX4_wholeValue_60 : decode cX4_wholeValue 60 = .ok (.aload_n 0, 1) := by decide +kernel
theorem dX4_wholeValue_61 : decode cX4_wholeValue 61 = .ok (.getfield 51, 3) := by decide +kernel
theorem dX4_wholeValue_64 : decode cX4_wholeValue 64 = .ok (.ireturn, 1) := by decide +kernel
theorem dX4_wholeValue_65 : decode cX4_wholeValue 65 = .ok (.aload_n 0, 1) := by decide +kernel
theorem dX4_wholeValue_66 : decode cX4_wholeValue 66 = .ok (.invokevirtual 213, 3) := by decide +kernel
theorem dX4_wholeValue_69 : decode cX4_wholeValue 69 = .ok (.ireturn, 1) := by decide +kernel
theorem dX4_wholeValue_70 : decode cX4_wholeValue 70 = .ok (.aload_n 0, 1) := by decide +kernel
theorem dX4_wholeValue_71 : decode cX4_wholeValue 71 = .ok (.getfield 47, 3) := by decide +kernel
theorem dX4_wholeValue_74 : decode cX4_wholeValue 74 = .ok (.aload_n 0, 1) := by decide +kernel
theorem dX4_wholeValue_75 : decode cX4_wholeValue 75 = .ok (.invokevirtual 216, 3) := by decide +kernel
theorem dX4_wholeValue_78 : decode cX4_wholeValue 78 = .ok (.isub, 1) := by decide +kernel
theorem dX4_wholeValue_79 : decode cX4_wholeValue 79 = .ok (.ireturn, 1) := by decide +kernel
theorem dX4_wholeValue_80 : decode cX4_wholeValue 80 = .ok (.aload_n 0, 1) := by decide +kernel
theorem dX4_wholeValue_81 : decode cX4_wholeValue 81 = .ok (.invokevirtual 216, 3) := by decide +kernel
theorem dX4_wholeValue_84 : decode cX4_wholeValue 84 = .ok (.ireturn, 1) := by decide +kernel
theorem dX4_wholeValue_85 : decode cX4_wholeValue 85 = .ok (.aload_n 0, 1) := by decide +kernel
theorem dX4_wholeValue_86 : decode cX4_wholeValue 86 = .ok (.getfield 54, 3) := by decide +kernel
theorem dX4_wholeValue_89 : decode cX4_wholeValue 89 = .ok (.ireturn, 1) := by decide +kernel
theorem dX4_wholeValue_90 : decode cX4_wholeValue 90 = .ok (.aload_n 0, 1) := by decide +kernel
theorem dX4_wholeValue_91 : decode cX4_wholeValue 91 = .ok (.getfield 57, 3) := by decide +kernel
theorem dX4_wholeValue_94 : decode cX4_wholeValue 94 = .ok (.ireturn, 1) := by decide +kernel
theorem dX4_wholeValue_95 : decode cX4_wholeValue 95 = .ok (.aload_n 0, 1) := by decide +kernel
theorem dX4_wholeValue_96 : decode cX4_wholeValue 96 = .ok (.getfield 60, 3) := by decide +kernel
theorem dX4_wholeValue_99 : decode cX4_wholeValue 99 = .ok (.ireturn, 1) := by decide +kernel
theorem dX4_wholeValue_100 : decode cX4_wholeValue 100 = .ok (.aload_n 0, 1) := by decide +kernel
theorem dX4_wholeValue_101 : decode cX4_wholeValue 101 = .ok (.getfield 63, 3) := by decide +kernel
theorem dX4_wholeValue_104 : decode cX4_wholeValue 104 = .ok (.ireturn, 1) := by decide +kernel
theorem dX4_wholeValue_105 : decode cX4_wholeValue 105 = .ok (.aload_n 0, 1) := by decide +kernel
theorem dX4_wholeValue_106 : decode cX4_wholeValue 106 = .ok (.getfield 66, 3) := by decide +kernel
theorem dX4_wholeValue_109 : decode cX4_wholeValue 109 = .ok (.ireturn, 1) := by decide +kernel
theorem dX4_wholeValue_110 : decode cX4_wholeValue 110 = .ok (.aload_n 0, 1) := by decide +kernel
theorem dX4_wholeValue_111 : decode cX4_wholeValue 111 = .ok (.getfield 69, 3) := by decide +kernel
theorem dX4_wholeValue_114 : decode cX4_wholeValue 114 = .ok (.ireturn, 1) := by decide +kernel
theorem dX4_wholeValue_115 : decode cX4_wholeValue 115 = .ok (.aload_n 0, 1) := by decide +kernel
theorem dX4_wholeValue_116 : decode cX4_wholeValue 116 = .ok (.invokevirtual 124, 3) := by decide +kernel
theorem dX4_wholeValue_119 : decode cX4_wholeValue 119 = .ok (.ireturn, 1) := by decide +kernel
theorem dX4_wholeValue_120 : decode cX4_wholeValue 120 = .ok (.aload_n 0, 1) := by decide +kernel
theorem dX4_wholeValue_121 : decode cX4_wholeValue 121 = .ok (.invokevirtual 219, 3) := by decide +kernel
theorem dX4_wholeValue_124 : decode cX4_wholeValue 124 = .ok (.ireturn, 1) := by decide +kernel
set_option maxRecDepth 20000 in
theorem ggX4_countAllShelves_X4_countShelves : GoodIn wsX4_countAllShelves wsX4_countShelves := goodIn_r _ [6, 7, 8, 9, 10, 11, 12, 13, 14, 15, 16, 17, 18, 19, 20, 21, 22, 23, 24, 25, 26, 27, 28, 29, 30, 31, 32] (by decide +kernel) (by decide +kernel)
set_option maxRecDepth 20000 in
theorem gX4_countAllShelves_X4_countShelves : GoodIn wsX4_countAllShelves (wsV RX4 165 RX4 yX4_countShelves wsX4_countShelves) := goodIn_app (goodIn_of _ (by decide +kernel)) ggX4_countAllShelves_X4_countShelves
theorem dX4_countAllShelves_0 : decode cX4_countAllShelves 0 = .ok (.iconst 0, 1) := by decide +kernel
theorem dX4_countAllShelves_1 : decode cX4_countAllShelves 1 = .ok (.istore_n 1, 1) := by decide +kernel
theorem dX4_countAllShelves_2 : decode cX4_countAllShelves 2 = .ok (.iconst 0, 1) := by decide +kernel
theorem dX4_countAllShelves_3 : decode cX4_countAllShelves 3 = .ok (.istore_n 2, 1) := by decide +kernel
theorem dX4_countAllShelves_4 : decode cX4_countAllShelves 4 = .ok (.iload_n 2, 1) := by decide +kernel
theorem dX4_countAllShelves_5 : decode cX4_countAllShelves 5 = .ok (.aload_n 0, 1) := by decide +kernel
theorem dX4_countAllShelves_6 : decode cX4_countAllShelves 6 = .ok (.getfield 51, 3) := by decide +kernel
theorem dX4_countAllShelves_9 : decode cX4_countAllShelves 9 = .ok (.if_icmp .ge 17, 3) := by decide +kernel
theorem dX4_countAllShelves_12 : decode cX4_countAllShelves 12 = .ok (.iload_n 1, 1) := by decide +kernel
theorem dX4_countAllShelves_13 : decode cX4_countAllShelves 13 = .ok (.aload_n 0, 1) := by decide +kernel
theorem dX4_countAllShelves_14 : decode cX4_countAllShelves 14 = .ok (.iload_n 2, 1) := by decide +kernel
theorem dX4_countAllShelves_15 : decode cX4_countAllShelves 15 = .ok (.invokevirtual 165, 3) := by decide +kernel
theorem dX4_countAllShelves_18 : decode cX4_countAllShelves 18 = .ok (.iadd, 1) := by decide +kernel
theorem dX4_countAllShelves_19 : decode cX4_countAllShelves 19 = .ok (.istore_n 1, 1) := by decide +kernel
theorem dX4_countAllShelves_20 : decode cX4_countAllShelves 20 = .ok (.iinc 2 1, 3) := by decide +kernel
theorem dX4_countAllShelves_23 : decode cX4_countAllShelves 23 = .ok (.goto (-19), 3) := by decide +kernel
theorem dX4_countAllShelves_26 : decode cX4_countAllShelves 26 = .ok (.iload_n 1, 1) := by decide +kernel
theorem dX4_countAllShelves_27 : decode cX4_countAllShelves 27 = .ok (.ireturn, 1) := by decide +kernel
set_option maxRecDepth 20000 in
theorem ggX4_countOfLine_X3_get : GoodIn wsX4_countOfLine wsX3_get := goodIn_r _ [7, 8, 34] (by decide +kernel) (by decide +kernel)
set_option maxRecDepth 20000 in
theorem gX4_countOfLine_X3_get : GoodIn wsX4_countOfLine (wsV RX4 79 RX3 yX3_get wsX3_get) := goodIn_app (goodIn_of _ (by decide +kernel)) ggX4_countOfLine_X3_get
set_option maxRecDepth 20000 in
theorem ggX4_countOfLine_X4_isOfLine : GoodIn wsX4_countOfLine wsX4_isOfLine := goodIn_r _ [13, 14, 15, 3, 4, 5, 6, 7, 8, 16, 17, 18, 19, 20, 21, 22, 23, 24, 25, 26, 27, 28, 29, 30, 31, 32, 33, 34] (by decide +kernel) (by decide +kernel)
set_option maxRecDepth 20000 in
theorem gX4_countOfLine_X4_isOfLine : GoodIn wsX4_countOfLine (wsV RX4 207 RX4 yX4_isOfLine wsX4_isOfLine) := goodIn_app (goodIn_of _ (by decide +kernel)) ggX4_countOfLine_X4_isOfLine
theorem dX4_countOfLine_0 : decode cX4_countOfLine 0 = .ok (.iconst 0, 1) := by decide +kernel
theorem dX4_countOfLine_1 : decode cX4_countOfLine 1 = .ok (.istore_n 1, 1) := by decide +kernel
theorem dX4_countOfLine_2 : decode cX4_countOfLine 2 = .ok (.iconst 0, 1) := by decide +kernel
theorem dX4_countOfLine_3 : decode cX4_countOfLine 3 = .ok (.istore_n 2, 1) := by decide +kernel
theorem dX4_countOfLine_4 : decode cX4_countOfLine 4 = .ok (.iload_n 2, 1) := by decide +kernel
theorem dX4_countOfLine_5 : decode cX4_countOfLine 5 = .ok (.aload_n 0, 1) := by decide +kernel
theorem dX4_countOfLine_6 : decode cX4_countOfLine 6 = .ok (.getfield 47, 3) := by decide +kernel
theorem dX4_countOfLine_9 : decode cX4_countOfLine 9 = .ok (.if_icmp .ge 27, 3) := by decide +kernel
theorem dX4_countOfLine_12 : decode cX4_countOfLine 12 = .ok (.aload_n 0, 1) := by decide +kernel
theorem dX4_countOfLine_13 : decode cX4_countOfLine 13 = .ok (.aload_n 0, 1) := by decide +kernel
theorem dX4_countOfLine_14 : decode cX4_countOfLine 14 = .ok (.getfield 44, 3) := by decide +kernel
theorem dX4_countOfLine_17 : decode cX4_countOfLine 17 = .ok (.iload_n 2, 1) := by decide +kernel
theorem dX4_countOfLine_18 : decode cX4_countOfLine 18 = .ok (.invokevirtual 79, 3) := by decide +kernel
theorem dX4_countOfLine_21 : decode cX4_countOfLine 21 = .ok (.invokevirtual 207, 3) := by decide +kernel
theorem dX4_countOfLine_24 : decode cX4_countOfLine 24 = .ok (.ifCond .eq 6, 3) := by decide +kernel
theorem dX4_countOfLine_27 : decode cX4_countOfLine 27 = .ok (.iinc 1 1, 3) := by decide +kernel
theorem dX4_countOfLine_30 : decode cX4_countOfLine 30 = .ok (.iinc 2 1, 3) := by decide +kernel
theorem dX4_countOfLine_33 : decode cX4_countOfLine 33 = .ok (.goto (-29), 3) := by decide +kernel
theorem dX4_countOfLine_36 : decode cX4_countOfLine 36 = .ok (.iload_n 1, 1) := by decide +kernel
theorem dX4_countOfLine_37 : decode cX4_countOfLine 37 = .ok (.ireturn, 1) := by decide +kernel
set_option maxRecDepth 20000 in
theorem ggX4_areaLaid_X3_get : GoodIn wsX4_areaLaid wsX3_get := goodIn_r _ [7, 8, 54] (by decide +kernel) (by decide +kernel)
set_option maxRecDepth 20000 in
theorem gX4_areaLaid_X3_get : GoodIn wsX4_areaLaid (wsV RX4 79 RX3 yX3_get wsX3_get) := goodIn_app (goodIn_of _ (by decide +kernel)) ggX4_areaLaid_X3_get
set_option maxRecDepth 20000 in
theorem ggX4_areaLaid_X4_isLaid : GoodIn wsX4_areaLaid wsX4_isLaid := goodIn_r _ [13, 14, 3, 4, 5, 6, 7, 8, 36, 37, 38, 39, 40, 41, 42, 43, 44, 45, 46, 47, 48, 49, 50, 51, 52, 53, 54] (by decide +kernel) (by decide +kernel)
set_option maxRecDepth 20000 in
theorem gX4_areaLaid_X4_isLaid : GoodIn wsX4_areaLaid (wsV RX4 149 RX4 yX4_isLaid wsX4_isLaid) := goodIn_app (goodIn_of _ (by decide +kernel)) ggX4_areaLaid_X4_isLaid
set_option maxRecDepth 20000 in
theorem ggX4_areaLaid_X4_areaOf : GoodIn wsX4_areaLaid wsX4_areaOf := goodIn_r _ [18, 19, 20, 21, 12, 22, 23, 24, 25, 26, 3, 4, 5, 6, 7, 8, 27, 28, 29, 30, 31, 32, 33, 34, 35, 36, 37, 38, 39, 40, 41, 42, 43, 44, 45, 46, 47, 48, 49, 50, 51, 52, 53, 54] (by decide +kernel) (by decide +kernel)
set_option maxRecDepth 20000 in
theorem gX4_areaLaid_X4_areaOf : GoodIn wsX4_areaLaid (wsV RX4 143 RX4 yX4_areaOf wsX4_areaOf) := goodIn_app (goodIn_of _ (by decide +kernel)) ggX4_areaLaid_X4_areaOf
theorem dX4_areaLaid_0 : decode cX4_areaLaid 0 = .ok (.iconst 0, 1) := by decide +kernel
theorem dX4_areaLaid_1 : decode cX4_areaLaid 1 = .ok (.istore_n 1, 1) := by decide +kernel
theorem dX4_areaLaid_2 : decode cX4_areaLaid 2 = .ok (.iconst 0, 1) := by decide +kernel
theorem dX4_areaLaid_3 : decode cX4_areaLaid 3 = .ok (.istore_n 2, 1) := by decide +kernel
theorem dX4_areaLaid_4 : decode cX4_areaLaid 4 = .ok (.iload_n 2, 1) := by decide +kernel
theorem dX4_areaLaid_5 : decode cX4_areaLaid 5 = .ok (.aload_n 0, 1) := by decide +kernel
theorem dX4_areaLaid_6 : decode cX4_areaLaid 6 = .ok (.getfield 47, 3) := by decide +kernel
theorem dX4_areaLaid_9 : decode cX4_areaLaid 9 = .ok (.if_icmp .ge 34, 3) := by decide +kernel
theorem dX4_areaLaid_12 : decode cX4_areaLaid 12 = .ok (.aload_n 0, 1) := by decide +kernel
theorem dX4_areaLaid_13 : decode cX4_areaLaid 13 = .ok (.getfield 44, 3) := by decide +kernel
theorem dX4_areaLaid_16 : decode cX4_areaLaid 16 = .ok (.iload_n 2, 1) := by decide +kernel
theorem dX4_areaLaid_17 : decode cX4_areaLaid 17 = .ok (.invokevirtual 79, 3) := by decide +kernel
theorem dX4_areaLaid_20 : decode cX4_areaLaid 20 = .ok (.istore_n 3, 1) := by decide +kernel
theorem dX4_areaLaid_21 : decode cX4_areaLaid 21 = .ok (.aload_n 0, 1) := by decide +kernel
theorem dX4_areaLaid_22 : decode cX4_areaLaid 22 = .ok (.iload_n 3, 1) := by decide +kernel
theorem dX4_areaLaid_23 : decode cX4_areaLaid 23 = .ok (.invokevirtual 149, 3) := by decide +kernel
theorem dX4_areaLaid_26 : decode cX4_areaLaid 26 = .ok (.ifCond .eq 11, 3) := by decide +kernel
theorem dX4_areaLaid_29 : decode cX4_areaLaid 29 = .ok (.iload_n 1, 1) := by decide +kernel
theorem dX4_areaLaid_30 : decode cX4_areaLaid 30 = .ok (.aload_n 0, 1) := by decide +kernel
theorem dX4_areaLaid_31 : decode cX4_areaLaid 31 = .ok (.iload_n 3, 1) := by decide +kernel
theorem dX4_areaLaid_32 : decode cX4_areaLaid 32 = .ok (.invokevirtual 143, 3) := by decide +kernel
theorem dX4_areaLaid_35 : decode cX4_areaLaid 35 = .ok (.iadd, 1) := by decide +kernel
theorem dX4_areaLaid_36 : decode cX4_areaLaid 36 = .ok (.istore_n 1, 1) := by decide +kernel
theorem dX4_areaLaid_37 : decode cX4_areaLaid 37 = .ok (.iinc 2 1, 3) := by decide +kernel
theorem dX4_areaLaid_40 : decode cX4_areaLaid 40 = .ok (.goto (-36), 3) := by decide +kernel
theorem dX4_areaLaid_43 : decode cX4_areaLaid 43 = .ok (.iload_n 1, 1) := by decide +kernel
theorem dX4_areaLaid_44 : decode cX4_areaLaid 44 = .ok (.ireturn, 1) := by decide +kernel
set_option maxRecDepth 20000 in
theorem ggX4_oldestLetter_X3_get : GoodIn wsX4_oldestLetter wsX3_get := goodIn_r _ [7, 8, 33] (by decide +kernel) (by decide +kernel)
set_option maxRecDepth 20000 in
theorem gX4_oldestLetter_X3_get : GoodIn wsX4_oldestLetter (wsV RX4 79 RX3 yX3_get wsX3_get) := goodIn_app (goodIn_of _ (by decide +kernel)) ggX4_oldestLetter_X3_get
set_option maxRecDepth 20000 in
theorem ggX4_oldestLetter_X4_isOlder : GoodIn wsX4_oldestLetter wsX4_isOlder := goodIn_r _ [13, 14, 3, 4, 5, 6, 7, 8, 15, 16, 17, 18, 19, 20, 21, 22, 23, 24, 25, 26, 27, 28, 29, 30, 31, 32, 33] (by decide +kernel) (by decide +kernel)
set_option maxRecDepth 20000 in
theorem gX4_oldestLetter_X4_isOlder : GoodIn wsX4_oldestLetter (wsV RX4 210 RX4 yX4_isOlder wsX4_isOlder) := goodIn_app (goodIn_of _ (by decide +kernel)) ggX4_oldestLetter_X4_isOlder
theorem dX4_oldestLetter_0 : decode cX4_oldestLetter 0 = .ok (.iconst (-1), 1) := by decide +kernel
theorem dX4_oldestLetter_1 : decode cX4_oldestLetter 1 = .ok (.istore_n 1, 1) := by decide +kernel
theorem dX4_oldestLetter_2 : decode cX4_oldestLetter 2 = .ok (.iconst 0, 1) := by decide +kernel
theorem dX4_oldestLetter_3 : decode cX4_oldestLetter 3 = .ok (.istore_n 2, 1) := by decide +kernel
theorem dX4_oldestLetter_4 : decode cX4_oldestLetter 4 = .ok (.iload_n 2, 1) := by decide +kernel
theorem dX4_oldestLetter_5 : decode cX4_oldestLetter 5 = .ok (.aload_n 0, 1) := by decide +kernel
theorem dX4_oldestLetter_6 : decode cX4_oldestLetter 6 = .ok (.getfield 47, 3) := by decide +kernel
theorem dX4_oldestLetter_9 : decode cX4_oldestLetter 9 = .ok (.if_icmp .ge 29, 3) := by decide +kernel
theorem dX4_oldestLetter_12 : decode cX4_oldestLetter 12 = .ok (.aload_n 0, 1) := by decide +kernel
theorem dX4_oldestLetter_13 : decode cX4_oldestLetter 13 = .ok (.getfield 44, 3) := by decide +kernel
theorem dX4_oldestLetter_16 : decode cX4_oldestLetter 16 = .ok (.iload_n 2, 1) := by decide +kernel
theorem dX4_oldestLetter_17 : decode cX4_oldestLetter 17 = .ok (.invokevirtual 79, 3) := by decide +kernel
theorem dX4_oldestLetter_20 : decode cX4_oldestLetter 20 = .ok (.istore_n 3, 1) := by decide +kernel
theorem dX4_oldestLetter_21 : decode cX4_oldestLetter 21 = .ok (.aload_n 0, 1) := by decide +kernel
theorem dX4_oldestLetter_22 : decode cX4_oldestLetter 22 = .ok (.iload_n 3, 1) := by decide +kernel
theorem dX4_oldestLetter_23 : decode cX4_oldestLetter 23 = .ok (.iload_n 1, 1) := by decide +kernel
theorem dX4_oldestLetter_24 : decode cX4_oldestLetter 24 = .ok (.invokevirtual 210, 3) := by decide +kernel
theorem dX4_oldestLetter_27 : decode cX4_oldestLetter 27 = .ok (.ifCond .eq 5, 3) := by decide +kernel
theorem dX4_oldestLetter_30 : decode cX4_oldestLetter 30 = .ok (.iload_n 3, 1) := by decide +kernel
theorem dX4_oldestLetter_31 : decode cX4_oldestLetter 31 = .ok (.istore_n 1, 1) := by decide +kernel
theorem dX4_oldestLetter_32 : decode cX4_oldestLetter 32 = .ok (.iinc 2 1, 3) := by decide +kernel
theorem dX4_oldestLetter_35 : decode cX4_oldestLetter 35 = .ok (.goto (-31), 3) := by decide +kernel
theorem dX4_oldestLetter_38 : decode cX4_oldestLetter 38 = .ok (.iload_n 1, 1) := by decide +kernel
theorem dX4_oldestLetter_39 : decode cX4_oldestLetter 39 = .ok (.ireturn, 1) := by decide +kernel
set_option maxRecDepth 20000 in
theorem ggX4_isOlder_X3_get : GoodIn wsX4_isOlder wsX3_get := goodIn_r _ [6, 7, 26] (by decide +kernel) (by decide +kernel)
set_option maxRecDepth 20000 in
theorem gX4_isOlder_X3_get : GoodIn wsX4_isOlder (wsV RX4 79 RX3 yX3_get wsX3_get) := goodIn_app (goodIn_of _ (by decide +kernel)) ggX4_isOlder_X3_get
theorem dX4_isOlder_0 : decode cX4_isOlder 0 = .ok (.iload_n 2, 1) := by decide +kernel
theorem dX4_isOlder_1 : decode cX4_isOlder 1 = .ok (.iconst (-1), 1) := by decide +kernel
theorem dX4_isOlder_2 : decode cX4_isOlder 2 = .ok (.if_icmp .eq 22, 3) := by decide +kernel
theorem dX4_isOlder_5 : decode cX4_isOlder 5 = .ok (.aload_n 0, 1) := by decide +kernel
theorem dX4_isOlder_6 : decode cX4_isOlder 6 = .ok (.getfield 35, 3) := by decide +kernel
theorem dX4_isOlder_9 : decode cX4_isOlder 9 = .ok (.iload_n 1, 1) := by decide +kernel
theorem dX4_isOlder_10 : decode cX4_isOlder 10 = .ok (.invokevirtual 79, 3) := by decide +kernel
theorem dX4_isOlder_13 : decode cX4_isOlder 13 = .ok (.aload_n 0, 1) := by decide +kernel
theorem dX4_isOlder_14 : decode cX4_isOlder 14 = .ok (.getfield 35, 3) := by decide +kernel
theorem dX4_isOlder_17 : decode cX4_isOlder 17 = .ok (.iload_n 2, 1) := by decide +kernel
theorem dX4_isOlder_18 : decode cX4_isOlder 18 = .ok (.invokevirtual 79, 3) := by decide +kernel
theorem dX4_isOlder_21 : decode cX4_isOlder 21 = .ok (.if_icmp .ge 7, 3) := by decide +kernel
theorem dX4_isOlder_24 : decode cX4_isOlder 24 = .ok (.iconst 1, 1) := by decide +kernel
theorem dX4_isOlder_25 : decode cX4_isOlder 25 = .ok (.goto 4, 3) := by decide +kernel
theorem dX4_isOlder_28 : decode cX4_isOlder 28 = .ok (.iconst 0, 1) := by decide +kernel
theorem dX4_isOlder_29 : decode cX4_isOlder 29 = .ok (.ireturn, 1) := by decide +kernel
set_option maxRecDepth 20000 in
theorem ggX4_greatestGapArea_X3_get : GoodIn wsX4_greatestGapArea wsX3_get := goodIn_r _ [10, 11, 48] (by decide +kernel) (by decide +kernel)
set_option maxRecDepth 20000 in
theorem gX4_greatestGapArea_X3_get : GoodIn wsX4_greatestGapArea (wsV RX4 79 RX3 yX3_get wsX3_get) := goodIn_app (goodIn_of _ (by decide +kernel)) ggX4_greatestGapArea_X3_get
set_option maxRecDepth 20000 in
theorem ggX4_greatestGapArea_X4_coverOf : GoodIn wsX4_greatestGapArea wsX4_coverOf := goodIn_r _ [16, 17, 18, 19, 20, 21, 6, 7, 8, 9, 10, 11, 30, 31, 32, 33, 34, 35, 36, 37, 38, 39, 40, 41, 42, 43, 44, 45, 46, 47, 48] (by decide +kernel) (by decide +kernel)
set_option maxRecDepth 20000 in
theorem gX4_greatestGapArea_X4_coverOf : GoodIn wsX4_greatestGapArea (wsV RX4 185 RX4 yX4_coverOf wsX4_coverOf) := goodIn_app (goodIn_of _ (by decide +kernel)) ggX4_greatestGapArea_X4_coverOf
set_option maxRecDepth 20000 in
theorem ggX4_greatestGapArea_X1_widest : GoodIn wsX4_greatestGapArea wsX1_widest := goodIn_r _ [25, 26, 3, 4, 5, 27, 28, 24, 29] (by decide +kernel) (by decide +kernel)
set_option maxRecDepth 20000 in
theorem gX4_greatestGapArea_X1_widest : GoodIn wsX4_greatestGapArea (va_wsS RX4 193 yX1_widest wsX1_widest) := goodIn_app (goodIn_of _ (by decide +kernel)) ggX4_greatestGapArea_X1_widest
theorem dX4_greatestGapArea_0 : decode cX4_greatestGapArea 0 = .ok (.iconst 0, 1) := by decide +kernel
theorem dX4_greatestGapArea_1 : decode cX4_greatestGapArea 1 = .ok (.istore_n 1, 1) := by decide +kernel
theorem dX4_greatestGapArea_2 : decode cX4_greatestGapArea 2 = .ok (.iconst 0, 1) := by decide +kernel
theorem dX4_greatestGapArea_3 : decode cX4_greatestGapArea 3 = .ok (.istore_n 2, 1) := by decide +kernel
theorem dX4_greatestGapArea_4 : decode cX4_greatestGapArea 4 = .ok (.iload_n 2, 1) := by decide +kernel
theorem dX4_greatestGapArea_5 : decode cX4_greatestGapArea 5 = .ok (.bipush 72, 2) := by decide +kernel
theorem dX4_greatestGapArea_7 : decode cX4_greatestGapArea 7 = .ok (.if_icmp .ge 37, 3) := by decide +kernel
theorem dX4_greatestGapArea_10 : decode cX4_greatestGapArea 10 = .ok (.aload_n 0, 1) := by decide +kernel
theorem dX4_greatestGapArea_11 : decode cX4_greatestGapArea 11 = .ok (.getfield 23, 3) := by decide +kernel
theorem dX4_greatestGapArea_14 : decode cX4_greatestGapArea 14 = .ok (.iload_n 2, 1) := by decide +kernel
theorem dX4_greatestGapArea_15 : decode cX4_greatestGapArea 15 = .ok (.invokevirtual 79, 3) := by decide +kernel
theorem dX4_greatestGapArea_18 : decode cX4_greatestGapArea 18 = .ok (.istore_n 3, 1) := by decide +kernel
theorem dX4_greatestGapArea_19 : decode cX4_greatestGapArea 19 = .ok (.iload_n 3, 1) := by decide +kernel
theorem dX4_greatestGapArea_20 : decode cX4_greatestGapArea 20 = .ok (.ifCond .le 18, 3) := by decide +kernel
theorem dX4_greatestGapArea_23 : decode cX4_greatestGapArea 23 = .ok (.iload_n 1, 1) := by decide +kernel
theorem dX4_greatestGapArea_24 : decode cX4_greatestGapArea 24 = .ok (.aload_n 0, 1) := by decide +kernel
theorem dX4_greatestGapArea_25 : decode cX4_greatestGapArea 25 = .ok (.iload_n 2, 1) := by decide +kernel
theorem dX4_greatestGapArea_26 : decode cX4_greatestGapArea 26 = .ok (.invokevirtual 185, 3) := by decide +kernel
theorem dX4_greatestGapArea_29 : decode cX4_greatestGapArea 29 = .ok (.invokestatic 193, 3) := by decide +kernel
theorem dX4_greatestGapArea_32 : decode cX4_greatestGapArea 32 = .ok (.iload_n 3, 1) := by decide +kernel
theorem dX4_greatestGapArea_33 : decode cX4_greatestGapArea 33 = .ok (.imul, 1) := by decide +kernel
theorem dX4_greatestGapArea_34 : decode cX4_greatestGapArea 34 = .ok (.invokestatic 202, 3) := by decide +kernel
theorem dX4_greatestGapArea_37 : decode cX4_greatestGapArea 37 = .ok (.istore_n 1, 1) := by decide +kernel
theorem dX4_greatestGapArea_38 : decode cX4_greatestGapArea 38 = .ok (.iinc 2 1, 3) := by decide +kernel
theorem dX4_greatestGapArea_41 : decode cX4_greatestGapArea 41 = .ok (.goto (-37), 3) := by decide +kernel
theorem dX4_greatestGapArea_44 : decode cX4_greatestGapArea 44 = .ok (.iload_n 1, 1) := by decide +kernel
theorem dX4_greatestGapArea_45 : decode cX4_greatestGapArea 45 = .ok (.ireturn, 1) := by decide +kernel
set_option maxRecDepth 20000 in
theorem ggX5_init_X4_init : GoodIn wsX5_init wsX4_init := goodIn_r _ [12, 13, 2, 3, 14, 15, 16, 17, 18, 19, 20, 21, 22, 23, 24, 25, 26, 27, 28, 29, 30, 31, 32, 33, 34, 35, 36, 37, 38, 39, 40, 41, 42, 43, 44, 66, 48, 49, 50, 51, 52, 53, 54, 55, 56, 57, 58, 59, 60, 61, 62, 63, 64, 65] (by decide +kernel) (by decide +kernel)
set_option maxRecDepth 20000 in
theorem gX5_init_X4_init : GoodIn wsX5_init (wsX4_init) := ggX5_init_X4_init
theorem dX5_init_0 : decode cX5_init 0 = .ok (.aload_n 0, 1) := by decide +kernel
theorem dX5_init_1 : decode cX5_init 1 = .ok (.invokespecial 3, 3) := by decide +kernel
theorem dX5_init_4 : decode cX5_init 4 = .ok (.aload_n 0, 1) := by decide +kernel
theorem dX5_init_5 : decode cX5_init 5 = .ok (.iconst 4, 1) := by decide +kernel
theorem dX5_init_6 : decode cX5_init 6 = .ok (.anewarray 9, 3) := by decide +kernel
theorem dX5_init_9 : decode cX5_init 9 = .ok (.putfield 11, 3) := by decide +kernel
theorem dX5_init_12 : decode cX5_init 12 = .ok (.aload_n 0, 1) := by decide +kernel
theorem dX5_init_13 : decode cX5_init 13 = .ok (.iconst 0, 1) := by decide +kernel
theorem dX5_init_14 : decode cX5_init 14 = .ok (.putfield 17, 3) := by decide +kernel
theorem dX5_init_17 : decode cX5_init 17 = .ok (.aload_n 0, 1) := by decide +kernel
theorem dX5_init_18 : decode cX5_init 18 = .ok (.iconst 0, 1) := by decide +kernel
theorem dX5_init_19 : decode cX5_init 19 = .ok (.putfield 21, 3) := by decide +kernel
theorem dX5_init_22 : decode cX5_init 22 = .ok (.iconst 0, 1) := by decide +kernel
theorem dX5_init_23 : decode cX5_init 23 = .ok (.istore_n 1, 1) := by decide +kernel
theorem dX5_init_24 : decode cX5_init 24 = .ok (.iload_n 1, 1) := by decide +kernel
theorem dX5_init_25 : decode cX5_init 25 = .ok (.aload_n 0, 1) := by decide +kernel
theorem dX5_init_26 : decode cX5_init 26 = .ok (.getfield 11, 3) := by decide +kernel
theorem dX5_init_29 : decode cX5_init 29 = .ok (.arraylength, 1) := by decide +kernel
theorem dX5_init_30 : decode cX5_init 30 = .ok (.if_icmp .ge 22, 3) := by decide +kernel
theorem dX5_init_33 : decode cX5_init 33 = .ok (.aload_n 0, 1) := by decide +kernel
theorem dX5_init_34 : decode cX5_init 34 = .ok (.getfield 11, 3) := by decide +kernel
theorem dX5_init_37 : decode cX5_init 37 = .ok (.iload_n 1, 1) := by decide +kernel
theorem dX5_init_38 : decode cX5_init 38 = .ok (.new 9, 3) := by decide +kernel
theorem dX5_init_41 : decode cX5_init 41 = .ok (.dup, 1) := by decide +kernel
theorem dX5_init_42 : decode cX5_init 42 = .ok (.invokespecial 24, 3) := by decide +kernel
theorem dX5_init_45 : decode cX5_init 45 = .ok (.aastore, 1) := by decide +kernel
theorem dX5_init_46 : decode cX5_init 46 = .ok (.iinc 1 1, 3) := by decide +kernel
theorem dX5_init_49 : decode cX5_init 49 = .ok (.goto (-25), 3) := by decide +kernel
theorem dX5_init_52 : decode cX5_init 52 = .ok (.return_, 1) := by decide +kernel
set_option maxRecDepth 20000 in
theorem ggX5_push_X5_savedAt : GoodIn wsX5_push wsX5_savedAt := goodIn_r _ [7, 8, 46, 47, 48] (by decide +kernel) (by decide +kernel)
set_option maxRecDepth 20000 in
theorem gX5_push_X5_savedAt : GoodIn wsX5_push (wsV RX5 25 RX5 yX5_savedAt wsX5_savedAt) := goodIn_app (goodIn_of _ (by decide +kernel)) ggX5_push_X5_savedAt
set_option maxRecDepth 20000 in
theorem ggX5_push_X4_copyFrom : GoodIn wsX5_push wsX4_copyFrom := goodIn_r _ [13, 14, 15, 16, 17, 18, 19, 20, 21, 22, 23, 24, 25, 26, 27, 28, 29, 30, 31, 32, 33, 34, 35, 36, 37, 38, 39, 40, 41, 42, 43, 44, 45, 49, 50, 51, 52, 53, 54, 55, 56, 57, 58, 59, 60, 61, 62, 63, 64, 65, 66, 67] (by decide +kernel) (by decide +kernel)
set_option maxRecDepth 20000 in
theorem gX5_push_X4_copyFrom : GoodIn wsX5_push (wsV RX5 29 RX4 yX4_copyFrom wsX4_copyFrom) := goodIn_app (goodIn_of _ (by decide +kernel)) ggX5_push_X4_copyFrom
theorem dX5_push_0 : decode cX5_push 0 = .ok (.aload_n 0, 1) := by decide +kernel
theorem dX5_push_1 : decode cX5_push 1 = .ok (.aload_n 0, 1) := by decide +kernel
theorem dX5_push_2 : decode cX5_push 2 = .ok (.getfield 17, 3) := by decide +kernel
theorem dX5_push_5 : decode cX5_push 5 = .ok (.aload_n 0, 1) := by decide +kernel
theorem dX5_push_6 : decode cX5_push 6 = .ok (.getfield 21, 3) := by decide +kernel
theorem dX5_push_9 : decode cX5_push 9 = .ok (.iadd, 1) := by decide +kernel
theorem dX5_push_10 : decode cX5_push 10 = .ok (.invokevirtual 25, 3) := by decide +kernel
theorem dX5_push_13 : decode cX5_push 13 = .ok (.astore_n 2, 1) := by decide +kernel
theorem dX5_push_14 : decode cX5_push 14 = .ok (.aload_n 2, 1) := by decide +kernel
theorem dX5_push_15 : decode cX5_push 15 = .ok (.ifnonnull 4, 3) := by decide +kernel
theorem dX5_push_18 : decode cX5_push 18 = .ok (.return_, 1) := by decide +kernel
theorem dX5_push_19 : decode cX5_push 19 = .ok (.aload_n 2, 1) := by decide +kernel
theorem dX5_push_20 : decode cX5_push 20 = .ok (.aload_n 1, 1) := by decide +kernel
theorem dX5_push_21 : decode cX5_push 21 = .ok (.invokevirtual 29, 3) := by decide +kernel
theorem dX5_push_24 : decode cX5_push 24 = .ok (.aload_n 0, 1) := by decide +kernel
theorem dX5_push_25 : decode cX5_push 25 = .ok (.getfield 21, 3) := by decide +kernel
theorem dX5_push_28 : decode cX5_push 28 = .ok (.iconst 4, 1) := by decide +kernel
theorem dX5_push_29 : decode cX5_push 29 = .ok (.if_icmp .ge 16, 3) := by decide +kernel
theorem dX5_push_32 : decode cX5_push 32 = .ok (.aload_n 0, 1) := by decide +kernel
theorem dX5_push_33 : decode cX5_push 33 = .ok (.dup, 1) := by decide +kernel
theorem dX5_push_34 : decode cX5_push 34 = .ok (.getfield 21, 3) := by decide +kernel
theorem dX5_push_37 : decode cX5_push 37 = .ok (.iconst 1, 1) := by decide +kernel
theorem dX5_push_38 : decode cX5_push 38 = .ok (.iadd, 1) := by decide +kernel
theorem dX5_push_39 : decode cX5_push 39 = .ok (.putfield 21, 3) := by decide +kernel
theorem dX5_push_42 : decode cX5_push 42 = .ok (.goto 15, 3) := by decide +kernel
theorem dX5_push_45 : decode cX5_push 45 = .ok (.aload_n 0, 1) := by decide +kernel
theorem dX5_push_46 : decode cX5_push 46 = .ok (.aload_n 0, 1) := by decide +kernel
theorem dX5_push_47 : decode cX5_push 47 = .ok (.getfield 17, 3) := by decide +kernel
theorem dX5_push_50 : decode cX5_push 50 = .ok (.iconst 1, 1) := by decide +kernel
theorem dX5_push_51 : decode cX5_push 51 = .ok (.iadd, 1) := by decide +kernel
theorem dX5_push_52 : decode cX5_push 52 = .ok (.iconst 4, 1) := by decide +kernel
theorem dX5_push_53 : decode cX5_push 53 = .ok (.irem, 1) := by decide +kernel
theorem dX5_push_54 : decode cX5_push 54 = .ok (.putfield 17, 3) := by decide +kernel
theorem dX5_push_57 : decode cX5_push 57 = .ok (.return_, 1) := by decide +kernel
set_option maxRecDepth 20000 in
theorem ggX5_popInto_X5_savedAt : GoodIn wsX5_popInto wsX5_savedAt := goodIn_r _ [7, 8, 46, 47, 48] (by decide +kernel) (by decide +kernel)
set_option maxRecDepth 20000 in
theorem gX5_popInto_X5_savedAt : GoodIn wsX5_popInto (wsV RX5 25 RX5 yX5_savedAt wsX5_savedAt) := goodIn_app (goodIn_of _ (by decide +kernel)) ggX5_popInto_X5_savedAt
set_option maxRecDepth 20000 in
theorem ggX5_popInto_X4_copyFrom : GoodIn wsX5_popInto wsX4_copyFrom := goodIn_r _ [13, 14, 15, 16, 17, 18, 19, 20, 21, 22, 23, 24, 25, 26, 27, 28, 29, 30, 31, 32, 33, 34, 35, 36, 37, 38, 39, 40, 41, 42, 43, 44, 45, 49, 50, 51, 52, 53, 54, 55, 56, 57, 58, 59, 60, 61, 62, 63, 64, 65, 66, 67] (by decide +kernel) (by decide +kernel)
set_option maxRecDepth 20000 in
theorem gX5_popInto_X4_copyFrom : GoodIn wsX5_popInto (wsV RX5 29 RX4 yX4_copyFrom wsX4_copyFrom) := goodIn_app (goodIn_of _ (by decide +kernel)) ggX5_popInto_X4_copyFrom
theorem dX5_popInto_0 : decode cX5_popInto 0 = .ok (.aload_n 0, 1) := by decide +kernel
theorem dX5_popInto_1 : decode cX5_popInto 1 = .ok (.aload_n 0, 1) := by decide +kernel
theorem dX5_popInto_2 : decode cX5_popInto 2 = .ok (.getfield 17, 3) := by decide +kernel
theorem dX5_popInto_5 : decode cX5_popInto 5 = .ok (.aload_n 0, 1) := by decide +kernel
theorem dX5_popInto_6 : decode cX5_popInto 6 = .ok (.getfield 21, 3) := by decide +kernel
theorem dX5_popInto_9 : decode cX5_popInto 9 = .ok (.iadd, 1) := by decide +kernel
theorem dX5_popInto_10 : decode cX5_popInto 10 = .ok (.iconst 1, 1) := by decide +kernel
theorem dX5_popInto_11 : decode cX5_popInto 11 = .ok (.isub, 1) := by decide +kernel
theorem dX5_popInto_12 : decode cX5_popInto 12 = .ok (.invokevirtual 25, 3) := by decide +kernel
theorem dX5_popInto_15 : decode cX5_popInto 15 = .ok (.astore_n 2, 1) := by decide +kernel
theorem dX5_popInto_16 : decode cX5_popInto 16 = .ok (.aload_n 2, 1) := by decide +kernel
theorem dX5_popInto_17 : decode cX5_popInto 17 = .ok (.ifnull 10, 3) := by decide +kernel
theorem dX5_popInto_20 : decode cX5_popInto 20 = .ok (.aload_n 0, 1) := by decide +kernel
theorem dX5_popInto_21 : decode cX5_popInto 21 = .ok (.getfield 21, 3) := by decide +kernel
theorem dX5_popInto_24 : decode cX5_popInto 24 = .ok (.ifCond .ne 4, 3) := by decide +kernel
theorem dX5_popInto_27 : decode cX5_popInto 27 = .ok (.return_, 1) := by decide +kernel
theorem dX5_popInto_28 : decode cX5_popInto 28 = .ok (.aload_n 1, 1) := by decide +kernel
theorem dX5_popInto_29 : decode cX5_popInto 29 = .ok (.aload_n 2, 1) := by decide +kernel
theorem dX5_popInto_30 : decode cX5_popInto 30 = .ok (.invokevirtual 29, 3) := by decide +kernel
theorem dX5_popInto_33 : decode cX5_popInto 33 = .ok (.aload_n 0, 1) := by decide +kernel
theorem dX5_popInto_34 : decode cX5_popInto 34 = .ok (.dup, 1) := by decide +kernel
theorem dX5_popInto_35 : decode cX5_popInto 35 = .ok (.getfield 21, 3) := by decide +kernel
theorem dX5_popInto_38 : decode cX5_popInto 38 = .ok (.iconst 1, 1) := by decide +kernel
theorem dX5_popInto_39 : decode cX5_popInto 39 = .ok (.isub, 1) := by decide +kernel
theorem dX5_popInto_40 : decode cX5_popInto 40 = .ok (.putfield 21, 3) := by decide +kernel
theorem dX5_popInto_43 : decode cX5_popInto 43 = .ok (.return_, 1) := by decide +kernel
theorem dX5_savedAt_0 : decode cX5_savedAt 0 = .ok (.iload_n 1, 1) := by decide +kernel
theorem dX5_savedAt_1 : decode cX5_savedAt 1 = .ok (.iconst 4, 1) := by decide +kernel
theorem dX5_savedAt_2 : decode cX5_savedAt 2 = .ok (.irem, 1) := by decide +kernel
theorem dX5_savedAt_3 : decode cX5_savedAt 3 = .ok (.istore_n 2, 1) := by decide +kernel
theorem dX5_savedAt_4 : decode cX5_savedAt 4 = .ok (.iload_n 2, 1) := by decide +kernel
theorem dX5_savedAt_5 : decode cX5_savedAt 5 = .ok (.ifCond .lt 21, 3) := by decide +kernel
theorem dX5_savedAt_8 : decode cX5_savedAt 8 = .ok (.iload_n 2, 1) := by decide +kernel
theorem dX5_savedAt_9 : decode cX5_savedAt 9 = .ok (.aload_n 0, 1) := by decide +kernel
theorem dX5_savedAt_10 : decode cX5_savedAt 10 = .ok (.getfield 11, 3) := by decide +kernel
theorem dX5_savedAt_13 : decode cX5_savedAt 13 = .ok (.arraylength, 1) := by decide +kernel
theorem dX5_savedAt_14 : decode cX5_savedAt 14 = .ok (.if_icmp .ge 12, 3) := by decide +kernel
theorem dX5_savedAt_17 : decode cX5_savedAt 17 = .ok (.aload_n 0, 1) := by decide +kernel
theorem dX5_savedAt_18 : decode cX5_savedAt 18 = .ok (.getfield 11, 3) := by decide +kernel
theorem dX5_savedAt_21 : decode cX5_savedAt 21 = .ok (.iload_n 2, 1) := by decide +kernel
theorem dX5_savedAt_22 : decode cX5_savedAt 22 = .ok (.aaload, 1) := by decide +kernel
theorem dX5_savedAt_23 : decode cX5_savedAt 23 = .ok (.goto 4, 3) := by decide +kernel
theorem dX5_savedAt_26 : decode cX5_savedAt 26 = .ok (.aconst_null, 1) := by decide +kernel
theorem dX5_savedAt_27 : decode cX5_savedAt 27 = .ok (.areturn, 1) := by decide +kernel
set_option maxRecDepth 20000 in
theorem ggX6_init_X4_init : GoodIn wsX6_init wsX4_init := goodIn_r _ [22, 23, 2, 3, 24, 25, 26, 27, 28, 29, 30, 31, 32, 33, 34, 35, 36, 37, 38, 39, 40, 41, 42, 43, 44, 45, 46, 47, 48, 49, 50, 51, 52, 53, 54, 119, 83, 84, 85, 86, 87, 88, 89, 90, 91, 92, 93, 94, 95, 96, 97, 98, 99, 100] (by decide +kernel) (by decide +kernel)
set_option maxRecDepth 20000 in
theorem gX6_init_X4_init : GoodIn wsX6_init (wsX4_init) := ggX6_init_X4_init
set_option maxRecDepth 20000 in
theorem ggX6_init_X5_init : GoodIn wsX6_init wsX5_init := goodIn_r _ [57, 58, 2, 3, 59, 60, 61, 62, 5, 6, 63, 21, 22, 23, 24, 25, 26, 27, 28, 29, 30, 31, 32, 33, 34, 35, 36, 37, 38, 39, 40, 41, 42, 43, 44, 45, 46, 47, 48, 49, 50, 51, 52, 53, 54, 105, 106, 107, 83, 84, 85, 86, 87, 88, 89, 90, 91, 92, 93, 94, 95, 96, 97, 98, 99, 100, 119] (by decide +kernel) (by decide +kernel)
set_option maxRecDepth 20000 in
theorem gX6_init_X5_init : GoodIn wsX6_init (wsX5_init) := ggX6_init_X5_init
set_option maxRecDepth 20000 in
theorem ggX6_init_X0_init : GoodIn wsX6_init wsX0_init := goodIn_r _ [65, 66, 2, 3, 67, 25, 26, 68, 69, 70, 71, 72, 73, 74, 46, 47, 48, 49, 50, 119, 108, 109, 110, 111, 112, 113] (by decide +kernel) (by decide +kernel)
set_option maxRecDepth 20000 in
theorem gX6_init_X0_init_n25 : GoodIn wsX6_init (wsX0_init) := ggX6_init_X0_init
set_option maxRecDepth 20000 in
theorem ggX6_init_X2_init : GoodIn wsX6_init wsX2_init := goodIn_r _ [76, 77, 2, 3, 78, 79, 80, 81, 82, 114, 115, 116, 117, 118] (by decide +kernel) (by decide +kernel)
set_option maxRecDepth 20000 in
theorem gX6_init_X2_init_n32 : GoodIn wsX6_init (wsX2_init) := ggX6_init_X2_init
