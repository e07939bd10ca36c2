theorem dX6_init_0 : decode cX6_init 0 = .ok (.aload_n 0, 1) := by decide +kernel
theorem dX6_init_1 : decode cX6_init 1 = .ok (.invokespecial 3, 3) := by decide +kernel
theorem dX6_init_4 : decode cX6_init 4 = .ok (.aload_n 0, 1) := by decide +kernel
theorem dX6_init_5 : decode cX6_init 5 = .ok (.new 9, 3) := by decide +kernel
theorem dX6_init_8 : decode cX6_init 8 = .ok (.dup, 1) := by decide +kernel
theorem dX6_init_9 : decode cX6_init 9 = .ok (.invokespecial 11, 3) := by decide +kernel
theorem dX6_init_12 : decode cX6_init 12 = .ok (.putfield 12, 3) := by decide +kernel
theorem dX6_init_15 : decode cX6_init 15 = .ok (.aload_n 0, 1) := by decide +kernel
theorem dX6_init_16 : decode cX6_init 16 = .ok (.new 16, 3) := by decide +kernel
theorem dX6_init_19 : decode cX6_init 19 = .ok (.dup, 1) := by decide +kernel
theorem dX6_init_20 : decode cX6_init 20 = .ok (.invokespecial 18, 3) := by decide +kernel
theorem dX6_init_23 : decode cX6_init 23 = .ok (.putfield 19, 3) := by decide +kernel
theorem dX6_init_26 : decode cX6_init 26 = .ok (.aload_n 0, 1) := by decide +kernel
theorem dX6_init_27 : decode cX6_init 27 = .ok (.new 23, 3) := by decide +kernel
theorem dX6_init_30 : decode cX6_init 30 = .ok (.dup, 1) := by decide +kernel
theorem dX6_init_31 : decode cX6_init 31 = .ok (.invokespecial 25, 3) := by decide +kernel
theorem dX6_init_34 : decode cX6_init 34 = .ok (.putfield 26, 3) := by decide +kernel
theorem dX6_init_37 : decode cX6_init 37 = .ok (.aload_n 0, 1) := by decide +kernel
theorem dX6_init_38 : decode cX6_init 38 = .ok (.new 30, 3) := by decide +kernel
theorem dX6_init_41 : decode cX6_init 41 = .ok (.dup, 1) := by decide +kernel
theorem dX6_init_42 : decode cX6_init 42 = .ok (.invokespecial 32, 3) := by decide +kernel
theorem dX6_init_45 : decode cX6_init 45 = .ok (.putfield 33, 3) := by decide +kernel
theorem dX6_init_48 : decode cX6_init 48 = .ok (.return_, 1) := by decide +kernel
set_option maxRecDepth 20000 in
theorem ggX6_cut_X6_faultOfCut : GoodIn wsX6_cut wsX6_faultOfCut := goodIn_r _ [6, 7, 8, 5, 9, 10, 11, 12] (by decide +kernel) (by decide +kernel)
set_option maxRecDepth 20000 in
theorem gX6_cut_X6_faultOfCut : GoodIn wsX6_cut (va_wsS RX6 37 yX6_faultOfCut wsX6_faultOfCut) := goodIn_app (goodIn_of _ (by decide +kernel)) ggX6_cut_X6_faultOfCut
set_option maxRecDepth 20000 in
theorem ggX6_cut_X6_throwFor : GoodIn wsX6_cut wsX6_throwFor := goodIn_ca (goodIn_ca (goodIn_ca (goodIn_r _ [15, 16, 17, 18, 19, 20, 21] (by decide +kernel) (by decide +kernel)) (goodIn_sub (fun _ h => List.mem_cons_of_mem _ (List.mem_append_left _ (List.mem_append_left _ (List.mem_append_right _ h)))) (by decide +kernel))) (goodIn_sub (fun _ h => List.mem_cons_of_mem _ (List.mem_append_left _ (List.mem_append_right _ h))) (by decide +kernel))) (goodIn_sub (fun _ h => List.mem_cons_of_mem _ (List.mem_append_right _ h)) (by decide +kernel))
set_option maxRecDepth 20000 in
theorem gX6_cut_X6_throwFor : GoodIn wsX6_cut (va_wsS RX6 41 yX6_throwFor wsX6_throwFor) := goodIn_app (goodIn_of _ (by decide +kernel)) ggX6_cut_X6_throwFor
set_option maxRecDepth 20000 in
theorem ggX6_cut_X5_push : GoodIn wsX6_cut wsX5_push := goodIn_r _ [26, 27, 28, 29, 30, 31, 25, 32, 33, 34, 35, 36, 37, 38, 39, 40, 41, 42, 43, 44, 45, 46, 47, 48, 49, 50, 51, 52, 53, 54, 55, 56, 57, 58, 59, 60, 61, 62, 63, 64, 65, 66, 67, 68, 69, 70, 95, 96, 97, 98, 99, 100, 101, 102, 103, 104, 105, 106, 107, 108, 109, 110, 111, 112, 113, 114, 115, 116] (by decide +kernel) (by decide +kernel)
set_option maxRecDepth 20000 in
theorem gX6_cut_X5_push : GoodIn wsX6_cut (wsV RX6 45 RX5 yX5_push wsX5_push) := goodIn_app (goodIn_of _ (by decide +kernel)) ggX6_cut_X5_push
set_option maxRecDepth 20000 in
theorem ggX6_cut_X4_cutSign : GoodIn wsX6_cut wsX4_cutSign := goodIn_r _ [74, 39, 40, 75, 76, 77, 60, 78, 62, 79, 80, 81, 82, 83, 84, 85, 37, 86, 42, 87, 88, 89, 90, 49, 48, 55, 98, 99, 100, 101, 102, 103, 104, 105, 106, 107, 108, 109, 110, 111, 112, 113, 114, 115, 116] (by decide +kernel) (by decide +kernel)
set_option maxRecDepth 20000 in
theorem gX6_cut_X4_cutSign : GoodIn wsX6_cut (wsV RX6 49 RX4 yX4_cutSign wsX4_cutSign) := goodIn_app (goodIn_of _ (by decide +kernel)) ggX6_cut_X4_cutSign
theorem dX6_cut_0 : decode cX6_cut 0 = .ok (.iload_n 1, 1) := by decide +kernel
theorem dX6_cut_1 : decode cX6_cut 1 = .ok (.iload_n 2, 1) := by decide +kernel
theorem dX6_cut_2 : decode cX6_cut 2 = .ok (.iload_n 3, 1) := by decide +kernel
theorem dX6_cut_3 : decode cX6_cut 3 = .ok (.invokestatic 37, 3) := by decide +kernel
theorem dX6_cut_6 : decode cX6_cut 6 = .ok (.invokestatic 41, 3) := by decide +kernel
theorem dX6_cut_9 : decode cX6_cut 9 = .ok (.aload_n 0, 1) := by decide +kernel
theorem dX6_cut_10 : decode cX6_cut 10 = .ok (.getfield 19, 3) := by decide +kernel
theorem dX6_cut_13 : decode cX6_cut 13 = .ok (.aload_n 0, 1) := by decide +kernel
theorem dX6_cut_14 : decode cX6_cut 14 = .ok (.getfield 12, 3) := by decide +kernel
theorem dX6_cut_17 : decode cX6_cut 17 = .ok (.invokevirtual 45, 3) := by decide +kernel
theorem dX6_cut_20 : decode cX6_cut 20 = .ok (.aload_n 0, 1) := by decide +kernel
theorem dX6_cut_21 : decode cX6_cut 21 = .ok (.getfield 12, 3) := by decide +kernel
theorem dX6_cut_24 : decode cX6_cut 24 = .ok (.iload_n 1, 1) := by decide +kernel
theorem dX6_cut_25 : decode cX6_cut 25 = .ok (.iload_n 2, 1) := by decide +kernel
theorem dX6_cut_26 : decode cX6_cut 26 = .ok (.iload_n 3, 1) := by decide +kernel
theorem dX6_cut_27 : decode cX6_cut 27 = .ok (.invokevirtual 49, 3) := by decide +kernel
theorem dX6_cut_30 : decode cX6_cut 30 = .ok (.ireturn, 1) := by decide +kernel
set_option maxRecDepth 20000 in
theorem ggX6_use_X6_faultOfUse : GoodIn wsX6_use wsX6_faultOfUse := goodIn_r _ [8, 3, 2, 9, 10, 7, 11, 12, 13, 14, 15, 16, 17, 18, 19, 20, 21, 22, 23, 24, 25, 26, 27, 28, 29, 30, 31, 32, 33, 34, 35, 36, 37, 38, 39, 40, 41, 42, 43, 44, 45, 46, 47, 48, 49, 50, 51, 52, 53, 54, 55, 56, 57, 58, 59, 60, 61, 62, 63, 64, 65, 66, 67, 68, 69, 70, 71, 72, 73, 74, 75, 76, 77, 78, 79, 80, 81, 82, 83, 84, 85, 86, 87, 88, 89, 90, 91, 92, 93, 94, 95, 96, 97, 98, 99, 100, 101, 102, 103, 104, 105, 106, 107, 108, 109, 110, 111, 112, 113, 114, 115, 116, 117, 118, 119, 120, 121, 122, 123, 124, 125, 126, 127, 128, 129, 130, 131, 132, 133, 134, 135, 136, 137, 138, 139, 140, 141, 142, 143, 144, 145, 220, 221, 222, 223, 224, 225, 226, 227, 228, 229, 230, 231, 232, 233, 234, 235, 236, 237, 238, 239, 240, 241, 242, 243, 244, 245, 246, 247] (by decide +kernel) (by decide +kernel)
set_option maxRecDepth 20000 in
theorem gX6_use_X6_faultOfUse : GoodIn wsX6_use (wsV RX6 52 RX6 yX6_faultOfUse wsX6_faultOfUse) := goodIn_app (goodIn_of _ (by decide +kernel)) ggX6_use_X6_faultOfUse
set_option maxRecDepth 20000 in
theorem ggX6_use_X6_throwFor : GoodIn wsX6_use wsX6_throwFor := goodIn_ca (goodIn_ca (goodIn_ca (goodIn_r _ [148, 149, 150, 151, 152, 153, 154] (by decide +kernel) (by decide +kernel)) (goodIn_sub (fun _ h => List.mem_cons_of_mem _ (List.mem_append_left _ (List.mem_append_left _ (List.mem_append_right _ h)))) (by decide +kernel))) (goodIn_sub (fun _ h => List.mem_cons_of_mem _ (List.mem_append_left _ (List.mem_append_right _ h))) (by decide +kernel))) (goodIn_sub (fun _ h => List.mem_cons_of_mem _ (List.mem_append_right _ h)) (by decide +kernel))
set_option maxRecDepth 20000 in
theorem gX6_use_X6_throwFor : GoodIn wsX6_use (va_wsS RX6 41 yX6_throwFor wsX6_throwFor) := goodIn_app (goodIn_of _ (by decide +kernel)) ggX6_use_X6_throwFor
set_option maxRecDepth 20000 in
theorem ggX6_use_X5_push : GoodIn wsX6_use wsX5_push := goodIn_r _ [159, 160, 161, 162, 163, 164, 158, 165, 166, 167, 168, 169, 38, 170, 55, 66, 71, 40, 79, 78, 117, 111, 171, 77, 76, 172, 112, 173, 174, 175, 176, 177, 178, 179, 180, 44, 181, 46, 182, 183, 120, 184, 185, 186, 187, 188, 248, 249, 250, 229, 230, 231, 232, 233, 234, 235, 236, 237, 238, 239, 240, 241, 242, 243, 244, 245, 246, 247] (by decide +kernel) (by decide +kernel)
set_option maxRecDepth 20000 in
theorem gX6_use_X5_push : GoodIn wsX6_use (wsV RX6 45 RX5 yX5_push wsX5_push) := goodIn_app (goodIn_of _ (by decide +kernel)) ggX6_use_X5_push
set_option maxRecDepth 20000 in
theorem ggX6_use_X6_letterNumber : GoodIn wsX6_use wsX6_letterNumber := goodIn_r _ [20] (by decide +kernel) (by decide +kernel)
set_option maxRecDepth 20000 in
theorem gX6_use_X6_letterNumber : GoodIn wsX6_use (va_wsS RX6 55 yX6_letterNumber wsX6_letterNumber) := goodIn_app (goodIn_of _ (by decide +kernel)) ggX6_use_X6_letterNumber
set_option maxRecDepth 20000 in
theorem ggX6_use_X4_useLetter : GoodIn wsX6_use wsX4_useLetter := goodIn_r _ [192, 174, 173, 117, 111, 112, 171, 193, 194, 195, 38, 196, 177, 175, 71, 40, 79, 78, 77, 76, 197, 198, 199, 200, 60, 7, 61, 201, 202, 203, 204, 205, 52, 53, 54, 55, 56, 57, 41, 42, 43, 44, 45, 46, 58, 59, 206, 63, 64, 65, 66, 207, 36, 37, 39, 208, 209, 210, 211, 212, 213, 214, 215, 216, 217, 218, 219, 176, 224, 225, 226, 227, 228, 229, 230, 231, 232, 233, 234, 235, 236, 237, 238, 239, 240, 241, 242, 243, 244, 245, 246, 247] (by decide +kernel) (by decide +kernel)
set_option maxRecDepth 20000 in
theorem gX6_use_X4_useLetter : GoodIn wsX6_use (wsV RX6 58 RX4 yX4_useLetter wsX4_useLetter) := goodIn_app (goodIn_of _ (by decide +kernel)) ggX6_use_X4_useLetter
theorem dX6_use_0 : decode cX6_use 0 = .ok (.aload_n 0, 1) := by decide +kernel
theorem dX6_use_1 : decode cX6_use 1 = .ok (.iload_n 1, 1) := by decide +kernel
theorem dX6_use_2 : decode cX6_use 2 = .ok (.iload_n 2, 1) := by decide +kernel
theorem dX6_use_3 : decode cX6_use 3 = .ok (.iload_n 3, 1) := by decide +kernel
theorem dX6_use_4 : decode cX6_use 4 = .ok (.invokevirtual 52, 3) := by decide +kernel
theorem dX6_use_7 : decode cX6_use 7 = .ok (.invokestatic 41, 3) := by decide +kernel
theorem dX6_use_10 : decode cX6_use 10 = .ok (.aload_n 0, 1) := by decide +kernel
theorem dX6_use_11 : decode cX6_use 11 = .ok (.getfield 19, 3) := by decide +kernel
theorem dX6_use_14 : decode cX6_use 14 = .ok (.aload_n 0, 1) := by decide +kernel
theorem dX6_use_15 : decode cX6_use 15 = .ok (.getfield 12, 3) := by decide +kernel
theorem dX6_use_18 : decode cX6_use 18 = .ok (.invokevirtual 45, 3) := by decide +kernel
theorem dX6_use_21 : decode cX6_use 21 = .ok (.aload_n 0, 1) := by decide +kernel
theorem dX6_use_22 : decode cX6_use 22 = .ok (.getfield 12, 3) := by decide +kernel
theorem dX6_use_25 : decode cX6_use 25 = .ok (.iload_n 1, 1) := by decide +kernel
theorem dX6_use_26 : decode cX6_use 26 = .ok (.iload_n 2, 1) := by decide +kernel
theorem dX6_use_27 : decode cX6_use 27 = .ok (.iload_n 3, 1) := by decide +kernel
theorem dX6_use_28 : decode cX6_use 28 = .ok (.invokestatic 55, 3) := by decide +kernel
theorem dX6_use_31 : decode cX6_use 31 = .ok (.aload_n 0, 1) := by decide +kernel
theorem dX6_use_32 : decode cX6_use 32 = .ok (.getfield 33, 3) := by decide +kernel
theorem dX6_use_35 : decode cX6_use 35 = .ok (.invokevirtual 58, 3) := by decide +kernel
theorem dX6_use_38 : decode cX6_use 38 = .ok (.aload_n 0, 1) := by decide +kernel
theorem dX6_use_39 : decode cX6_use 39 = .ok (.getfield 33, 3) := by decide +kernel
theorem dX6_use_42 : decode cX6_use 42 = .ok (.getfield 62, 3) := by decide +kernel
theorem dX6_use_45 : decode cX6_use 45 = .ok (.ireturn, 1) := by decide +kernel
set_option maxRecDepth 20000 in
theorem ggX6_drop_X6_faultOfDrop : GoodIn wsX6_drop wsX6_faultOfDrop := goodIn_r _ [7, 2, 8, 9, 6, 10, 11, 12, 13, 14, 15, 16, 17, 18, 19, 20, 21, 22, 23, 24, 25, 26, 27, 28, 29, 30, 31, 98, 99, 100, 101, 102, 103, 104, 105, 106, 107, 108, 109, 110, 111, 112, 113, 114, 115, 116, 117, 118, 119, 120] (by decide +kernel) (by decide +kernel)
set_option maxRecDepth 20000 in
theorem gX6_drop_X6_faultOfDrop : GoodIn wsX6_drop (wsV RX6 66 RX6 yX6_faultOfDrop wsX6_faultOfDrop) := goodIn_app (goodIn_of _ (by decide +kernel)) ggX6_drop_X6_faultOfDrop
set_option maxRecDepth 20000 in
theorem ggX6_drop_X6_throwFor : GoodIn wsX6_drop wsX6_throwFor := goodIn_ca (goodIn_ca (goodIn_ca (goodIn_r _ [34, 35, 36, 37, 38, 39, 40] (by decide +kernel) (by decide +kernel)) (goodIn_sub (fun _ h => List.mem_cons_of_mem _ (List.mem_append_left _ (List.mem_append_left _ (List.mem_append_right _ h)))) (by decide +kernel))) (goodIn_sub (fun _ h => List.mem_cons_of_mem _ (List.mem_append_left _ (List.mem_append_right _ h))) (by decide +kernel))) (goodIn_sub (fun _ h => List.mem_cons_of_mem _ (List.mem_append_right _ h)) (by decide +kernel))
set_option maxRecDepth 20000 in
theorem gX6_drop_X6_throwFor : GoodIn wsX6_drop (va_wsS RX6 41 yX6_throwFor wsX6_throwFor) := goodIn_app (goodIn_of _ (by decide +kernel)) ggX6_drop_X6_throwFor
set_option maxRecDepth 20000 in
theorem ggX6_drop_X5_push : GoodIn wsX6_drop wsX5_push := goodIn_r _ [45, 46, 47, 48, 49, 50, 44, 51, 52, 53, 54, 55, 23, 56, 57, 58, 59, 25, 60, 61, 62, 63, 64, 65, 66, 67, 68, 69, 70, 71, 72, 73, 74, 75, 76, 29, 77, 31, 78, 79, 80, 81, 82, 83, 84, 85, 121, 122, 123, 102, 103, 104, 105, 106, 107, 108, 109, 110, 111, 112, 113, 114, 115, 116, 117, 118, 119, 120] (by decide +kernel) (by decide +kernel)
set_option maxRecDepth 20000 in
theorem gX6_drop_X5_push : GoodIn wsX6_drop (wsV RX6 45 RX5 yX5_push wsX5_push) := goodIn_app (goodIn_of _ (by decide +kernel)) ggX6_drop_X5_push
set_option maxRecDepth 20000 in
theorem ggX6_drop_X6_letterNumber : GoodIn wsX6_drop wsX6_letterNumber := goodIn_r _ [19] (by decide +kernel) (by decide +kernel)
set_option maxRecDepth 20000 in
theorem gX6_drop_X6_letterNumber : GoodIn wsX6_drop (va_wsS RX6 55 yX6_letterNumber wsX6_letterNumber) := goodIn_app (goodIn_of _ (by decide +kernel)) ggX6_drop_X6_letterNumber
set_option maxRecDepth 20000 in
theorem ggX6_drop_X4_dropLetter : GoodIn wsX6_drop wsX4_dropLetter := goodIn_r _ [89, 64, 26, 27, 28, 29, 30, 31, 90, 91, 92, 23, 93, 66, 65, 25, 72, 94, 95, 96, 97, 102, 103, 104, 105, 106, 107, 108, 109, 110, 111, 112, 113, 114, 115, 116, 117, 118, 119, 120] (by decide +kernel) (by decide +kernel)
set_option maxRecDepth 20000 in
theorem gX6_drop_X4_dropLetter : GoodIn wsX6_drop (wsV RX6 69 RX4 yX4_dropLetter wsX4_dropLetter) := goodIn_app (goodIn_of _ (by decide +kernel)) ggX6_drop_X4_dropLetter
theorem dX6_drop_0 : decode cX6_drop 0 = .ok (.aload_n 0, 1) := by decide +kernel
theorem dX6_drop_1 : decode cX6_drop 1 = .ok (.iload_n 1, 1) := by decide +kernel
theorem dX6_drop_2 : decode cX6_drop 2 = .ok (.iload_n 2, 1) := by decide +kernel
theorem dX6_drop_3 : decode cX6_drop 3 = .ok (.iload_n 3, 1) := by decide +kernel
theorem dX6_drop_4 : decode cX6_drop 4 = .ok (.invokevirtual 66, 3) := by decide +kernel
theorem dX6_drop_7 : decode cX6_drop 7 = .ok (.invokestatic 41, 3) := by decide +kernel
theorem dX6_drop_10 : decode cX6_drop 10 = .ok (.aload_n 0, 1) := by decide +kernel
theorem dX6_drop_11 : decode cX6_drop 11 = .ok (.getfield 19, 3) := by decide +kernel
theorem dX6_drop_14 : decode cX6_drop 14 = .ok (.aload_n 0, 1) := by decide +kernel
theorem dX6_drop_15 : decode cX6_drop 15 = .ok (.getfield 12, 3) := by decide +kernel
theorem dX6_drop_18 : decode cX6_drop 18 = .ok (.invokevirtual 45, 3) := by decide +kernel
theorem dX6_drop_21 : decode cX6_drop 21 = .ok (.aload_n 0, 1) := by decide +kernel
theorem dX6_drop_22 : decode cX6_drop 22 = .ok (.getfield 12, 3) := by decide +kernel
theorem dX6_drop_25 : decode cX6_drop 25 = .ok (.iload_n 1, 1) := by decide +kernel
theorem dX6_drop_26 : decode cX6_drop 26 = .ok (.iload_n 2, 1) := by decide +kernel
theorem dX6_drop_27 : decode cX6_drop 27 = .ok (.iload_n 3, 1) := by decide +kernel
theorem dX6_drop_28 : decode cX6_drop 28 = .ok (.invokestatic 55, 3) := by decide +kernel
theorem dX6_drop_31 : decode cX6_drop 31 = .ok (.invokevirtual 69, 3) := by decide +kernel
theorem dX6_drop_34 : decode cX6_drop 34 = .ok (.ireturn, 1) := by decide +kernel
set_option maxRecDepth 20000 in
theorem ggX6_newLine_X5_push : GoodIn wsX6_newLine wsX5_push := goodIn_r _ [7, 8, 9, 10, 11, 12, 6, 13, 14, 15, 16, 17, 18, 19, 20, 21, 22, 23, 24, 25, 26, 27, 28, 29, 30, 31, 32, 33, 34, 35, 36, 37, 38, 39, 40, 41, 42, 43, 44, 45, 46, 47, 48, 49, 50, 51, 72, 73, 74, 75, 76, 77, 78, 79, 80, 81, 82, 83, 84, 85, 86, 87, 88, 89, 90, 91, 92, 93] (by decide +kernel) (by decide +kernel)
set_option maxRecDepth 20000 in
theorem gX6_newLine_X5_push : GoodIn wsX6_newLine (wsV RX6 45 RX5 yX5_push wsX5_push) := goodIn_app (goodIn_of _ (by decide +kernel)) ggX6_newLine_X5_push
set_option maxRecDepth 20000 in
theorem ggX6_newLine_X4_beginLine : GoodIn wsX6_newLine wsX4_beginLine := goodIn_r _ [55, 32, 56, 57, 58, 18, 59, 30, 29, 60, 61, 62, 41, 63, 43, 64, 65, 66, 67, 27, 75, 76, 77, 78, 79, 80, 81, 82, 83, 84, 85, 86, 87, 88, 89, 90, 91, 92, 93] (by decide +kernel) (by decide +kernel)
set_option maxRecDepth 20000 in
theorem gX6_newLine_X4_beginLine : GoodIn wsX6_newLine (wsV RX6 73 RX4 yX4_beginLine wsX4_beginLine) := goodIn_app (goodIn_of _ (by decide +kernel)) ggX6_newLine_X4_beginLine
theorem dX6_newLine_0 : decode cX6_newLine 0 = .ok (.aload_n 0, 1) := by decide +kernel
theorem dX6_newLine_1 : decode cX6_newLine 1 = .ok (.getfield 19, 3) := by decide +kernel
theorem dX6_newLine_4 : decode cX6_newLine 4 = .ok (.aload_n 0, 1) := by decide +kernel
theorem dX6_newLine_5 : decode cX6_newLine 5 = .ok (.getfield 12, 3) := by decide +kernel
theorem dX6_newLine_8 : decode cX6_newLine 8 = .ok (.invokevirtual 45, 3) := by decide +kernel
theorem dX6_newLine_11 : decode cX6_newLine 11 = .ok (.aload_n 0, 1) := by decide +kernel
theorem dX6_newLine_12 : decode cX6_newLine 12 = .ok (.getfield 12, 3) := by decide +kernel
theorem dX6_newLine_15 : decode cX6_newLine 15 = .ok (.invokevirtual 73, 3) := by decide +kernel
theorem dX6_newLine_18 : decode cX6_newLine 18 = .ok (.ireturn, 1) := by decide +kernel
set_option maxRecDepth 20000 in
theorem ggX6_addTray_X6_faultOfAddTray : GoodIn wsX6_addTray wsX6_faultOfAddTray := goodIn_r _ [7, 2, 70, 71, 72, 73, 74, 75, 76, 77, 78, 79, 80, 81, 82, 83, 84, 85, 86, 87, 88, 89, 90, 91] (by decide +kernel) (by decide +kernel)
set_option maxRecDepth 20000 in
theorem gX6_addTray_X6_faultOfAddTray : GoodIn wsX6_addTray (wsV RX6 77 RX6 yX6_faultOfAddTray wsX6_faultOfAddTray) := goodIn_app (goodIn_of _ (by decide +kernel)) ggX6_addTray_X6_faultOfAddTray
set_option maxRecDepth 20000 in
theorem ggX6_addTray_X6_throwFor : GoodIn wsX6_addTray wsX6_throwFor := goodIn_ca (goodIn_ca (goodIn_ca (goodIn_r _ [10, 11, 12, 13, 14, 15, 16] (by decide +kernel) (by decide +kernel)) (goodIn_sub (fun _ h => List.mem_cons_of_mem _ (List.mem_append_left _ (List.mem_append_left _ (List.mem_append_right _ h)))) (by decide +kernel))) (goodIn_sub (fun _ h => List.mem_cons_of_mem _ (List.mem_append_left _ (List.mem_append_right _ h))) (by decide +kernel))) (goodIn_sub (fun _ h => List.mem_cons_of_mem _ (List.mem_append_right _ h)) (by decide +kernel))
set_option maxRecDepth 20000 in
theorem gX6_addTray_X6_throwFor : GoodIn wsX6_addTray (va_wsS RX6 41 yX6_throwFor wsX6_throwFor) := goodIn_app (goodIn_of _ (by decide +kernel)) ggX6_addTray_X6_throwFor
set_option maxRecDepth 20000 in
theorem ggX6_addTray_X5_push : GoodIn wsX6_addTray wsX5_push := goodIn_r _ [21, 22, 23, 24, 25, 26, 20, 27, 28, 29, 30, 31, 32, 33, 34, 35, 36, 37, 38, 39, 40, 41, 42, 43, 44, 45, 46, 47, 48, 49, 50, 51, 52, 53, 54, 55, 56, 57, 58, 59, 60, 61, 62, 63, 64, 65, 92, 93, 94, 74, 75, 76, 77, 78, 79, 80, 81, 82, 83, 84, 85, 86, 87, 88, 89, 90, 91, 95] (by decide +kernel) (by decide +kernel)
set_option maxRecDepth 20000 in
theorem gX6_addTray_X5_push : GoodIn wsX6_addTray (wsV RX6 45 RX5 yX5_push wsX5_push) := goodIn_app (goodIn_of _ (by decide +kernel)) ggX6_addTray_X5_push
set_option maxRecDepth 20000 in
theorem ggX6_addTray_X4_openTray : GoodIn wsX6_addTray wsX4_openTray := goodIn_r _ [69, 45, 74, 75, 76, 77, 78, 79, 80, 81, 82, 83, 84, 85, 86, 87, 88, 89, 90, 91] (by decide +kernel) (by decide +kernel)
set_option maxRecDepth 20000 in
theorem gX6_addTray_X4_openTray : GoodIn wsX6_addTray (wsV RX6 80 RX4 yX4_openTray wsX4_openTray) := goodIn_app (goodIn_of _ (by decide +kernel)) ggX6_addTray_X4_openTray
theorem dX6_addTray_0 : decode cX6_addTray 0 = .ok (.aload_n 0, 1) := by decide +kernel
theorem dX6_addTray_1 : decode cX6_addTray 1 = .ok (.invokevirtual 77, 3) := by decide +kernel
theorem dX6_addTray_4 : decode cX6_addTray 4 = .ok (.invokestatic 41, 3) := by decide +kernel
theorem dX6_addTray_7 : decode cX6_addTray 7 = .ok (.aload_n 0, 1) := by decide +kernel
theorem dX6_addTray_8 : decode cX6_addTray 8 = .ok (.getfield 19, 3) := by decide +kernel
theorem dX6_addTray_11 : decode cX6_addTray 11 = .ok (.aload_n 0, 1) := by decide +kernel
theorem dX6_addTray_12 : decode cX6_addTray 12 = .ok (.getfield 12, 3) := by decide +kernel
theorem dX6_addTray_15 : decode cX6_addTray 15 = .ok (.invokevirtual 45, 3) := by decide +kernel
theorem dX6_addTray_18 : decode cX6_addTray 18 = .ok (.aload_n 0, 1) := by decide +kernel
theorem dX6_addTray_19 : decode cX6_addTray 19 = .ok (.getfield 12, 3) := by decide +kernel
theorem dX6_addTray_22 : decode cX6_addTray 22 = .ok (.invokevirtual 80, 3) := by decide +kernel
theorem dX6_addTray_25 : decode cX6_addTray 25 = .ok (.ireturn, 1) := by decide +kernel
set_option maxRecDepth 20000 in
theorem ggX6_closeShelves_X5_push : GoodIn wsX6_closeShelves wsX5_push := goodIn_r _ [7, 8, 9, 10, 11, 12, 6, 13, 14, 15, 16, 17, 18, 19, 20, 21, 22, 23, 24, 25, 26, 27, 28, 29, 30, 31, 32, 33, 34, 35, 36, 37, 38, 39, 40, 41, 42, 43, 44, 45, 46, 47, 48, 49, 50, 51, 76, 77, 78, 79, 80, 81, 82, 83, 84, 85, 86, 87, 88, 89, 90, 91, 92, 93, 94, 95, 96, 97] (by decide +kernel) (by decide +kernel)
set_option maxRecDepth 20000 in
theorem gX6_closeShelves_X5_push : GoodIn wsX6_closeShelves (wsV RX6 45 RX5 yX5_push wsX5_push) := goodIn_app (goodIn_of _ (by decide +kernel)) ggX6_closeShelves_X5_push
set_option maxRecDepth 20000 in
theorem ggX6_closeShelves_X4_closeEmptyShelves : GoodIn wsX6_closeShelves wsX4_closeEmptyShelves := goodIn_r _ [55, 22, 56, 57, 58, 41, 59, 43, 60, 61, 62, 18, 63, 30, 23, 29, 64, 65, 66, 67, 68, 69, 70, 71, 79, 80, 81, 82, 83, 84, 85, 86, 87, 88, 89, 90, 91, 92, 93, 94, 95, 96, 97] (by decide +kernel) (by decide +kernel)
set_option maxRecDepth 20000 in
theorem gX6_closeShelves_X4_closeEmptyShelves : GoodIn wsX6_closeShelves (wsV RX6 83 RX4 yX4_closeEmptyShelves wsX4_closeEmptyShelves) := goodIn_app (goodIn_of _ (by decide +kernel)) ggX6_closeShelves_X4_closeEmptyShelves
theorem dX6_closeShelves_0 : decode cX6_closeShelves 0 = .ok (.aload_n 0, 1) := by decide +kernel
theorem dX6_closeShelves_1 : decode cX6_closeShelves 1 = .ok (.getfield 19, 3) := by decide +kernel
theorem dX6_closeShelves_4 : decode cX6_closeShelves 4 = .ok (.aload_n 0, 1) := by decide +kernel
theorem dX6_closeShelves_5 : decode cX6_closeShelves 5 = .ok (.getfield 12, 3) := by decide +kernel
theorem dX6_closeShelves_8 : decode cX6_closeShelves 8 = .ok (.invokevirtual 45, 3) := by decide +kernel
theorem dX6_closeShelves_11 : decode cX6_closeShelves 11 = .ok (.aload_n 0, 1) := by decide +kernel
theorem dX6_closeShelves_12 : decode cX6_closeShelves 12 = .ok (.getfield 12, 3) := by decide +kernel
theorem dX6_closeShelves_15 : decode cX6_closeShelves 15 = .ok (.invokevirtual 83, 3) := by decide +kernel
theorem dX6_closeShelves_18 : decode cX6_closeShelves 18 = .ok (.ireturn, 1) := by decide +kernel
set_option maxRecDepth 20000 in
theorem ggX6_letter_X6_faultOfLetter : GoodIn wsX6_letter wsX6_faultOfLetter := goodIn_r _ [5, 6, 7, 4, 8, 9, 10, 11] (by decide +kernel) (by decide +kernel)
set_option maxRecDepth 20000 in
theorem gX6_letter_X6_faultOfLetter : GoodIn wsX6_letter (va_wsS RX6 86 yX6_faultOfLetter wsX6_faultOfLetter) := goodIn_app (goodIn_of _ (by decide +kernel)) ggX6_letter_X6_faultOfLetter
set_option maxRecDepth 20000 in
theorem ggX6_letter_X6_throwFor : GoodIn wsX6_letter wsX6_throwFor := goodIn_ca (goodIn_ca (goodIn_ca (goodIn_r _ [14, 15, 16, 17, 18, 19, 20] (by decide +kernel) (by decide +kernel)) (goodIn_sub (fun _ h => List.mem_cons_of_mem _ (List.mem_append_left _ (List.mem_append_left _ (List.mem_append_right _ h)))) (by decide +kernel))) (goodIn_sub (fun _ h => List.mem_cons_of_mem _ (List.mem_append_left _ (List.mem_append_right _ h))) (by decide +kernel))) (goodIn_sub (fun _ h => List.mem_cons_of_mem _ (List.mem_append_right _ h)) (by decide +kernel))
set_option maxRecDepth 20000 in
theorem gX6_letter_X6_throwFor : GoodIn wsX6_letter (va_wsS RX6 41 yX6_throwFor wsX6_throwFor) := goodIn_app (goodIn_of _ (by decide +kernel)) ggX6_letter_X6_throwFor
set_option maxRecDepth 20000 in
theorem ggX6_letter_X6_faultOfWhat : GoodIn wsX6_letter wsX6_faultOfWhat := goodIn_r _ [23, 9, 10, 4, 11] (by decide +kernel) (by decide +kernel)
set_option maxRecDepth 20000 in
theorem gX6_letter_X6_faultOfWhat : GoodIn wsX6_letter (va_wsS RX6 89 yX6_faultOfWhat wsX6_faultOfWhat) := goodIn_app (goodIn_of _ (by decide +kernel)) ggX6_letter_X6_faultOfWhat
set_option maxRecDepth 20000 in
theorem ggX6_letter_X6_letterNumber : GoodIn wsX6_letter wsX6_letterNumber := goodIn_r _ [26] (by decide +kernel) (by decide +kernel)
set_option maxRecDepth 20000 in
theorem gX6_letter_X6_letterNumber : GoodIn wsX6_letter (va_wsS RX6 55 yX6_letterNumber wsX6_letterNumber) := goodIn_app (goodIn_of _ (by decide +kernel)) ggX6_letter_X6_letterNumber
set_option maxRecDepth 20000 in
theorem ggX6_letter_X4_letterValue : GoodIn wsX6_letter wsX4_letterValue := goodIn_r _ [31, 32, 33, 34, 35, 36, 37, 30, 38, 39, 40, 4, 41, 42, 43, 44, 45, 46, 47, 48, 49, 50, 51, 52, 53, 54, 55, 56, 57, 58, 59, 60, 61, 62, 63, 64, 65, 66, 67, 68, 69, 70, 71, 72, 73, 74, 75, 80, 81, 82, 83, 84, 85, 86, 87, 88, 89, 90, 91, 92, 93, 94, 95, 96, 97, 98] (by decide +kernel) (by decide +kernel)
set_option maxRecDepth 20000 in
theorem gX6_letter_X4_letterValue : GoodIn wsX6_letter (wsV RX6 93 RX4 yX4_letterValue wsX4_letterValue) := goodIn_app (goodIn_of _ (by decide +kernel)) ggX6_letter_X4_letterValue
theorem dX6_letter_0 : decode cX6_letter 0 = .ok (.iload_n 1, 1) := by decide +kernel
theorem dX6_letter_1 : decode cX6_letter 1 = .ok (.iload_n 2, 1) := by decide +kernel
theorem dX6_letter_2 : decode cX6_letter 2 = .ok (.iload_n 3, 1) := by decide +kernel
theorem dX6_letter_3 : decode cX6_letter 3 = .ok (.invokestatic 86, 3) := by decide +kernel
theorem dX6_letter_6 : decode cX6_letter 6 = .ok (.invokestatic 41, 3) := by decide +kernel
theorem dX6_letter_9 : decode cX6_letter 9 = .ok (.iload 4, 2) := by decide +kernel
theorem dX6_letter_11 : decode cX6_letter 11 = .ok (.bipush 9, 2) := by decide +kernel
theorem dX6_letter_13 : decode cX6_letter 13 = .ok (.invokestatic 89, 3) := by decide +kernel
theorem dX6_letter_16 : decode cX6_letter 16 = .ok (.invokestatic 41, 3) := by decide +kernel
theorem dX6_letter_19 : decode cX6_letter 19 = .ok (.aload_n 0, 1) := by decide +kernel
theorem dX6_letter_20 : decode cX6_letter 20 = .ok (.getfield 12, 3) := by decide +kernel
theorem dX6_letter_23 : decode cX6_letter 23 = .ok (.iload_n 1, 1) := by decide +kernel
theorem dX6_letter_24 : decode cX6_letter 24 = .ok (.iload_n 2, 1) := by decide +kernel
theorem dX6_letter_25 : decode cX6_letter 25 = .ok (.iload_n 3, 1) := by decide +kernel
theorem dX6_letter_26 : decode cX6_letter 26 = .ok (.invokestatic 55, 3) := by decide +kernel
theorem dX6_letter_29 : decode cX6_letter 29 = .ok (.iload 4, 2) := by decide +kernel
theorem dX6_letter_31 : decode cX6_letter 31 = .ok (.invokevirtual 93, 3) := by decide +kernel
theorem dX6_letter_34 : decode cX6_letter 34 = .ok (.ireturn, 1) := by decide +kernel
set_option maxRecDepth 20000 in
theorem ggX6_sign_X6_isSign : GoodIn wsX6_sign wsX6_isSign := goodIn_r _ [5, 6, 7, 4, 8] (by decide +kernel) (by decide +kernel)
set_option maxRecDepth 20000 in
theorem gX6_sign_X6_isSign : GoodIn wsX6_sign (va_wsS RX6 96 yX6_isSign wsX6_isSign) := goodIn_app (goodIn_of _ (by decide +kernel)) ggX6_sign_X6_isSign
set_option maxRecDepth 20000 in
theorem ggX6_sign_X6_throwFor : GoodIn wsX6_sign wsX6_throwFor := goodIn_ca (goodIn_ca (goodIn_ca (goodIn_r _ [11, 12, 13, 14, 15, 16, 17] (by decide +kernel) (by decide +kernel)) (goodIn_sub (fun _ h => List.mem_cons_of_mem _ (List.mem_append_left _ (List.mem_append_left _ (List.mem_append_right _ h)))) (by decide +kernel))) (goodIn_sub (fun _ h => List.mem_cons_of_mem _ (List.mem_append_left _ (List.mem_append_right _ h))) (by decide +kernel))) (goodIn_sub (fun _ h => List.mem_cons_of_mem _ (List.mem_append_right _ h)) (by decide +kernel))
set_option maxRecDepth 20000 in
theorem gX6_sign_X6_throwFor : GoodIn wsX6_sign (va_wsS RX6 41 yX6_throwFor wsX6_throwFor) := goodIn_app (goodIn_of _ (by decide +kernel)) ggX6_sign_X6_throwFor
set_option maxRecDepth 20000 in
theorem ggX6_sign_X6_faultOfWhat : GoodIn wsX6_sign wsX6_faultOfWhat := goodIn_r _ [20, 6, 7, 4, 8] (by decide +kernel) (by decide +kernel)
set_option maxRecDepth 20000 in
theorem gX6_sign_X6_faultOfWhat : GoodIn wsX6_sign (va_wsS RX6 89 yX6_faultOfWhat wsX6_faultOfWhat) := goodIn_app (goodIn_of _ (by decide +kernel)) ggX6_sign_X6_faultOfWhat
set_option maxRecDepth 20000 in
theorem ggX6_sign_X4_signValue : GoodIn wsX6_sign wsX4_signValue := goodIn_r _ [25, 26, 27, 28, 29, 30, 31, 32, 33, 34, 35, 36, 24, 37, 38, 39, 40, 4, 41, 42, 43, 44, 45, 46, 47, 48, 49, 50, 51, 52, 53, 54, 59, 60, 61, 62, 63, 64, 65, 66, 67, 68, 69, 70, 71, 72, 73, 74, 75, 76, 77] (by decide +kernel) (by decide +kernel)
set_option maxRecDepth 20000 in
theorem gX6_sign_X4_signValue : GoodIn wsX6_sign (wsV RX6 100 RX4 yX4_signValue wsX4_signValue) := goodIn_app (goodIn_of _ (by decide +kernel)) ggX6_sign_X4_signValue
theorem dX6_sign_0 : decode cX6_sign 0 = .ok (.iload_n 1, 1) := by decide +kernel
theorem dX6_sign_1 : decode cX6_sign 1 = .ok (.invokestatic 96, 3) := by decide +kernel
theorem dX6_sign_4 : decode cX6_sign 4 = .ok (.ifCond .eq 7, 3) := by decide +kernel
theorem dX6_sign_7 : decode cX6_sign 7 = .ok (.iconst 0, 1) := by decide +kernel
theorem dX6_sign_8 : decode cX6_sign 8 = .ok (.goto 4, 3) := by decide +kernel
theorem dX6_sign_11 : decode cX6_sign 11 = .ok (.iconst 1, 1) := by decide +kernel
theorem dX6_sign_12 : decode cX6_sign 12 = .ok (.invokestatic 41, 3) := by decide +kernel
theorem dX6_sign_15 : decode cX6_sign 15 = .ok (.iload_n 2, 1) := by decide +kernel
theorem dX6_sign_16 : decode cX6_sign 16 = .ok (.iconst 4, 1) := by decide +kernel
theorem dX6_sign_17 : decode cX6_sign 17 = .ok (.invokestatic 89, 3) := by decide +kernel
theorem dX6_sign_20 : decode cX6_sign 20 = .ok (.invokestatic 41, 3) := by decide +kernel
theorem dX6_sign_23 : decode cX6_sign 23 = .ok (.aload_n 0, 1) := by decide +kernel
theorem dX6_sign_24 : decode cX6_sign 24 = .ok (.getfield 12, 3) := by decide +kernel
theorem dX6_sign_27 : decode cX6_sign 27 = .ok (.iload_n 1, 1) := by decide +kernel
theorem dX6_sign_28 : decode cX6_sign 28 = .ok (.iload_n 2, 1) := by decide +kernel
theorem dX6_sign_29 : decode cX6_sign 29 = .ok (.invokevirtual 100, 3) := by decide +kernel
theorem dX6_sign_32 : decode cX6_sign 32 = .ok (.ireturn, 1) := by decide +kernel
set_option maxRecDepth 20000 in
theorem ggX6_tray_X6_isTray : GoodIn wsX6_tray wsX6_isTray := goodIn_r _ [6, 1, 7, 8, 5, 9, 81, 82, 83, 84, 85, 86, 87, 88, 89, 90, 91, 92, 93, 94, 95, 96, 97, 98, 99, 100, 101, 102] (by decide +kernel) (by decide +kernel)
set_option maxRecDepth 20000 in
theorem gX6_tray_X6_isTray : GoodIn wsX6_tray (wsV RX6 103 RX6 yX6_isTray wsX6_isTray) := goodIn_app (goodIn_of _ (by decide +kernel)) ggX6_tray_X6_isTray
set_option maxRecDepth 20000 in
theorem ggX6_tray_X6_throwFor : GoodIn wsX6_tray wsX6_throwFor := goodIn_ca (goodIn_ca (goodIn_ca (goodIn_r _ [12, 13, 14, 15, 16, 17, 18] (by decide +kernel) (by decide +kernel)) (goodIn_sub (fun _ h => List.mem_cons_of_mem _ (List.mem_append_left _ (List.mem_append_left _ (List.mem_append_right _ h)))) (by decide +kernel))) (goodIn_sub (fun _ h => List.mem_cons_of_mem _ (List.mem_append_left _ (List.mem_append_right _ h))) (by decide +kernel))) (goodIn_sub (fun _ h => List.mem_cons_of_mem _ (List.mem_append_right _ h)) (by decide +kernel))
set_option maxRecDepth 20000 in
theorem gX6_tray_X6_throwFor : GoodIn wsX6_tray (va_wsS RX6 41 yX6_throwFor wsX6_throwFor) := goodIn_app (goodIn_of _ (by decide +kernel)) ggX6_tray_X6_throwFor
set_option maxRecDepth 20000 in
theorem ggX6_tray_X6_faultOfWhat : GoodIn wsX6_tray wsX6_faultOfWhat := goodIn_r _ [21, 7, 8, 5, 9] (by decide +kernel) (by decide +kernel)
set_option maxRecDepth 20000 in
theorem gX6_tray_X6_faultOfWhat : GoodIn wsX6_tray (va_wsS RX6 89 yX6_faultOfWhat wsX6_faultOfWhat) := goodIn_app (goodIn_of _ (by decide +kernel)) ggX6_tray_X6_faultOfWhat
set_option maxRecDepth 20000 in
theorem ggX6_tray_X4_trayValue : GoodIn wsX6_tray wsX4_trayValue := goodIn_r _ [26, 27, 28, 29, 25, 30, 31, 32, 33, 34, 35, 36, 37, 38, 39, 40, 41, 42, 43, 44, 45, 46, 47, 48, 49, 50, 51, 52, 53, 54, 55, 56, 57, 58, 59, 60, 61, 62, 63, 64, 65, 66, 67, 68, 69, 70, 5, 71, 72, 73, 74, 75, 76, 77, 78, 79, 80, 85, 86, 87, 88, 89, 90, 91, 92, 93, 94, 95, 96, 97, 98, 99, 100, 101, 102, 103] (by decide +kernel) (by decide +kernel)
set_option maxRecDepth 20000 in
theorem gX6_tray_X4_trayValue : GoodIn wsX6_tray (wsV RX6 106 RX4 yX4_trayValue wsX4_trayValue) := goodIn_app (goodIn_of _ (by decide +kernel)) ggX6_tray_X4_trayValue
theorem dX6_tray_0 : decode cX6_tray 0 = .ok (.aload_n 0, 1) := by decide +kernel
theorem dX6_tray_1 : decode cX6_tray 1 = .ok (.iload_n 1, 1) := by decide +kernel
theorem dX6_tray_2 : decode cX6_tray 2 = .ok (.invokevirtual 103, 3) := by decide +kernel
theorem dX6_tray_5 : decode cX6_tray 5 = .ok (.ifCond .eq 7, 3) := by decide +kernel
theorem dX6_tray_8 : decode cX6_tray 8 = .ok (.iconst 0, 1) := by decide +kernel
theorem dX6_tray_9 : decode cX6_tray 9 = .ok (.goto 4, 3) := by decide +kernel
theorem dX6_tray_12 : decode cX6_tray 12 = .ok (.iconst 1, 1) := by decide +kernel
theorem dX6_tray_13 : decode cX6_tray 13 = .ok (.invokestatic 41, 3) := by decide +kernel
theorem dX6_tray_16 : decode cX6_tray 16 = .ok (.iload_n 2, 1) := by decide +kernel
theorem dX6_tray_17 : decode cX6_tray 17 = .ok (.iconst 4, 1) := by decide +kernel
theorem dX6_tray_18 : decode cX6_tray 18 = .ok (.invokestatic 89, 3) := by decide +kernel
theorem dX6_tray_21 : decode cX6_tray 21 = .ok (.invokestatic 41, 3) := by decide +kernel
theorem dX6_tray_24 : decode cX6_tray 24 = .ok (.aload_n 0, 1) := by decide +kernel
theorem dX6_tray_25 : decode cX6_tray 25 = .ok (.getfield 12, 3) := by decide +kernel
theorem dX6_tray_28 : decode cX6_tray 28 = .ok (.iload_n 1, 1) := by decide +kernel
theorem dX6_tray_29 : decode cX6_tray 29 = .ok (.iload_n 2, 1) := by decide +kernel
theorem dX6_tray_30 : decode cX6_tray 30 = .ok (.invokevirtual 106, 3) := by decide +kernel
theorem dX6_tray_33 : decode cX6_tray 33 = .ok (.ireturn, 1) := by decide +kernel
set_option maxRecDepth 20000 in
theorem ggX6_shelf_X6_isTray : GoodIn wsX6_shelf wsX6_isTray := goodIn_r _ [6, 1, 7, 8, 5, 9, 89, 90, 91, 92, 93, 94, 95, 96, 97, 98, 99, 100, 101, 102, 103, 104, 105, 106, 107, 108, 109, 110] (by decide +kernel) (by decide +kernel)
set_option maxRecDepth 20000 in
theorem gX6_shelf_X6_isTray : GoodIn wsX6_shelf (wsV RX6 103 RX6 yX6_isTray wsX6_isTray) := goodIn_app (goodIn_of _ (by decide +kernel)) ggX6_shelf_X6_isTray
set_option maxRecDepth 20000 in
theorem ggX6_shelf_X6_isShelf : GoodIn wsX6_shelf wsX6_isShelf := goodIn_r _ [13, 1, 14, 15, 16, 17, 18, 19, 20, 21, 22, 23, 24, 25, 7, 8, 5, 9, 89, 90, 91, 92, 93, 94, 95, 96, 97, 98, 99, 100, 101, 102, 103, 104, 105, 106, 107, 108, 109, 110, 111] (by decide +kernel) (by decide +kernel)
set_option maxRecDepth 20000 in
theorem gX6_shelf_X6_isShelf : GoodIn wsX6_shelf (wsV RX6 109 RX6 yX6_isShelf wsX6_isShelf) := goodIn_app (goodIn_of _ (by decide +kernel)) ggX6_shelf_X6_isShelf
set_option maxRecDepth 20000 in
theorem ggX6_shelf_X6_throwFor : GoodIn wsX6_shelf wsX6_throwFor := goodIn_ca (goodIn_ca (goodIn_ca (goodIn_r _ [28, 29, 30, 31, 32, 33, 34] (by decide +kernel) (by decide +kernel)) (goodIn_sub (fun _ h => List.mem_cons_of_mem _ (List.mem_append_left _ (List.mem_append_left _ (List.mem_append_right _ h)))) (by decide +kernel))) (goodIn_sub (fun _ h => List.mem_cons_of_mem _ (List.mem_append_left _ (List.mem_append_right _ h))) (by decide +kernel))) (goodIn_sub (fun _ h => List.mem_cons_of_mem _ (List.mem_append_right _ h)) (by decide +kernel))
set_option maxRecDepth 20000 in
theorem gX6_shelf_X6_throwFor : GoodIn wsX6_shelf (va_wsS RX6 41 yX6_throwFor wsX6_throwFor) := goodIn_app (goodIn_of _ (by decide +kernel)) ggX6_shelf_X6_throwFor
set_option maxRecDepth 20000 in
theorem ggX6_shelf_X6_faultOfWhat : GoodIn wsX6_shelf wsX6_faultOfWhat := goodIn_r _ [37, 7, 8, 5, 9] (by decide +kernel) (by decide +kernel)
set_option maxRecDepth 20000 in
theorem gX6_shelf_X6_faultOfWhat : GoodIn wsX6_shelf (va_wsS RX6 89 yX6_faultOfWhat wsX6_faultOfWhat) := goodIn_app (goodIn_of _ (by decide +kernel)) ggX6_shelf_X6_faultOfWhat
set_option maxRecDepth 20000 in
theorem ggX6_shelf_X4_shelfValue : GoodIn wsX6_shelf wsX4_shelfValue := goodIn_r _ [41, 19, 42, 43, 44, 17, 45, 20, 21, 22, 23, 24, 25, 46, 47, 48, 49, 50, 51, 52, 53, 54, 55, 56, 57, 58, 59, 60, 61, 62, 63, 64, 65, 66, 67, 68, 69, 70, 71, 72, 73, 74, 75, 76, 77, 78, 79, 80, 81, 82, 83, 84, 85, 86, 87, 88, 93, 94, 95, 96, 97, 98, 99, 100, 101, 102, 103, 104, 105, 106, 107, 108, 109, 110, 111] (by decide +kernel) (by decide +kernel)
set_option maxRecDepth 20000 in
theorem gX6_shelf_X4_shelfValue : GoodIn wsX6_shelf (wsV RX6 113 RX4 yX4_shelfValue wsX4_shelfValue) := goodIn_app (goodIn_of _ (by decide +kernel)) ggX6_shelf_X4_shelfValue
theorem dX6_shelf_0 : decode cX6_shelf 0 = .ok (.aload_n 0, 1) := by decide +kernel
theorem dX6_shelf_1 : decode cX6_shelf 1 = .ok (.iload_n 1, 1) := by decide +kernel
theorem dX6_shelf_2 : decode cX6_shelf 2 = .ok (.invokevirtual 103, 3) := by decide +kernel
theorem dX6_shelf_5 : decode cX6_shelf 5 = .ok (.ifCond .eq 16, 3) := by decide +kernel
theorem dX6_shelf_8 : decode cX6_shelf 8 = .ok (.aload_n 0, 1) := by decide +kernel
theorem dX6_shelf_9 : decode cX6_shelf 9 = .ok (.iload_n 1, 1) := by decide +kernel
theorem dX6_shelf_10 : decode cX6_shelf 10 = .ok (.iload_n 2, 1) := by decide +kernel
theorem dX6_shelf_11 : decode cX6_shelf 11 = .ok (.invokevirtual 109, 3) := by decide +kernel
theorem dX6_shelf_14 : decode cX6_shelf 14 = .ok (.ifCond .eq 7, 3) := by decide +kernel
theorem dX6_shelf_17 : decode cX6_shelf 17 = .ok (.iconst 0, 1) := by decide +kernel
theorem dX6_shelf_18 : decode cX6_shelf 18 = .ok (.goto 4, 3) := by decide +kernel
theorem dX6_shelf_21 : decode cX6_shelf 21 = .ok (.iconst 1, 1) := by decide +kernel
theorem dX6_shelf_22 : decode cX6_shelf 22 = .ok (.invokestatic 41, 3) := by decide +kernel
theorem dX6_shelf_25 : decode cX6_shelf 25 = .ok (.iload_n 3, 1) := by decide +kernel
theorem dX6_shelf_26 : decode cX6_shelf 26 = .ok (.bipush 7, 2) := by decide +kernel
theorem dX6_shelf_28 : decode cX6_shelf 28 = .ok (.invokestatic 89, 3) := by decide +kernel
theorem dX6_shelf_31 : decode cX6_shelf 31 = .ok (.invokestatic 41, 3) := by decide +kernel
theorem dX6_shelf_34 : decode cX6_shelf 34 = .ok (.aload_n 0, 1) := by decide +kernel
theorem dX6_shelf_35 : decode cX6_shelf 35 = .ok (.getfield 12, 3) := by decide +kernel
theorem dX6_shelf_38 : decode cX6_shelf 38 = .ok (.iload_n 1, 1) := by decide +kernel
theorem dX6_shelf_39 : decode cX6_shelf 39 = .ok (.bipush 24, 2) := by decide +kernel
theorem dX6_shelf_41 : decode cX6_shelf 41 = .ok (.imul, 1) := by decide +kernel
theorem dX6_shelf_42 : decode cX6_shelf 42 = .ok (.iload_n 2, 1) := by decide +kernel
theorem dX6_shelf_43 : decode cX6_shelf 43 = .ok (.iadd, 1) := by decide +kernel
theorem dX6_shelf_44 : decode cX6_shelf 44 = .ok (.iload_n 3, 1) := by decide +kernel
theorem dX6_shelf_45 : decode cX6_shelf 45 = .ok (.invokevirtual 113, 3) := by decide +kernel
theorem dX6_shelf_48 : decode cX6_shelf 48 = .ok (.ireturn, 1) := by decide +kernel
set_option maxRecDepth 20000 in
theorem ggX6_at_X6_isTray : GoodIn wsX6_at wsX6_isTray := goodIn_r _ [6, 1, 7, 8, 5, 9, 69, 70, 71, 72, 73, 74, 75, 76, 77, 78, 79, 80, 81, 82, 83, 84, 85, 86, 87, 88, 89, 90] (by decide +kernel) (by decide +kernel)
set_option maxRecDepth 20000 in
theorem gX6_at_X6_isTray : GoodIn wsX6_at (wsV RX6 103 RX6 yX6_isTray wsX6_isTray) := goodIn_app (goodIn_of _ (by decide +kernel)) ggX6_at_X6_isTray
set_option maxRecDepth 20000 in
theorem ggX6_at_X6_throwFor : GoodIn wsX6_at wsX6_throwFor := goodIn_ca (goodIn_ca (goodIn_ca (goodIn_r _ [12, 13, 14, 15, 16, 17, 18] (by decide +kernel) (by decide +kernel)) (goodIn_sub (fun _ h => List.mem_cons_of_mem _ (List.mem_append_left _ (List.mem_append_left _ (List.mem_append_right _ h)))) (by decide +kernel))) (goodIn_sub (fun _ h => List.mem_cons_of_mem _ (List.mem_append_left _ (List.mem_append_right _ h))) (by decide +kernel))) (goodIn_sub (fun _ h => List.mem_cons_of_mem _ (List.mem_append_right _ h)) (by decide +kernel))
set_option maxRecDepth 20000 in
theorem gX6_at_X6_throwFor : GoodIn wsX6_at (va_wsS RX6 41 yX6_throwFor wsX6_throwFor) := goodIn_app (goodIn_of _ (by decide +kernel)) ggX6_at_X6_throwFor
set_option maxRecDepth 20000 in
theorem ggX6_at_X6_isBetween : GoodIn wsX6_at wsX6_isBetween := goodIn_r _ [9] (by decide +kernel) (by decide +kernel)
set_option maxRecDepth 20000 in
theorem gX6_at_X6_isBetween : GoodIn wsX6_at (va_wsS RX6 116 yX6_isBetween wsX6_isBetween) := goodIn_app (goodIn_of _ (by decide +kernel)) ggX6_at_X6_isBetween
set_option maxRecDepth 20000 in
theorem ggX6_at_X4_letterAt : GoodIn wsX6_at wsX4_letterAt := goodIn_r _ [23, 24, 25, 26, 27, 28, 29, 30, 31, 32, 33, 34, 22, 35, 36, 37, 38, 39, 40, 41, 42, 43, 44, 45, 46, 47, 48, 49, 50, 51, 52, 53, 54, 55, 56, 57, 5, 58, 59, 60, 61, 62, 73, 74, 75, 76, 77, 78, 79, 80, 81, 82, 83, 84, 85, 86, 87, 88, 89, 90, 91] (by decide +kernel) (by decide +kernel)
set_option maxRecDepth 20000 in
theorem gX6_at_X4_letterAt : GoodIn wsX6_at (wsV RX6 120 RX4 yX4_letterAt wsX4_letterAt) := goodIn_app (goodIn_of _ (by decide +kernel)) ggX6_at_X4_letterAt
set_option maxRecDepth 20000 in
theorem ggX6_at_X6_codeOf : GoodIn wsX6_at wsX6_codeOf := goodIn_r _ [65, 66, 57, 5, 58, 67, 59, 60, 68, 61, 62] (by decide +kernel) (by decide +kernel)
set_option maxRecDepth 20000 in
theorem gX6_at_X6_codeOf : GoodIn wsX6_at (va_wsS RX6 123 yX6_codeOf wsX6_codeOf) := goodIn_app (goodIn_of _ (by decide +kernel)) ggX6_at_X6_codeOf
theorem dX6_at_0 : decode cX6_at 0 = .ok (.aload_n 0, 1) := by decide +kernel
theorem dX6_at_1 : decode cX6_at 1 = .ok (.iload_n 1, 1) := by decide +kernel
theorem dX6_at_2 : decode cX6_at 2 = .ok (.invokevirtual 103, 3) := by decide +kernel
theorem dX6_at_5 : decode cX6_at 5 = .ok (.ifCond .eq 7, 3) := by decide +kernel
theorem dX6_at_8 : decode cX6_at 8 = .ok (.iconst 0, 1) := by decide +kernel
theorem dX6_at_9 : decode cX6_at 9 = .ok (.goto 4, 3) := by decide +kernel
theorem dX6_at_12 : decode cX6_at 12 = .ok (.iconst 1, 1) := by decide +kernel
theorem dX6_at_13 : decode cX6_at 13 = .ok (.invokestatic 41, 3) := by decide +kernel
theorem dX6_at_16 : decode cX6_at 16 = .ok (.iload_n 2, 1) := by decide +kernel
theorem dX6_at_17 : decode cX6_at 17 = .ok (.iconst 0, 1) := by decide +kernel
theorem dX6_at_18 : decode cX6_at 18 = .ok (.bipush 23, 2) := by decide +kernel
theorem dX6_at_20 : decode cX6_at 20 = .ok (.invokestatic 116, 3) := by decide +kernel
theorem dX6_at_23 : decode cX6_at 23 = .ok (.ifCond .eq 17, 3) := by decide +kernel
theorem dX6_at_26 : decode cX6_at 26 = .ok (.iload_n 3, 1) := by decide +kernel
theorem dX6_at_27 : decode cX6_at 27 = .ok (.iconst 0, 1) := by decide +kernel
theorem dX6_at_28 : decode cX6_at 28 = .ok (.bipush 23, 2) := by decide +kernel
theorem dX6_at_30 : decode cX6_at 30 = .ok (.invokestatic 116, 3) := by decide +kernel
theorem dX6_at_33 : decode cX6_at 33 = .ok (.ifCond .eq 7, 3) := by decide +kernel
theorem dX6_at_36 : decode cX6_at 36 = .ok (.iconst 0, 1) := by decide +kernel
theorem dX6_at_37 : decode cX6_at 37 = .ok (.goto 4, 3) := by decide +kernel
theorem dX6_at_40 : decode cX6_at 40 = .ok (.iconst 2, 1) := by decide +kernel
theorem dX6_at_41 : decode cX6_at 41 = .ok (.invokestatic 41, 3) := by decide +kernel
theorem dX6_at_44 : decode cX6_at 44 = .ok (.aload_n 0, 1) := by decide +kernel
theorem dX6_at_45 : decode cX6_at 45 = .ok (.getfield 12, 3) := by decide +kernel
theorem dX6_at_48 : decode cX6_at 48 = .ok (.iload_n 1, 1) := by decide +kernel
theorem dX6_at_49 : decode cX6_at 49 = .ok (.iload_n 2, 1) := by decide +kernel
theorem dX6_at_50 : decode cX6_at 50 = .ok (.iload_n 3, 1) := by decide +kernel
theorem dX6_at_51 : decode cX6_at 51 = .ok (.invokevirtual 120, 3) := by decide +kernel
theorem dX6_at_54 : decode cX6_at 54 = .ok (.invokestatic 123, 3) := by decide +kernel
theorem dX6_at_57 : decode cX6_at 57 = .ok (.ireturn, 1) := by decide +kernel
set_option maxRecDepth 20000 in
theorem ggX6_street_X6_throwFor : GoodIn wsX6_street wsX6_throwFor := goodIn_ca (goodIn_ca (goodIn_ca (goodIn_r _ [5, 6, 7, 8, 9, 10, 11] (by decide +kernel) (by decide +kernel)) (goodIn_sub (fun _ h => List.mem_cons_of_mem _ (List.mem_append_left _ (List.mem_append_left _ (List.mem_append_right _ h)))) (by decide +kernel))) (goodIn_sub (fun _ h => List.mem_cons_of_mem _ (List.mem_append_left _ (List.mem_append_right _ h))) (by decide +kernel))) (goodIn_sub (fun _ h => List.mem_cons_of_mem _ (List.mem_append_right _ h)) (by decide +kernel))
set_option maxRecDepth 20000 in
theorem gX6_street_X6_throwFor : GoodIn wsX6_street (va_wsS RX6 41 yX6_throwFor wsX6_throwFor) := goodIn_app (goodIn_of _ (by decide +kernel)) ggX6_street_X6_throwFor
set_option maxRecDepth 20000 in
theorem ggX6_street_X4_letterOfStreet : GoodIn wsX6_street wsX4_letterOfStreet := goodIn_r _ [16, 17, 18, 19, 20, 21, 22, 23, 24, 25, 26, 27, 15, 28, 29, 46, 47, 48, 49, 50, 51, 52, 53, 54, 55, 56, 57, 58, 59, 60, 61, 62, 63, 64] (by decide +kernel) (by decide +kernel)
set_option maxRecDepth 20000 in
theorem gX6_street_X4_letterOfStreet : GoodIn wsX6_street (wsV RX6 126 RX4 yX4_letterOfStreet wsX4_letterOfStreet) := goodIn_app (goodIn_of _ (by decide +kernel)) ggX6_street_X4_letterOfStreet
set_option maxRecDepth 20000 in
theorem ggX6_street_X6_codeOf : GoodIn wsX6_street wsX6_codeOf := goodIn_r _ [32, 33, 34, 4, 35, 36, 37, 38, 39, 40, 41] (by decide +kernel) (by decide +kernel)
set_option maxRecDepth 20000 in
theorem gX6_street_X6_codeOf : GoodIn wsX6_street (va_wsS RX6 123 yX6_codeOf wsX6_codeOf) := goodIn_app (goodIn_of _ (by decide +kernel)) ggX6_street_X6_codeOf
theorem dX6_street_0 : decode cX6_street 0 = .ok (.iload_n 1, 1) := by decide +kernel
theorem dX6_street_1 : decode cX6_street 1 = .ok (.ifCond .lt 7, 3) := by decide +kernel
theorem dX6_street_4 : decode cX6_street 4 = .ok (.iconst 0, 1) := by decide +kernel
theorem dX6_street_5 : decode cX6_street 5 = .ok (.goto 4, 3) := by decide +kernel
theorem dX6_street_8 : decode cX6_street 8 = .ok (.iconst 2, 1) := by decide +kernel
theorem dX6_street_9 : decode cX6_street 9 = .ok (.invokestatic 41, 3) := by decide +kernel
theorem dX6_street_12 : decode cX6_street 12 = .ok (.aload_n 0, 1) := by decide +kernel
theorem dX6_street_13 : decode cX6_street 13 = .ok (.getfield 12, 3) := by decide +kernel
theorem dX6_street_16 : decode cX6_street 16 = .ok (.iload_n 1, 1) := by decide +kernel
theorem dX6_street_17 : decode cX6_street 17 = .ok (.invokevirtual 126, 3) := by decide +kernel
theorem dX6_street_20 : decode cX6_street 20 = .ok (.invokestatic 123, 3) := by decide +kernel
theorem dX6_street_23 : decode cX6_street 23 = .ok (.ireturn, 1) := by decide +kernel
set_option maxRecDepth 20000 in
theorem ggX6_whole_X6_faultOfWhat : GoodIn wsX6_whole wsX6_faultOfWhat := goodIn_r _ [6, 7, 8, 5, 9] (by decide +kernel) (by decide +kernel)
set_option maxRecDepth 20000 in
theorem gX6_whole_X6_faultOfWhat : GoodIn wsX6_whole (va_wsS RX6 89 yX6_faultOfWhat wsX6_faultOfWhat) := goodIn_app (goodIn_of _ (by decide +kernel)) ggX6_whole_X6_faultOfWhat
set_option maxRecDepth 20000 in
theorem ggX6_whole_X6_throwFor : GoodIn wsX6_whole wsX6_throwFor := goodIn_ca (goodIn_ca (goodIn_ca (goodIn_r _ [12, 13, 14, 15, 16, 17, 18] (by decide +kernel) (by decide +kernel)) (goodIn_sub (fun _ h => List.mem_cons_of_mem _ (List.mem_append_left _ (List.mem_append_left _ (List.mem_append_right _ h)))) (by decide +kernel))) (goodIn_sub (fun _ h => List.mem_cons_of_mem _ (List.mem_append_left _ (List.mem_append_right _ h))) (by decide +kernel))) (goodIn_sub (fun _ h => List.mem_cons_of_mem _ (List.mem_append_right _ h)) (by decide +kernel))
set_option maxRecDepth 20000 in
theorem gX6_whole_X6_throwFor : GoodIn wsX6_whole (va_wsS RX6 41 yX6_throwFor wsX6_throwFor) := goodIn_app (goodIn_of _ (by decide +kernel)) ggX6_whole_X6_throwFor
set_option maxRecDepth 20000 in
theorem ggX6_whole_X4_wholeValue : GoodIn wsX6_whole wsX4_wholeValue := goodIn_r _ [23, 24, 25, 26, 27, 28, 29, 30, 31, 32, 33, 34, 22, 35, 36, 37, 38, 39, 40, 41, 42, 43, 44, 45, 46, 47, 48, 49, 50, 51, 52, 53, 54, 55, 56, 57, 58, 59, 60, 61, 62, 63, 64, 65, 66, 67, 68, 69, 70, 71, 72, 73, 74, 75, 76, 77, 78, 79, 80, 81, 82, 83, 5, 84, 85, 86, 87, 88, 89, 90, 91, 92, 93, 104, 105, 106, 107, 108, 109, 110, 111, 112, 113, 114, 115, 116, 117, 118, 119, 120, 121, 122] (by decide +kernel) (by decide +kernel)
set_option maxRecDepth 20000 in
theorem gX6_whole_X4_wholeValue : GoodIn wsX6_whole (wsV RX6 132 RX4 yX4_wholeValue wsX4_wholeValue) := goodIn_app (goodIn_of _ (by decide +kernel)) ggX6_whole_X4_wholeValue
theorem dX6_whole_0 : decode cX6_whole 0 = .ok (.iload_n 1, 1) := by decide +kernel
theorem dX6_whole_1 : decode cX6_whole 1 = .ok (.bipush 13, 2) := by decide +kernel
theorem dX6_whole_3 : decode cX6_whole 3 = .ok (.invokestatic 89, 3) := by decide +kernel
theorem dX6_whole_6 : decode cX6_whole 6 = .ok (.invokestatic 41, 3) := by decide +kernel
theorem dX6_whole_9 : decode cX6_whole 9 = .ok (.iload_n 1, 1) := by decide +kernel
theorem dX6_whole_10 : decode cX6_whole 10 = .ok (.bipush 12, 2) := by decide +kernel
theorem dX6_whole_12 : decode cX6_whole 12 = .ok (.if_icmp .ne 13, 3) := by decide +kernel
theorem dX6_whole_15 : decode cX6_whole 15 = .ok (.aload_n 0, 1) := by decide +kernel
theorem dX6_whole_16 : decode cX6_whole 16 = .ok (.getfield 26, 3) := by decide +kernel
theorem dX6_whole_19 : decode cX6_whole 19 = .ok (.getfield 129, 3) := by decide +kernel
theorem dX6_whole_22 : decode cX6_whole 22 = .ok (.goto 11, 3) := by decide +kernel
theorem dX6_whole_25 : decode cX6_whole 25 = .ok (.aload_n 0, 1) := by decide +kernel
theorem dX6_whole_26 : decode cX6_whole 26 = .ok (.getfield 12, 3) := by decide +kernel
theorem dX6_whole_29 : decode cX6_whole 29 = .ok (.iload_n 1, 1) := by decide +kernel
theorem dX6_whole_30 : decode cX6_whole 30 = .ok (.invokevirtual 132, 3) := by decide +kernel
theorem dX6_whole_33 : decode cX6_whole 33 = .ok (.ireturn, 1) := by decide +kernel
set_option maxRecDepth 20000 in
theorem ggX6_rule_X6_faultOfLetter : GoodIn wsX6_rule wsX6_faultOfLetter := goodIn_r _ [6, 7, 8, 5, 9, 10, 11, 12] (by decide +kernel) (by decide +kernel)
set_option maxRecDepth 20000 in
theorem gX6_rule_X6_faultOfLetter : GoodIn wsX6_rule (va_wsS RX6 86 yX6_faultOfLetter wsX6_faultOfLetter) := goodIn_app (goodIn_of _ (by decide +kernel)) ggX6_rule_X6_faultOfLetter
set_option maxRecDepth 20000 in
theorem ggX6_rule_X6_throwFor : GoodIn wsX6_rule wsX6_throwFor := goodIn_ca (goodIn_ca (goodIn_ca (goodIn_r _ [15, 16, 17, 18, 19, 20, 21] (by decide +kernel) (by decide +kernel)) (goodIn_sub (fun _ h => List.mem_cons_of_mem _ (List.mem_append_left _ (List.mem_append_left _ (List.mem_append_right _ h)))) (by decide +kernel))) (goodIn_sub (fun _ h => List.mem_cons_of_mem _ (List.mem_append_left _ (List.mem_append_right _ h))) (by decide +kernel))) (goodIn_sub (fun _ h => List.mem_cons_of_mem _ (List.mem_append_right _ h)) (by decide +kernel))
set_option maxRecDepth 20000 in
theorem gX6_rule_X6_throwFor : GoodIn wsX6_rule (va_wsS RX6 41 yX6_throwFor wsX6_throwFor) := goodIn_app (goodIn_of _ (by decide +kernel)) ggX6_rule_X6_throwFor
set_option maxRecDepth 20000 in
theorem ggX6_rule_X6_letterNumber : GoodIn wsX6_rule wsX6_letterNumber := goodIn_r _ [24] (by decide +kernel) (by decide +kernel)
set_option maxRecDepth 20000 in
theorem gX6_rule_X6_letterNumber : GoodIn wsX6_rule (va_wsS RX6 55 yX6_letterNumber wsX6_letterNumber) := goodIn_app (goodIn_of _ (by decide +kernel)) ggX6_rule_X6_letterNumber
set_option maxRecDepth 20000 in
theorem ggX6_rule_X2_find : GoodIn wsX6_rule wsX2_find := goodIn_r _ [29, 30, 31, 32, 33, 34, 35, 28, 36, 37, 38, 39, 40, 41, 42, 43, 44, 45, 46, 47, 48, 49, 50, 51, 52, 53, 54, 55, 56, 57, 58, 59, 60, 5, 61, 62, 63, 64, 65, 66, 67, 68, 69, 70, 71, 72, 73, 74, 75, 76, 77, 78, 79, 80, 81, 82, 83, 84, 85, 86, 87, 88, 89, 90, 91, 92, 93, 94, 95, 96, 97, 98, 99, 100, 101, 102, 103, 104, 105, 106, 107, 108, 109, 110, 111, 112, 113, 114, 115, 116, 117, 118, 119, 120, 121, 122, 123, 124, 125, 126, 127, 128, 129, 130, 131, 132, 133, 134, 135, 136, 137, 138, 139, 140, 141, 142, 143, 144, 145, 146, 147, 148, 149, 154, 155, 156, 157, 158, 159, 160, 161, 162, 163, 164, 165, 166, 167, 168, 169, 170, 171, 172, 173, 174, 175, 176, 177] (by decide +kernel) (by decide +kernel)
set_option maxRecDepth 20000 in
theorem gX6_rule_X2_find : GoodIn wsX6_rule (wsV RX6 135 RX2 yX2_find wsX2_find) := goodIn_app (goodIn_of _ (by decide +kernel)) ggX6_rule_X2_find
theorem dX6_rule_0 : decode cX6_rule 0 = .ok (.iload_n 1, 1) := by decide +kernel
theorem dX6_rule_1 : decode cX6_rule 1 = .ok (.iload_n 2, 1) := by decide +kernel
theorem dX6_rule_2 : decode cX6_rule 2 = .ok (.iload_n 3, 1) := by decide +kernel
theorem dX6_rule_3 : decode cX6_rule 3 = .ok (.invokestatic 86, 3) := by decide +kernel
theorem dX6_rule_6 : decode cX6_rule 6 = .ok (.invokestatic 41, 3) := by decide +kernel
theorem dX6_rule_9 : decode cX6_rule 9 = .ok (.aload_n 0, 1) := by decide +kernel
theorem dX6_rule_10 : decode cX6_rule 10 = .ok (.getfield 33, 3) := by decide +kernel
theorem dX6_rule_13 : decode cX6_rule 13 = .ok (.aload_n 0, 1) := by decide +kernel
theorem dX6_rule_14 : decode cX6_rule 14 = .ok (.getfield 12, 3) := by decide +kernel
theorem dX6_rule_17 : decode cX6_rule 17 = .ok (.iload_n 1, 1) := by decide +kernel
theorem dX6_rule_18 : decode cX6_rule 18 = .ok (.iload_n 2, 1) := by decide +kernel
theorem dX6_rule_19 : decode cX6_rule 19 = .ok (.iload_n 3, 1) := by decide +kernel
theorem dX6_rule_20 : decode cX6_rule 20 = .ok (.invokestatic 55, 3) := by decide +kernel
theorem dX6_rule_23 : decode cX6_rule 23 = .ok (.invokevirtual 135, 3) := by decide +kernel
theorem dX6_rule_26 : decode cX6_rule 26 = .ok (.aload_n 0, 1) := by decide +kernel
theorem dX6_rule_27 : decode cX6_rule 27 = .ok (.getfield 33, 3) := by decide +kernel
theorem dX6_rule_30 : decode cX6_rule 30 = .ok (.getfield 62, 3) := by decide +kernel
theorem dX6_rule_33 : decode cX6_rule 33 = .ok (.ireturn, 1) := by decide +kernel
set_option maxRecDepth 20000 in
theorem ggX6_takenBy_X6_faultOfLetter : GoodIn wsX6_takenBy wsX6_faultOfLetter := goodIn_r _ [6, 7, 8, 5, 9, 10, 11, 12] (by decide +kernel) (by decide +kernel)
set_option maxRecDepth 20000 in
theorem gX6_takenBy_X6_faultOfLetter : GoodIn wsX6_takenBy (va_wsS RX6 86 yX6_faultOfLetter wsX6_faultOfLetter) := goodIn_app (goodIn_of _ (by decide +kernel)) ggX6_takenBy_X6_faultOfLetter
set_option maxRecDepth 20000 in
theorem ggX6_takenBy_X6_throwFor : GoodIn wsX6_takenBy wsX6_throwFor := goodIn_ca (goodIn_ca (goodIn_ca (goodIn_r _ [15, 16, 17, 18, 19, 20, 21] (by decide +kernel) (by decide +kernel)) (goodIn_sub (fun _ h => List.mem_cons_of_mem _ (List.mem_append_left _ (List.mem_append_left _ (List.mem_append_right _ h)))) (by decide +kernel))) (goodIn_sub (fun _ h => List.mem_cons_of_mem _ (List.mem_append_left _ (List.mem_append_right _ h))) (by decide +kernel))) (goodIn_sub (fun _ h => List.mem_cons_of_mem _ (List.mem_append_right _ h)) (by decide +kernel))
set_option maxRecDepth 20000 in
theorem gX6_takenBy_X6_throwFor : GoodIn wsX6_takenBy (va_wsS RX6 41 yX6_throwFor wsX6_throwFor) := goodIn_app (goodIn_of _ (by decide +kernel)) ggX6_takenBy_X6_throwFor
set_option maxRecDepth 20000 in
theorem ggX6_takenBy_X6_letterNumber : GoodIn wsX6_takenBy wsX6_letterNumber := goodIn_r _ [24] (by decide +kernel) (by decide +kernel)
set_option maxRecDepth 20000 in
theorem gX6_takenBy_X6_letterNumber : GoodIn wsX6_takenBy (va_wsS RX6 55 yX6_letterNumber wsX6_letterNumber) := goodIn_app (goodIn_of _ (by decide +kernel)) ggX6_takenBy_X6_letterNumber
set_option maxRecDepth 20000 in
theorem ggX6_takenBy_X2_find : GoodIn wsX6_takenBy wsX2_find := goodIn_r _ [29, 30, 31, 32, 33, 34, 35, 28, 36, 37, 38, 39, 40, 41, 42, 43, 44, 45, 46, 47, 48, 49, 50, 51, 52, 53, 54, 55, 56, 57, 58, 59, 60, 5, 61, 62, 63, 64, 65, 66, 67, 68, 69, 70, 71, 72, 73, 74, 75, 76, 77, 78, 79, 80, 81, 82, 83, 84, 85, 86, 87, 88, 89, 90, 91, 92, 93, 94, 95, 96, 97, 98, 99, 100, 101, 102, 103, 104, 105, 106, 107, 108, 109, 110, 111, 112, 113, 114, 115, 116, 117, 118, 119, 120, 121, 122, 123, 124, 125, 126, 127, 128, 129, 130, 131, 132, 133, 134, 135, 136, 137, 138, 139, 140, 141, 142, 143, 144, 145, 146, 147, 148, 149, 154, 155, 156, 157, 158, 159, 160, 161, 162, 163, 164, 165, 166, 167, 168, 169, 170, 171, 172, 173, 174, 175, 176, 177] (by decide +kernel) (by decide +kernel)
set_option maxRecDepth 20000 in
theorem gX6_takenBy_X2_find : GoodIn wsX6_takenBy (wsV RX6 135 RX2 yX2_find wsX2_find) := goodIn_app (goodIn_of _ (by decide +kernel)) ggX6_takenBy_X2_find
theorem dX6_takenBy_0 : decode cX6_takenBy 0 = .ok (.iload_n 1, 1) := by decide +kernel
theorem dX6_takenBy_1 : decode cX6_takenBy 1 = .ok (.iload_n 2, 1) := by decide +kernel
theorem dX6_takenBy_2 : decode cX6_takenBy 2 = .ok (.iload_n 3, 1) := by decide +kernel
theorem dX6_takenBy_3 : decode cX6_takenBy 3 = .ok (.invokestatic 86, 3) := by decide +kernel
theorem dX6_takenBy_6 : decode cX6_takenBy 6 = .ok (.invokestatic 41, 3) := by decide +kernel
theorem dX6_takenBy_9 : decode cX6_takenBy 9 = .ok (.aload_n 0, 1) := by decide +kernel
theorem dX6_takenBy_10 : decode cX6_takenBy 10 = .ok (.getfield 33, 3) := by decide +kernel
theorem dX6_takenBy_13 : decode cX6_takenBy 13 = .ok (.aload_n 0, 1) := by decide +kernel
theorem dX6_takenBy_14 : decode cX6_takenBy 14 = .ok (.getfield 12, 3) := by decide +kernel
theorem dX6_takenBy_17 : decode cX6_takenBy 17 = .ok (.iload_n 1, 1) := by decide +kernel
theorem dX6_takenBy_18 : decode cX6_takenBy 18 = .ok (.iload_n 2, 1) := by decide +kernel
theorem dX6_takenBy_19 : decode cX6_takenBy 19 = .ok (.iload_n 3, 1) := by decide +kernel
theorem dX6_takenBy_20 : decode cX6_takenBy 20 = .ok (.invokestatic 55, 3) := by decide +kernel
theorem dX6_takenBy_23 : decode cX6_takenBy 23 = .ok (.invokevirtual 135, 3) := by decide +kernel
theorem dX6_takenBy_26 : decode cX6_takenBy 26 = .ok (.aload_n 0, 1) := by decide +kernel
theorem dX6_takenBy_27 : decode cX6_takenBy 27 = .ok (.getfield 33, 3) := by decide +kernel
theorem dX6_takenBy_30 : decode cX6_takenBy 30 = .ok (.getfield 62, 3) := by decide +kernel
theorem dX6_takenBy_33 : decode cX6_takenBy 33 = .ok (.iconst (-1), 1) := by decide +kernel
theorem dX6_takenBy_34 : decode cX6_takenBy 34 = .ok (.if_icmp .ne 7, 3) := by decide +kernel
theorem dX6_takenBy_37 : decode cX6_takenBy 37 = .ok (.iconst (-1), 1) := by decide +kernel
theorem dX6_takenBy_38 : decode cX6_takenBy 38 = .ok (.goto 10, 3) := by decide +kernel
theorem dX6_takenBy_41 : decode cX6_takenBy 41 = .ok (.aload_n 0, 1) := by decide +kernel
theorem dX6_takenBy_42 : decode cX6_takenBy 42 = .ok (.getfield 33, 3) := by decide +kernel
theorem dX6_takenBy_45 : decode cX6_takenBy 45 = .ok (.getfield 139, 3) := by decide +kernel
theorem dX6_takenBy_48 : decode cX6_takenBy 48 = .ok (.ireturn, 1) := by decide +kernel
set_option maxRecDepth 20000 in
theorem ggX6_costOf_X6_faultOfLetter : GoodIn wsX6_costOf wsX6_faultOfLetter := goodIn_r _ [6, 7, 8, 5, 9, 10, 11, 12] (by decide +kernel) (by decide +kernel)
set_option maxRecDepth 20000 in
theorem gX6_costOf_X6_faultOfLetter : GoodIn wsX6_costOf (va_wsS RX6 86 yX6_faultOfLetter wsX6_faultOfLetter) := goodIn_app (goodIn_of _ (by decide +kernel)) ggX6_costOf_X6_faultOfLetter
set_option maxRecDepth 20000 in
theorem ggX6_costOf_X6_throwFor : GoodIn wsX6_costOf wsX6_throwFor := goodIn_ca (goodIn_ca (goodIn_ca (goodIn_r _ [15, 16, 17, 18, 19, 20, 21] (by decide +kernel) (by decide +kernel)) (goodIn_sub (fun _ h => List.mem_cons_of_mem _ (List.mem_append_left _ (List.mem_append_left _ (List.mem_append_right _ h)))) (by decide +kernel))) (goodIn_sub (fun _ h => List.mem_cons_of_mem _ (List.mem_append_left _ (List.mem_append_right _ h))) (by decide +kernel))) (goodIn_sub (fun _ h => List.mem_cons_of_mem _ (List.mem_append_right _ h)) (by decide +kernel))
set_option maxRecDepth 20000 in
theorem gX6_costOf_X6_throwFor : GoodIn wsX6_costOf (va_wsS RX6 41 yX6_throwFor wsX6_throwFor) := goodIn_app (goodIn_of _ (by decide +kernel)) ggX6_costOf_X6_throwFor
set_option maxRecDepth 20000 in
theorem ggX6_costOf_X6_letterNumber : GoodIn wsX6_costOf wsX6_letterNumber := goodIn_r _ [24] (by decide +kernel) (by decide +kernel)
set_option maxRecDepth 20000 in
theorem gX6_costOf_X6_letterNumber : GoodIn wsX6_costOf (va_wsS RX6 55 yX6_letterNumber wsX6_letterNumber) := goodIn_app (goodIn_of _ (by decide +kernel)) ggX6_costOf_X6_letterNumber
set_option maxRecDepth 20000 in
theorem ggX6_costOf_X2_find : GoodIn wsX6_costOf wsX2_find := goodIn_r _ [29, 30, 31, 32, 33, 34, 35, 28, 36, 37, 38, 39, 40, 41, 42, 43, 44, 45, 46, 47, 48, 49, 50, 51, 52, 53, 54, 55, 56, 57, 58, 59, 60, 5, 61, 62, 63, 64, 65, 66, 67, 68, 69, 70, 71, 72, 73, 74, 75, 76, 77, 78, 79, 80, 81, 82, 83, 84, 85, 86, 87, 88, 89, 90, 91, 92, 93, 94, 95, 96, 97, 98, 99, 100, 101, 102, 103, 104, 105, 106, 107, 108, 109, 110, 111, 112, 113, 114, 115, 116, 117, 118, 119, 120, 121, 122, 123, 124, 125, 126, 127, 128, 129, 130, 131, 132, 133, 134, 135, 136, 137, 138, 139, 140, 141, 142, 143, 144, 145, 146, 147, 148, 149, 165, 166, 167, 168, 169, 170, 171, 172, 173, 174, 175, 176, 177, 178, 179, 180, 181, 182, 183, 184, 185, 186, 187, 188] (by decide +kernel) (by decide +kernel)
set_option maxRecDepth 20000 in
theorem gX6_costOf_X2_find : GoodIn wsX6_costOf (wsV RX6 135 RX2 yX2_find wsX2_find) := goodIn_app (goodIn_of _ (by decide +kernel)) ggX6_costOf_X2_find
set_option maxRecDepth 20000 in
theorem ggX6_costOf_X4_inkFor : GoodIn wsX6_costOf wsX4_inkFor := goodIn_r _ [153, 64, 5, 65, 154, 155, 156, 42, 157, 158, 56, 57, 58, 59, 60, 61, 45, 46, 47, 48, 49, 50, 62, 63, 159, 67, 68, 69, 70, 160, 40, 41, 43, 44, 170, 171, 172, 173, 174, 175, 176, 177, 178, 179, 180, 181, 182, 183, 184, 185, 186, 187, 188] (by decide +kernel) (by decide +kernel)
set_option maxRecDepth 20000 in
theorem gX6_costOf_X4_inkFor : GoodIn wsX6_costOf (wsV RX6 142 RX4 yX4_inkFor wsX4_inkFor) := goodIn_app (goodIn_of _ (by decide +kernel)) ggX6_costOf_X4_inkFor
theorem dX6_costOf_0 : decode cX6_costOf 0 = .ok (.iload_n 1, 1) := by decide +kernel
theorem dX6_costOf_1 : decode cX6_costOf 1 = .ok (.iload_n 2, 1) := by decide +kernel
theorem dX6_costOf_2 : decode cX6_costOf 2 = .ok (.iload_n 3, 1) := by decide +kernel
theorem dX6_costOf_3 : decode cX6_costOf 3 = .ok (.invokestatic 86, 3) := by decide +kernel
theorem dX6_costOf_6 : decode cX6_costOf 6 = .ok (.invokestatic 41, 3) := by decide +kernel
theorem dX6_costOf_9 : decode cX6_costOf 9 = .ok (.iload_n 1, 1) := by decide +kernel
theorem dX6_costOf_10 : decode cX6_costOf 10 = .ok (.iload_n 2, 1) := by decide +kernel
theorem dX6_costOf_11 : decode cX6_costOf 11 = .ok (.iload_n 3, 1) := by decide +kernel
theorem dX6_costOf_12 : decode cX6_costOf 12 = .ok (.invokestatic 55, 3) := by decide +kernel
theorem dX6_costOf_15 : decode cX6_costOf 15 = .ok (.istore 4, 2) := by decide +kernel
theorem dX6_costOf_17 : decode cX6_costOf 17 = .ok (.aload_n 0, 1) := by decide +kernel
theorem dX6_costOf_18 : decode cX6_costOf 18 = .ok (.getfield 33, 3) := by decide +kernel
theorem dX6_costOf_21 : decode cX6_costOf 21 = .ok (.aload_n 0, 1) := by decide +kernel
theorem dX6_costOf_22 : decode cX6_costOf 22 = .ok (.getfield 12, 3) := by decide +kernel
theorem dX6_costOf_25 : decode cX6_costOf 25 = .ok (.iload 4, 2) := by decide +kernel
theorem dX6_costOf_27 : decode cX6_costOf 27 = .ok (.invokevirtual 135, 3) := by decide +kernel
theorem dX6_costOf_30 : decode cX6_costOf 30 = .ok (.aload_n 0, 1) := by decide +kernel
theorem dX6_costOf_31 : decode cX6_costOf 31 = .ok (.getfield 33, 3) := by decide +kernel
theorem dX6_costOf_34 : decode cX6_costOf 34 = .ok (.getfield 62, 3) := by decide +kernel
theorem dX6_costOf_37 : decode cX6_costOf 37 = .ok (.iconst (-1), 1) := by decide +kernel
theorem dX6_costOf_38 : decode cX6_costOf 38 = .ok (.if_icmp .ne 5, 3) := by decide +kernel
theorem dX6_costOf_41 : decode cX6_costOf 41 = .ok (.iconst (-1), 1) := by decide +kernel
theorem dX6_costOf_42 : decode cX6_costOf 42 = .ok (.ireturn, 1) := by decide +kernel
theorem dX6_costOf_43 : decode cX6_costOf 43 = .ok (.aload_n 0, 1) := by decide +kernel
theorem dX6_costOf_44 : decode cX6_costOf 44 = .ok (.getfield 33, 3) := by decide +kernel
theorem dX6_costOf_47 : decode cX6_costOf 47 = .ok (.getfield 62, 3) := by decide +kernel
theorem dX6_costOf_50 : decode cX6_costOf 50 = .ok (.ifCond .ne 7, 3) := by decide +kernel
theorem dX6_costOf_53 : decode cX6_costOf 53 = .ok (.iconst 0, 1) := by decide +kernel
theorem dX6_costOf_54 : decode cX6_costOf 54 = .ok (.goto 12, 3) := by decide +kernel
theorem dX6_costOf_57 : decode cX6_costOf 57 = .ok (.aload_n 0, 1) := by decide +kernel
theorem dX6_costOf_58 : decode cX6_costOf 58 = .ok (.getfield 12, 3) := by decide +kernel
theorem dX6_costOf_61 : decode cX6_costOf 61 = .ok (.iload 4, 2) := by decide +kernel
theorem dX6_costOf_63 : decode cX6_costOf 63 = .ok (.invokevirtual 142, 3) := by decide +kernel
theorem dX6_costOf_66 : decode cX6_costOf 66 = .ok (.ireturn, 1) := by decide +kernel
set_option maxRecDepth 20000 in
theorem ggX6_oldest_X4_oldestLetter : GoodIn wsX6_oldest wsX4_oldestLetter := goodIn_r _ [6, 7, 8, 9, 10, 11, 12, 13, 14, 15, 16, 17, 5, 18, 19, 37, 38, 39, 40, 41, 42, 43, 44, 45, 46, 47, 48, 49, 50, 51, 52, 53, 54, 55] (by decide +kernel) (by decide +kernel)
set_option maxRecDepth 20000 in
theorem gX6_oldest_X4_oldestLetter : GoodIn wsX6_oldest (wsV RX6 145 RX4 yX4_oldestLetter wsX4_oldestLetter) := goodIn_app (goodIn_of _ (by decide +kernel)) ggX6_oldest_X4_oldestLetter
set_option maxRecDepth 20000 in
theorem ggX6_oldest_X6_codeOf : GoodIn wsX6_oldest wsX6_codeOf := goodIn_r _ [23, 24, 25, 22, 26, 27, 28, 29, 30, 31, 32] (by decide +kernel) (by decide +kernel)
set_option maxRecDepth 20000 in
theorem gX6_oldest_X6_codeOf : GoodIn wsX6_oldest (va_wsS RX6 123 yX6_codeOf wsX6_codeOf) := goodIn_app (goodIn_of _ (by decide +kernel)) ggX6_oldest_X6_codeOf
theorem dX6_oldest_0 : decode cX6_oldest 0 = .ok (.aload_n 0, 1) := by decide +kernel
theorem dX6_oldest_1 : decode cX6_oldest 1 = .ok (.getfield 12, 3) := by decide +kernel
theorem dX6_oldest_4 : decode cX6_oldest 4 = .ok (.invokevirtual 145, 3) := by decide +kernel
theorem dX6_oldest_7 : decode cX6_oldest 7 = .ok (.invokestatic 123, 3) := by decide +kernel
theorem dX6_oldest_10 : decode cX6_oldest 10 = .ok (.ireturn, 1) := by decide +kernel
set_option maxRecDepth 20000 in
theorem ggX6_greatestGap_X4_greatestGapArea : GoodIn wsX6_greatestGap wsX4_greatestGapArea := goodIn_r _ [6, 7, 8, 9, 10, 11, 12, 13, 14, 15, 16, 17, 18, 19, 20, 5, 21, 22, 23, 24, 25, 26, 27, 28, 29, 30, 31, 32, 33, 34, 39, 40, 41, 42, 43, 44, 45, 46, 47, 48, 49, 50, 51, 52, 53, 54, 55, 56, 57] (by decide +kernel) (by decide +kernel)
set_option maxRecDepth 20000 in
theorem gX6_greatestGap_X4_greatestGapArea : GoodIn wsX6_greatestGap (wsV RX6 148 RX4 yX4_greatestGapArea wsX4_greatestGapArea) := goodIn_app (goodIn_of _ (by decide +kernel)) ggX6_greatestGap_X4_greatestGapArea
theorem dX6_greatestGap_0 : decode cX6_greatestGap 0 = .ok (.aload_n 0, 1) := by decide +kernel
theorem dX6_greatestGap_1 : decode cX6_greatestGap 1 = .ok (.getfield 12, 3) := by decide +kernel
theorem dX6_greatestGap_4 : decode cX6_greatestGap 4 = .ok (.invokevirtual 148, 3) := by decide +kernel
theorem dX6_greatestGap_7 : decode cX6_greatestGap 7 = .ok (.ireturn, 1) := by decide +kernel
set_option maxRecDepth 20000 in
theorem ggX6_type_X6_isBetween : GoodIn wsX6_type wsX6_isBetween := goodIn_r _ [5] (by decide +kernel) (by decide +kernel)
set_option maxRecDepth 20000 in
theorem gX6_type_X6_isBetween : GoodIn wsX6_type (va_wsS RX6 116 yX6_isBetween wsX6_isBetween) := goodIn_app (goodIn_of _ (by decide +kernel)) ggX6_type_X6_isBetween
set_option maxRecDepth 20000 in
theorem ggX6_type_X6_throwFor : GoodIn wsX6_type wsX6_throwFor := goodIn_ca (goodIn_ca (goodIn_ca (goodIn_r _ [8, 9, 10, 11, 12, 13, 14] (by decide +kernel) (by decide +kernel)) (goodIn_sub (fun _ h => List.mem_cons_of_mem _ (List.mem_append_left _ (List.mem_append_left _ (List.mem_append_right _ h)))) (by decide +kernel))) (goodIn_sub (fun _ h => List.mem_cons_of_mem _ (List.mem_append_left _ (List.mem_append_right _ h))) (by decide +kernel))) (goodIn_sub (fun _ h => List.mem_cons_of_mem _ (List.mem_append_right _ h)) (by decide +kernel))
set_option maxRecDepth 20000 in
theorem gX6_type_X6_throwFor : GoodIn wsX6_type (va_wsS RX6 41 yX6_throwFor wsX6_throwFor) := goodIn_app (goodIn_of _ (by decide +kernel)) ggX6_type_X6_throwFor
set_option maxRecDepth 20000 in
theorem ggX6_type_X0_append : GoodIn wsX6_type wsX0_append := goodIn_r _ [19, 20, 21, 22, 23, 24, 25, 26, 27, 32, 33, 34, 35, 36, 37, 38] (by decide +kernel) (by decide +kernel)
set_option maxRecDepth 20000 in
theorem gX6_type_X0_append : GoodIn wsX6_type (wsV RX6 151 RX0 yX0_append wsX0_append) := goodIn_app (goodIn_of _ (by decide +kernel)) ggX6_type_X0_append
theorem dX6_type_0 : decode cX6_type 0 = .ok (.iload_n 1, 1) := by decide +kernel
theorem dX6_type_1 : decode cX6_type 1 = .ok (.iconst 0, 1) := by decide +kernel
theorem dX6_type_2 : decode cX6_type 2 = .ok (.bipush 127, 2) := by decide +kernel
theorem dX6_type_4 : decode cX6_type 4 = .ok (.invokestatic 116, 3) := by decide +kernel
theorem dX6_type_7 : decode cX6_type 7 = .ok (.ifCond .eq 7, 3) := by decide +kernel
theorem dX6_type_10 : decode cX6_type 10 = .ok (.iconst 0, 1) := by decide +kernel
theorem dX6_type_11 : decode cX6_type 11 = .ok (.goto 4, 3) := by decide +kernel
theorem dX6_type_14 : decode cX6_type 14 = .ok (.iconst 2, 1) := by decide +kernel
theorem dX6_type_15 : decode cX6_type 15 = .ok (.invokestatic 41, 3) := by decide +kernel
theorem dX6_type_18 : decode cX6_type 18 = .ok (.aload_n 0, 1) := by decide +kernel
theorem dX6_type_19 : decode cX6_type 19 = .ok (.getfield 26, 3) := by decide +kernel
theorem dX6_type_22 : decode cX6_type 22 = .ok (.getfield 129, 3) := by decide +kernel
theorem dX6_type_25 : decode cX6_type 25 = .ok (.sipush 150, 3) := by decide +kernel
theorem dX6_type_28 : decode cX6_type 28 = .ok (.if_icmp .ge 7, 3) := by decide +kernel
theorem dX6_type_31 : decode cX6_type 31 = .ok (.iconst 0, 1) := by decide +kernel
theorem dX6_type_32 : decode cX6_type 32 = .ok (.goto 4, 3) := by decide +kernel
theorem dX6_type_35 : decode cX6_type 35 = .ok (.iconst 3, 1) := by decide +kernel
theorem dX6_type_36 : decode cX6_type 36 = .ok (.invokestatic 41, 3) := by decide +kernel
theorem dX6_type_39 : decode cX6_type 39 = .ok (.aload_n 0, 1) := by decide +kernel
theorem dX6_type_40 : decode cX6_type 40 = .ok (.getfield 26, 3) := by decide +kernel
theorem dX6_type_43 : decode cX6_type 43 = .ok (.iload_n 1, 1) := by decide +kernel
theorem dX6_type_44 : decode cX6_type 44 = .ok (.invokevirtual 151, 3) := by decide +kernel
theorem dX6_type_47 : decode cX6_type 47 = .ok (.ireturn, 1) := by decide +kernel
set_option maxRecDepth 20000 in
theorem ggX6_clearCommands_X0_empty : GoodIn wsX6_clearCommands wsX0_empty := goodIn_r _ [6, 7, 12, 13, 14, 15, 16, 17] (by decide +kernel) (by decide +kernel)
set_option maxRecDepth 20000 in
theorem gX6_clearCommands_X0_empty : GoodIn wsX6_clearCommands (wsV RX6 154 RX0 yX0_empty wsX0_empty) := goodIn_app (goodIn_of _ (by decide +kernel)) ggX6_clearCommands_X0_empty
theorem dX6_clearCommands_0 : decode cX6_clearCommands 0 = .ok (.aload_n 0, 1) := by decide +kernel
theorem dX6_clearCommands_1 : decode cX6_clearCommands 1 = .ok (.getfield 26, 3) := by decide +kernel
theorem dX6_clearCommands_4 : decode cX6_clearCommands 4 = .ok (.invokevirtual 154, 3) := by decide +kernel
theorem dX6_clearCommands_7 : decode cX6_clearCommands 7 = .ok (.ireturn, 1) := by decide +kernel
set_option maxRecDepth 20000 in
theorem ggX6_runCommands_X0_readText : GoodIn wsX6_runCommands wsX0_readText := goodIn_r _ [8, 9, 10, 11, 12, 13, 14, 7, 15, 16, 17, 18, 19, 20, 21, 22, 23, 24, 25, 26, 27, 28, 29, 30, 31, 32, 33, 34, 35, 36, 37, 38, 39, 40, 41, 42, 43, 44, 45, 46, 47, 48, 49, 50, 51, 52, 53, 54, 55, 56, 57, 58, 59, 60, 61, 62, 63, 64, 65, 66, 67, 68, 69, 70, 71, 72, 73, 74, 75, 76, 77, 78, 79, 80, 81, 82, 83, 84, 85, 86, 87, 88, 89, 90, 91, 92, 93, 94, 95, 96, 97, 98, 99, 100, 101, 102, 103, 104, 105, 106, 107, 108, 109, 110, 111, 112, 113, 371, 372, 373, 374, 375, 376, 377] (by decide +kernel) (by decide +kernel)
set_option maxRecDepth 20000 in
theorem gX6_runCommands_X0_readText : GoodIn wsX6_runCommands (wsV RX6 157 RX0 yX0_readText wsX0_readText) := goodIn_app (goodIn_of _ (by decide +kernel)) ggX6_runCommands_X0_readText
set_option maxRecDepth 20000 in
theorem ggX6_runCommands_X5_push : GoodIn wsX6_runCommands wsX5_push := goodIn_r _ [118, 119, 120, 121, 122, 123, 117, 124, 125, 126, 127, 128, 129, 130, 131, 132, 133, 134, 135, 136, 137, 138, 139, 140, 141, 142, 143, 144, 145, 146, 147, 148, 149, 150, 151, 24, 152, 26, 153, 154, 155, 156, 157, 158, 159, 160, 378, 379, 380, 381, 382, 383, 384, 385, 386, 387, 388, 389, 390, 391, 392, 393, 394, 395, 396, 397, 398, 377] (by decide +kernel) (by decide +kernel)
set_option maxRecDepth 20000 in
theorem gX6_runCommands_X5_push : GoodIn wsX6_runCommands (wsV RX6 45 RX5 yX5_push wsX5_push) := goodIn_app (goodIn_of _ (by decide +kernel)) ggX6_runCommands_X5_push
set_option maxRecDepth 20000 in
theorem ggX6_runCommands_X6_carryOut : GoodIn wsX6_runCommands wsX6_carryOut := goodIn_r _ [165, 1, 3, 166, 167, 168, 169, 7, 170, 110, 21, 22, 23, 24, 25, 26, 171, 172, 173, 174, 31, 175, 176, 164, 177, 178, 179, 180, 181, 182, 183, 184, 185, 186, 129, 187, 131, 132, 188, 189, 100, 101, 102, 190, 191, 192, 193, 134, 194, 195, 196, 197, 141, 140, 147, 198, 199, 200, 201, 202, 203, 204, 205, 206, 207, 208, 209, 210, 211, 212, 213, 214, 215, 216, 217, 218, 219, 220, 221, 222, 223, 224, 225, 226, 227, 228, 229, 230, 231, 232, 233, 234, 235, 236, 237, 238, 239, 240, 241, 242, 243, 244, 133, 245, 246, 247, 248, 136, 135, 249, 250, 251, 252, 253, 254, 255, 256, 257, 258, 259, 260, 261, 262, 263, 264, 265, 266, 267, 268, 269, 270, 271, 272, 273, 274, 275, 276, 277, 278, 279, 138, 143, 280, 281, 282, 283, 137, 284, 285, 155, 286, 287, 288, 289, 290, 291, 292, 293, 294, 295, 296, 297, 298, 299, 300, 301, 302, 303, 304, 305, 306, 307, 308, 309, 310, 311, 312, 313, 314, 145, 144, 139, 315, 316, 317, 318, 148, 146, 319, 320, 321, 322, 323, 324, 325, 326, 327, 328, 329, 330, 331, 332, 333, 334, 335, 336, 337, 338, 339, 340, 341, 342, 343, 344, 345, 346, 347, 348, 349, 350, 351, 352, 353, 354, 355, 356, 357, 142, 358, 359, 360, 361, 362, 363, 364, 365, 366, 367, 368, 369, 370, 371, 372, 373, 374, 375, 376, 377, 381, 382, 383, 384, 385, 386, 387, 388, 389, 390, 391, 392, 393, 394, 395, 396, 397, 398, 399, 400, 401, 402, 403] (by decide +kernel) (by decide +kernel)
set_option maxRecDepth 20000 in
theorem gX6_runCommands_X6_carryOut : GoodIn wsX6_runCommands (wsV RX6 167 RX6 yX6_carryOut wsX6_carryOut) := goodIn_app (goodIn_of _ (by decide +kernel)) ggX6_runCommands_X6_carryOut
theorem dX6_runCommands_0 : decode cX6_runCommands 0 = .ok (.aload_n 0, 1) := by decide +kernel
theorem dX6_runCommands_1 : decode cX6_runCommands 1 = .ok (.getfield 26, 3) := by decide +kernel
theorem dX6_runCommands_4 : decode cX6_runCommands 4 = .ok (.invokevirtual 157, 3) := by decide +kernel
theorem dX6_runCommands_7 : decode cX6_runCommands 7 = .ok (.ifCond .ne 14, 3) := by decide +kernel
theorem dX6_runCommands_10 : decode cX6_runCommands 10 = .ok (.bipush (-10), 2) := by decide +kernel
theorem dX6_runCommands_12 : decode cX6_runCommands 12 = .ok (.aload_n 0, 1) := by decide +kernel
theorem dX6_runCommands_13 : decode cX6_runCommands 13 = .ok (.getfield 26, 3) := by decide +kernel
theorem dX6_runCommands_16 : decode cX6_runCommands 16 = .ok (.getfield 161, 3) := by decide +kernel
theorem dX6_runCommands_19 : decode cX6_runCommands 19 = .ok (.isub, 1) := by decide +kernel
theorem dX6_runCommands_20 : decode cX6_runCommands 20 = .ok (.ireturn, 1) := by decide +kernel
theorem dX6_runCommands_21 : decode cX6_runCommands 21 = .ok (.aload_n 0, 1) := by decide +kernel
theorem dX6_runCommands_22 : decode cX6_runCommands 22 = .ok (.getfield 19, 3) := by decide +kernel
theorem dX6_runCommands_25 : decode cX6_runCommands 25 = .ok (.aload_n 0, 1) := by decide +kernel
theorem dX6_runCommands_26 : decode cX6_runCommands 26 = .ok (.getfield 12, 3) := by decide +kernel
theorem dX6_runCommands_29 : decode cX6_runCommands 29 = .ok (.invokevirtual 45, 3) := by decide +kernel
theorem dX6_runCommands_32 : decode cX6_runCommands 32 = .ok (.iconst 0, 1) := by decide +kernel
theorem dX6_runCommands_33 : decode cX6_runCommands 33 = .ok (.istore_n 1, 1) := by decide +kernel
theorem dX6_runCommands_34 : decode cX6_runCommands 34 = .ok (.iload_n 1, 1) := by decide +kernel
theorem dX6_runCommands_35 : decode cX6_runCommands 35 = .ok (.aload_n 0, 1) := by decide +kernel
theorem dX6_runCommands_36 : decode cX6_runCommands 36 = .ok (.getfield 26, 3) := by decide +kernel
theorem dX6_runCommands_39 : decode cX6_runCommands 39 = .ok (.getfield 164, 3) := by decide +kernel
theorem dX6_runCommands_42 : decode cX6_runCommands 42 = .ok (.if_icmp .ge 17, 3) := by decide +kernel
theorem dX6_runCommands_45 : decode cX6_runCommands 45 = .ok (.aload_n 0, 1) := by decide +kernel
theorem dX6_runCommands_46 : decode cX6_runCommands 46 = .ok (.iload_n 1, 1) := by decide +kernel
theorem dX6_runCommands_47 : decode cX6_runCommands 47 = .ok (.invokevirtual 167, 3) := by decide +kernel
theorem dX6_runCommands_50 : decode cX6_runCommands 50 = .ok (.ifCond .eq 9, 3) := by decide +kernel
theorem dX6_runCommands_53 : decode cX6_runCommands 53 = .ok (.iinc 1 1, 3) := by decide +kernel
theorem dX6_runCommands_56 : decode cX6_runCommands 56 = .ok (.goto (-22), 3) := by decide +kernel
theorem dX6_runCommands_59 : decode cX6_runCommands 59 = .ok (.iload_n 1, 1) := by decide +kernel
theorem dX6_runCommands_60 : decode cX6_runCommands 60 = .ok (.ireturn, 1) := by decide +kernel
set_option maxRecDepth 20000 in
theorem ggX6_undo_X6_throwFor : GoodIn wsX6_undo wsX6_throwFor := goodIn_ca (goodIn_ca (goodIn_ca (goodIn_r _ [6, 7, 8, 9, 10, 11, 12] (by decide +kernel) (by decide +kernel)) (goodIn_sub (fun _ h => List.mem_cons_of_mem _ (List.mem_append_left _ (List.mem_append_left _ (List.mem_append_right _ h)))) (by decide +kernel))) (goodIn_sub (fun _ h => List.mem_cons_of_mem _ (List.mem_append_left _ (List.mem_append_right _ h))) (by decide +kernel))) (goodIn_sub (fun _ h => List.mem_cons_of_mem _ (List.mem_append_right _ h)) (by decide +kernel))
set_option maxRecDepth 20000 in
theorem gX6_undo_X6_throwFor : GoodIn wsX6_undo (va_wsS RX6 41 yX6_throwFor wsX6_throwFor) := goodIn_app (goodIn_of _ (by decide +kernel)) ggX6_undo_X6_throwFor
set_option maxRecDepth 20000 in
theorem ggX6_undo_X5_popInto : GoodIn wsX6_undo wsX5_popInto := goodIn_r _ [17, 18, 19, 20, 21, 22, 16, 23, 24, 25, 26, 27, 28, 29, 30, 31, 32, 33, 34, 35, 36, 37, 38, 39, 40, 41, 42, 43, 44, 45, 46, 47, 48, 49, 50, 51, 52, 53, 54, 55, 56, 57, 58, 59, 60, 61, 66, 67, 68, 69, 70, 71, 72, 73, 74, 75, 76, 77, 78, 79, 80, 81, 82, 83, 84, 85, 86, 87] (by decide +kernel) (by decide +kernel)
set_option maxRecDepth 20000 in
theorem gX6_undo_X5_popInto : GoodIn wsX6_undo (wsV RX6 171 RX5 yX5_popInto wsX5_popInto) := goodIn_app (goodIn_of _ (by decide +kernel)) ggX6_undo_X5_popInto
theorem dX6_undo_0 : decode cX6_undo 0 = .ok (.aload_n 0, 1) := by decide +kernel
theorem dX6_undo_1 : decode cX6_undo 1 = .ok (.getfield 19, 3) := by decide +kernel
theorem dX6_undo_4 : decode cX6_undo 4 = .ok (.getfield 170, 3) := by decide +kernel
theorem dX6_undo_7 : decode cX6_undo 7 = .ok (.ifCond .le 7, 3) := by decide +kernel
theorem dX6_undo_10 : decode cX6_undo 10 = .ok (.iconst 0, 1) := by decide +kernel
theorem dX6_undo_11 : decode cX6_undo 11 = .ok (.goto 4, 3) := by decide +kernel
theorem dX6_undo_14 : decode cX6_undo 14 = .ok (.iconst 3, 1) := by decide +kernel
theorem dX6_undo_15 : decode cX6_undo 15 = .ok (.invokestatic 41, 3) := by decide +kernel
theorem dX6_undo_18 : decode cX6_undo 18 = .ok (.aload_n 0, 1) := by decide +kernel
theorem dX6_undo_19 : decode cX6_undo 19 = .ok (.getfield 19, 3) := by decide +kernel
theorem dX6_undo_22 : decode cX6_undo 22 = .ok (.aload_n 0, 1) := by decide +kernel
theorem dX6_undo_23 : decode cX6_undo 23 = .ok (.getfield 12, 3) := by decide +kernel
theorem dX6_undo_26 : decode cX6_undo 26 = .ok (.invokevirtual 171, 3) := by decide +kernel
theorem dX6_undo_29 : decode cX6_undo 29 = .ok (.aload_n 0, 1) := by decide +kernel
theorem dX6_undo_30 : decode cX6_undo 30 = .ok (.getfield 19, 3) := by decide +kernel
theorem dX6_undo_33 : decode cX6_undo 33 = .ok (.getfield 170, 3) := by decide +kernel
theorem dX6_undo_36 : decode cX6_undo 36 = .ok (.ireturn, 1) := by decide +kernel
set_option maxRecDepth 20000 in
theorem ggX6_digest_X6_mix : GoodIn wsX6_digest wsX6_mix := goodIn_r _ [7, 8] (by decide +kernel) (by decide +kernel)
set_option maxRecDepth 20000 in
theorem gX6_digest_X6_mix : GoodIn wsX6_digest (va_wsS RX6 176 yX6_mix wsX6_mix) := goodIn_app (goodIn_of _ (by decide +kernel)) ggX6_digest_X6_mix
set_option maxRecDepth 20000 in
theorem ggX6_digest_X6_whole : GoodIn wsX6_digest wsX6_whole := goodIn_ca (goodIn_ca (goodIn_ca (goodIn_r _ [12, 13, 3, 14, 15, 6, 16, 17, 18, 19, 20, 21, 22, 23, 24, 25, 26, 27, 28, 29, 30, 31, 32, 33, 34, 35, 36, 37, 38, 39, 40, 41, 42, 43, 44, 45, 46, 47, 48, 49, 50, 51, 52, 53, 54, 55, 56, 57, 58, 59, 60, 61, 62, 63, 64, 65, 66, 67, 68, 69, 70, 71, 72, 73, 74, 75, 76, 77, 78, 79, 80, 81, 82, 83, 84, 85, 86, 87, 88, 89, 90, 91, 92, 93, 94, 95, 96, 97, 98, 99, 100, 101, 102, 103, 235, 236, 237, 238, 260, 261, 262, 263, 264, 265, 242, 243, 244, 245, 246, 247, 248, 249, 250, 251, 252, 253, 254, 255, 256, 257, 258, 259, 266] (by decide +kernel) (by decide +kernel)) (goodIn_sub (fun _ h => List.mem_cons_of_mem _ (List.mem_append_left _ (List.mem_append_left _ (List.mem_append_right _ h)))) (by decide +kernel))) (goodIn_sub (fun _ h => List.mem_cons_of_mem _ (List.mem_append_left _ (List.mem_append_right _ h))) (by decide +kernel))) (goodIn_sub (fun _ h => List.mem_cons_of_mem _ (List.mem_append_right _ h)) (by decide +kernel))
set_option maxRecDepth 20000 in
theorem gX6_digest_X6_whole : GoodIn wsX6_digest (wsV RX6 180 RX6 yX6_whole wsX6_whole) := goodIn_app (goodIn_of _ (by decide +kernel)) ggX6_digest_X6_whole
set_option maxRecDepth 20000 in
theorem ggX6_digest_X4_signValue : GoodIn wsX6_digest wsX4_signValue := goodIn_r _ [107, 92, 103, 51, 52, 53, 54, 55, 56, 108, 109, 110, 32, 111, 35, 61, 93, 6, 94, 80, 81, 82, 83, 66, 112, 113, 114, 115, 62, 63, 64, 65, 242, 243, 244, 245, 246, 247, 248, 249, 250, 251, 252, 253, 254, 255, 256, 257, 258, 259, 266] (by decide +kernel) (by decide +kernel)
set_option maxRecDepth 20000 in
theorem gX6_digest_X4_signValue : GoodIn wsX6_digest (wsV RX6 100 RX4 yX4_signValue wsX4_signValue) := goodIn_app (goodIn_of _ (by decide +kernel)) ggX6_digest_X4_signValue
set_option maxRecDepth 20000 in
theorem ggX6_digest_X6_mixLetters : GoodIn wsX6_digest wsX6_mixLetters := goodIn_r _ [119, 3, 120, 121, 122, 32, 123, 124, 75, 125, 88, 89, 90, 91, 92, 93, 6, 94, 51, 52, 53, 54, 55, 56, 95, 96, 97, 98, 99, 100, 101, 102, 103, 126, 127, 128, 129, 66, 80, 81, 82, 83, 130, 131, 132, 133, 134, 135, 136, 137, 138, 50, 4, 5, 7, 8, 235, 236, 237, 238, 242, 243, 244, 245, 246, 247, 248, 249, 250, 251, 252, 253, 254, 255, 256, 257, 258, 259, 266] (by decide +kernel) (by decide +kernel)
set_option maxRecDepth 20000 in
theorem gX6_digest_X6_mixLetters : GoodIn wsX6_digest (wsV RX6 183 RX6 yX6_mixLetters wsX6_mixLetters) := goodIn_app (goodIn_of _ (by decide +kernel)) ggX6_digest_X6_mixLetters
set_option maxRecDepth 20000 in
theorem ggX6_digest_X6_mixTray : GoodIn wsX6_digest wsX6_mixTray := goodIn_r _ [142, 3, 143, 144, 145, 32, 146, 46, 47, 48, 49, 50, 51, 52, 53, 54, 55, 56, 147, 148, 149, 150, 151, 152, 153, 154, 35, 61, 155, 156, 157, 158, 66, 80, 81, 82, 83, 159, 160, 161, 162, 84, 85, 86, 87, 88, 89, 90, 91, 92, 93, 6, 94, 95, 96, 97, 98, 99, 100, 101, 102, 103, 4, 5, 7, 8, 163, 164, 165, 166, 167, 135, 136, 137, 138, 168, 169, 170, 171, 172, 173, 174, 175, 176, 134, 177, 178, 179, 180, 181, 182, 183, 184, 185, 186, 187, 188, 189, 190, 191, 192, 193, 194, 124, 195, 196, 197, 198, 199, 71, 72, 73, 74, 75, 36, 235, 236, 237, 238, 242, 243, 244, 245, 246, 247, 248, 249, 250, 251, 252, 253, 254, 255, 256, 257, 258, 259, 266] (by decide +kernel) (by decide +kernel)
set_option maxRecDepth 20000 in
theorem gX6_digest_X6_mixTray : GoodIn wsX6_digest (wsV RX6 190 RX6 yX6_mixTray wsX6_mixTray) := goodIn_app (goodIn_of _ (by decide +kernel)) ggX6_digest_X6_mixTray
set_option maxRecDepth 20000 in
theorem ggX6_digest_X4_countInStreet : GoodIn wsX6_digest wsX4_countInStreet := goodIn_r _ [60, 35, 61, 51, 52, 53, 54, 55, 56, 62, 63, 64, 32, 65, 66, 242, 243, 244, 245, 246, 247, 248, 249, 250, 251, 252, 253, 254, 255, 256, 257, 258, 259, 266] (by decide +kernel) (by decide +kernel)
set_option maxRecDepth 20000 in
theorem gX6_digest_X4_countInStreet : GoodIn wsX6_digest (wsV RX6 194 RX4 yX4_countInStreet wsX4_countInStreet) := goodIn_app (goodIn_of _ (by decide +kernel)) ggX6_digest_X4_countInStreet
set_option maxRecDepth 20000 in
theorem ggX6_digest_X6_street : GoodIn wsX6_digest wsX6_street := goodIn_ca (goodIn_ca (goodIn_ca (goodIn_r _ [204, 3, 20, 21, 6, 22, 23, 24, 25, 26, 27, 28, 205, 206, 207, 32, 208, 35, 61, 51, 52, 53, 54, 55, 56, 62, 63, 64, 65, 66, 209, 210, 211, 212, 93, 94, 213, 95, 96, 214, 97, 98, 235, 236, 237, 238, 242, 243, 244, 245, 246, 247, 248, 249, 250, 251, 252, 253, 254, 255, 256, 257, 258, 259, 266] (by decide +kernel) (by decide +kernel)) (goodIn_sub (fun _ h => List.mem_cons_of_mem _ (List.mem_append_left _ (List.mem_append_left _ (List.mem_append_right _ h)))) (by decide +kernel))) (goodIn_sub (fun _ h => List.mem_cons_of_mem _ (List.mem_append_left _ (List.mem_append_right _ h))) (by decide +kernel))) (goodIn_sub (fun _ h => List.mem_cons_of_mem _ (List.mem_append_right _ h)) (by decide +kernel))
set_option maxRecDepth 20000 in
theorem gX6_digest_X6_street : GoodIn wsX6_digest (wsV RX6 197 RX6 yX6_street wsX6_street) := goodIn_app (goodIn_of _ (by decide +kernel)) ggX6_digest_X6_street
set_option maxRecDepth 20000 in
theorem ggX6_digest_X6_oldest : GoodIn wsX6_digest wsX6_oldest := goodIn_r _ [218, 3, 219, 220, 221, 32, 222, 35, 61, 51, 52, 53, 54, 55, 56, 223, 224, 225, 226, 124, 209, 210, 6, 211, 212, 93, 94, 213, 95, 96, 214, 97, 98, 235, 236, 237, 238, 242, 243, 244, 245, 246, 247, 248, 249, 250, 251, 252, 253, 254, 255, 256, 257, 258, 259, 266] (by decide +kernel) (by decide +kernel)
set_option maxRecDepth 20000 in
theorem gX6_digest_X6_oldest : GoodIn wsX6_digest (wsV RX6 200 RX6 yX6_oldest wsX6_oldest) := goodIn_app (goodIn_of _ (by decide +kernel)) ggX6_digest_X6_oldest
set_option maxRecDepth 20000 in
theorem ggX6_digest_X6_greatestGap : GoodIn wsX6_digest wsX6_greatestGap := goodIn_r _ [230, 3, 231, 232, 233, 32, 234, 50, 195, 188, 189, 190, 51, 52, 53, 54, 55, 56, 172, 173, 174, 175, 35, 61, 66, 176, 134, 184, 185, 179, 186, 187, 181, 182, 183, 235, 236, 237, 238, 242, 243, 244, 245, 246, 247, 248, 249, 250, 251, 252, 253, 254, 255, 256, 257, 258, 259, 266] (by decide +kernel) (by decide +kernel)
set_option maxRecDepth 20000 in
theorem gX6_digest_X6_greatestGap : GoodIn wsX6_digest (wsV RX6 203 RX6 yX6_greatestGap wsX6_greatestGap) := goodIn_app (goodIn_of _ (by decide +kernel)) ggX6_digest_X6_greatestGap
theorem dX6_digest_0 : decode cX6_digest 0 = .ok (.ldc2_w 174, 3) := by decide +kernel
theorem dX6_digest_3 : decode cX6_digest 3 = .ok (.aload_n 0, 1) := by decide +kernel
theorem dX6_digest_4 : decode cX6_digest 4 = .ok (.getfield 19, 3) := by decide +kernel
theorem dX6_digest_7 : decode cX6_digest 7 = .ok (.getfield 170, 3) := by decide +kernel
theorem dX6_digest_10 : decode cX6_digest 10 = .ok (.i2l, 1) := by decide +kernel
theorem dX6_digest_11 : decode cX6_digest 11 = .ok (.invokestatic 176, 3) := by decide +kernel
theorem dX6_digest_14 : decode cX6_digest 14 = .ok (.lstore_n 1, 1) := by decide +kernel
theorem dX6_digest_15 : decode cX6_digest 15 = .ok (.iconst 0, 1) := by decide +kernel
theorem dX6_digest_16 : decode cX6_digest 16 = .ok (.istore_n 3, 1) := by decide +kernel
theorem dX6_digest_17 : decode cX6_digest 17 = .ok (.iload_n 3, 1) := by decide +kernel
theorem dX6_digest_18 : decode cX6_digest 18 = .ok (.bipush 13, 2) := by decide +kernel
theorem dX6_digest_20 : decode cX6_digest 20 = .ok (.if_icmp .ge 20, 3) := by decide +kernel
theorem dX6_digest_23 : decode cX6_digest 23 = .ok (.lload_n 1, 1) := by decide +kernel
theorem dX6_digest_24 : decode cX6_digest 24 = .ok (.aload_n 0, 1) := by decide +kernel
theorem dX6_digest_25 : decode cX6_digest 25 = .ok (.iload_n 3, 1) := by decide +kernel
theorem dX6_digest_26 : decode cX6_digest 26 = .ok (.invokevirtual 180, 3) := by decide +kernel
theorem dX6_digest_29 : decode cX6_digest 29 = .ok (.i2l, 1) := by decide +kernel
theorem dX6_digest_30 : decode cX6_digest 30 = .ok (.invokestatic 176, 3) := by decide +kernel
theorem dX6_digest_33 : decode cX6_digest 33 = .ok (.lstore_n 1, 1) := by decide +kernel
theorem dX6_digest_34 : decode cX6_digest 34 = .ok (.iinc 3 1, 3) := by decide +kernel
theorem dX6_digest_37 : decode cX6_digest 37 = .ok (.goto (-20), 3) := by decide +kernel
theorem dX6_digest_40 : decode cX6_digest 40 = .ok (.iconst 0, 1) := by decide +kernel
theorem dX6_digest_41 : decode cX6_digest 41 = .ok (.istore_n 3, 1) := by decide +kernel
theorem dX6_digest_42 : decode cX6_digest 42 = .ok (.iload_n 3, 1) := by decide +kernel
theorem dX6_digest_43 : decode cX6_digest 43 = .ok (.bipush 16, 2) := by decide +kernel
theorem dX6_digest_45 : decode cX6_digest 45 = .ok (.if_icmp .ge 40, 3) := by decide +kernel
theorem dX6_digest_48 : decode cX6_digest 48 = .ok (.iconst 0, 1) := by decide +kernel
theorem dX6_digest_49 : decode cX6_digest 49 = .ok (.istore 4, 2) := by decide +kernel
theorem dX6_digest_51 : decode cX6_digest 51 = .ok (.iload 4, 2) := by decide +kernel
theorem dX6_digest_53 : decode cX6_digest 53 = .ok (.iconst 4, 1) := by decide +kernel
theorem dX6_digest_54 : decode cX6_digest 54 = .ok (.if_icmp .ge 25, 3) := by decide +kernel
theorem dX6_digest_57 : decode cX6_digest 57 = .ok (.lload_n 1, 1) := by decide +kernel
theorem dX6_digest_58 : decode cX6_digest 58 = .ok (.aload_n 0, 1) := by decide +kernel
theorem dX6_digest_59 : decode cX6_digest 59 = .ok (.getfield 12, 3) := by decide +kernel
theorem dX6_digest_62 : decode cX6_digest 62 = .ok (.iload_n 3, 1) := by decide +kernel
theorem dX6_digest_63 : decode cX6_digest 63 = .ok (.iload 4, 2) := by decide +kernel
theorem dX6_digest_65 : decode cX6_digest 65 = .ok (.invokevirtual 100, 3) := by decide +kernel
theorem dX6_digest_68 : decode cX6_digest 68 = .ok (.i2l, 1) := by decide +kernel
theorem dX6_digest_69 : decode cX6_digest 69 = .ok (.invokestatic 176, 3) := by decide +kernel
theorem dX6_digest_72 : decode cX6_digest 72 = .ok (.lstore_n 1, 1) := by decide +kernel
theorem dX6_digest_73 : decode cX6_digest 73 = .ok (.iinc 4 1, 3) := by decide +kernel
theorem dX6_digest_76 : decode cX6_digest 76 = .ok (.goto (-25), 3) := by decide +kernel
theorem dX6_digest_79 : decode cX6_digest 79 = .ok (.iinc 3 1, 3) := by decide +kernel
theorem dX6_digest_82 : decode cX6_digest 82 = .ok (.goto (-40), 3) := by decide +kernel
theorem dX6_digest_85 : decode cX6_digest 85 = .ok (.aload_n 0, 1) := by decide +kernel
theorem dX6_digest_86 : decode cX6_digest 86 = .ok (.lload_n 1, 1) := by decide +kernel
theorem dX6_digest_87 : decode cX6_digest 87 = .ok (.invokevirtual 183, 3) := by decide +kernel
theorem dX6_digest_90 : decode cX6_digest 90 = .ok (.lstore_n 1, 1) := by decide +kernel
theorem dX6_digest_91 : decode cX6_digest 91 = .ok (.iconst 0, 1) := by decide +kernel
theorem dX6_digest_92 : decode cX6_digest 92 = .ok (.istore_n 3, 1) := by decide +kernel
theorem dX6_digest_93 : decode cX6_digest 93 = .ok (.iload_n 3, 1) := by decide +kernel
theorem dX6_digest_94 : decode cX6_digest 94 = .ok (.aload_n 0, 1) := by decide +kernel
theorem dX6_digest_95 : decode cX6_digest 95 = .ok (.getfield 12, 3) := by decide +kernel
theorem dX6_digest_98 : decode cX6_digest 98 = .ok (.getfield 187, 3) := by decide +kernel
theorem dX6_digest_101 : decode cX6_digest 101 = .ok (.if_icmp .ge 16, 3) := by decide +kernel
theorem dX6_digest_104 : decode cX6_digest 104 = .ok (.aload_n 0, 1) := by decide +kernel
theorem dX6_digest_105 : decode cX6_digest 105 = .ok (.lload_n 1, 1) := by decide +kernel
theorem dX6_digest_106 : decode cX6_digest 106 = .ok (.iload_n 3, 1) := by decide +kernel
theorem dX6_digest_107 : decode cX6_digest 107 = .ok (.invokevirtual 190, 3) := by decide +kernel
theorem dX6_digest_110 : decode cX6_digest 110 = .ok (.lstore_n 1, 1) := by decide +kernel
theorem dX6_digest_111 : decode cX6_digest 111 = .ok (.iinc 3 1, 3) := by decide +kernel
theorem dX6_digest_114 : decode cX6_digest 114 = .ok (.goto (-21), 3) := by decide +kernel
theorem dX6_digest_117 : decode cX6_digest 117 = .ok (.aload_n 0, 1) := by decide +kernel
theorem dX6_digest_118 : decode cX6_digest 118 = .ok (.getfield 12, 3) := by decide +kernel
theorem dX6_digest_121 : decode cX6_digest 121 = .ok (.invokevirtual 194, 3) := by decide +kernel
theorem dX6_digest_124 : decode cX6_digest 124 = .ok (.istore_n 3, 1) := by decide +kernel
theorem dX6_digest_125 : decode cX6_digest 125 = .ok (.iconst 0, 1) := by decide +kernel
theorem dX6_digest_126 : decode cX6_digest 126 = .ok (.istore 4, 2) := by decide +kernel
theorem dX6_digest_128 : decode cX6_digest 128 = .ok (.iload 4, 2) := by decide +kernel
theorem dX6_digest_130 : decode cX6_digest 130 = .ok (.iload_n 3, 1) := by decide +kernel
theorem dX6_digest_131 : decode cX6_digest 131 = .ok (.if_icmp .ge 21, 3) := by decide +kernel
theorem dX6_digest_134 : decode cX6_digest 134 = .ok (.lload_n 1, 1) := by decide +kernel
theorem dX6_digest_135 : decode cX6_digest 135 = .ok (.aload_n 0, 1) := by decide +kernel
theorem dX6_digest_136 : decode cX6_digest 136 = .ok (.iload 4, 2) := by decide +kernel
theorem dX6_digest_138 : decode cX6_digest 138 = .ok (.invokevirtual 197, 3) := by decide +kernel
theorem dX6_digest_141 : decode cX6_digest 141 = .ok (.i2l, 1) := by decide +kernel
theorem dX6_digest_142 : decode cX6_digest 142 = .ok (.invokestatic 176, 3) := by decide +kernel
theorem dX6_digest_145 : decode cX6_digest 145 = .ok (.lstore_n 1, 1) := by decide +kernel
theorem dX6_digest_146 : decode cX6_digest 146 = .ok (.iinc 4 1, 3) := by decide +kernel
theorem dX6_digest_149 : decode cX6_digest 149 = .ok (.goto (-21), 3) := by decide +kernel
theorem dX6_digest_152 : decode cX6_digest 152 = .ok (.lload_n 1, 1) := by decide +kernel
theorem dX6_digest_153 : decode cX6_digest 153 = .ok (.aload_n 0, 1) := by decide +kernel
theorem dX6_digest_154 : decode cX6_digest 154 = .ok (.invokevirtual 200, 3) := by decide +kernel
theorem dX6_digest_157 : decode cX6_digest 157 = .ok (.i2l, 1) := by decide +kernel
theorem dX6_digest_158 : decode cX6_digest 158 = .ok (.invokestatic 176, 3) := by decide +kernel
theorem dX6_digest_161 : decode cX6_digest 161 = .ok (.aload_n 0, 1) := by decide +kernel
theorem dX6_digest_162 : decode cX6_digest 162 = .ok (.invokevirtual 203, 3) := by decide +kernel
theorem dX6_digest_165 : decode cX6_digest 165 = .ok (.i2l, 1) := by decide +kernel
theorem dX6_digest_166 : decode cX6_digest 166 = .ok (.invokestatic 176, 3) := by decide +kernel
theorem dX6_digest_169 : decode cX6_digest 169 = .ok (.lreturn, 1) := by decide +kernel
theorem dX6_mix_0 : decode cX6_mix 0 = .ok (.ldc2_w 206, 3) := by decide +kernel
theorem dX6_mix_3 : decode cX6_mix 3 = .ok (.lload_n 0, 1) := by decide +kernel
theorem dX6_mix_4 : decode cX6_mix 4 = .ok (.lmul, 1) := by decide +kernel
theorem dX6_mix_5 : decode cX6_mix 5 = .ok (.lload_n 2, 1) := by decide +kernel
theorem dX6_mix_6 : decode cX6_mix 6 = .ok (.ladd, 1) := by decide +kernel
theorem dX6_mix_7 : decode cX6_mix 7 = .ok (.lreturn, 1) := by decide +kernel
set_option maxRecDepth 20000 in
theorem ggX6_mixLetters_X4_letterValue : GoodIn wsX6_mixLetters wsX4_letterValue := goodIn_r _ [6, 7, 8, 9, 10, 11, 12, 5, 13, 14, 15, 16, 17, 18, 19, 20, 21, 22, 23, 24, 25, 26, 27, 28, 29, 30, 31, 32, 33, 34, 35, 36, 37, 38, 39, 40, 41, 42, 43, 44, 45, 46, 47, 48, 49, 50, 51, 60, 61, 62, 63, 64, 65, 66, 67, 68, 69, 70, 71, 72, 73, 74, 75, 76, 77, 78] (by decide +kernel) (by decide +kernel)
set_option maxRecDepth 20000 in
theorem gX6_mixLetters_X4_letterValue : GoodIn wsX6_mixLetters (wsV RX6 93 RX4 yX4_letterValue wsX4_letterValue) := goodIn_app (goodIn_of _ (by decide +kernel)) ggX6_mixLetters_X4_letterValue
set_option maxRecDepth 20000 in
theorem ggX6_mixLetters_X6_mix : GoodIn wsX6_mixLetters wsX6_mix := goodIn_r _ [54, 55] (by decide +kernel) (by decide +kernel)
set_option maxRecDepth 20000 in
theorem gX6_mixLetters_X6_mix : GoodIn wsX6_mixLetters (va_wsS RX6 176 yX6_mix wsX6_mix) := goodIn_app (goodIn_of _ (by decide +kernel)) ggX6_mixLetters_X6_mix
theorem dX6_mixLetters_0 : decode cX6_mixLetters 0 = .ok (.lload_n 1, 1) := by decide +kernel
theorem dX6_mixLetters_1 : decode cX6_mixLetters 1 = .ok (.lstore_n 3, 1) := by decide +kernel
theorem dX6_mixLetters_2 : decode cX6_mixLetters 2 = .ok (.iconst 0, 1) := by decide +kernel
theorem dX6_mixLetters_3 : decode cX6_mixLetters 3 = .ok (.istore 5, 2) := by decide +kernel
theorem dX6_mixLetters_5 : decode cX6_mixLetters 5 = .ok (.iload 5, 2) := by decide +kernel
theorem dX6_mixLetters_7 : decode cX6_mixLetters 7 = .ok (.sipush 144, 3) := by decide +kernel
theorem dX6_mixLetters_10 : decode cX6_mixLetters 10 = .ok (.if_icmp .ge 42, 3) := by decide +kernel
theorem dX6_mixLetters_13 : decode cX6_mixLetters 13 = .ok (.iconst 0, 1) := by decide +kernel
theorem dX6_mixLetters_14 : decode cX6_mixLetters 14 = .ok (.istore 6, 2) := by decide +kernel
theorem dX6_mixLetters_16 : decode cX6_mixLetters 16 = .ok (.iload 6, 2) := by decide +kernel
theorem dX6_mixLetters_18 : decode cX6_mixLetters 18 = .ok (.bipush 9, 2) := by decide +kernel
theorem dX6_mixLetters_20 : decode cX6_mixLetters 20 = .ok (.if_icmp .ge 26, 3) := by decide +kernel
theorem dX6_mixLetters_23 : decode cX6_mixLetters 23 = .ok (.lload_n 3, 1) := by decide +kernel
theorem dX6_mixLetters_24 : decode cX6_mixLetters 24 = .ok (.aload_n 0, 1) := by decide +kernel
theorem dX6_mixLetters_25 : decode cX6_mixLetters 25 = .ok (.getfield 12, 3) := by decide +kernel
theorem dX6_mixLetters_28 : decode cX6_mixLetters 28 = .ok (.iload 5, 2) := by decide +kernel
theorem dX6_mixLetters_30 : decode cX6_mixLetters 30 = .ok (.iload 6, 2) := by decide +kernel
theorem dX6_mixLetters_32 : decode cX6_mixLetters 32 = .ok (.invokevirtual 93, 3) := by decide +kernel
theorem dX6_mixLetters_35 : decode cX6_mixLetters 35 = .ok (.i2l, 1) := by decide +kernel
theorem dX6_mixLetters_36 : decode cX6_mixLetters 36 = .ok (.invokestatic 176, 3) := by decide +kernel
theorem dX6_mixLetters_39 : decode cX6_mixLetters 39 = .ok (.lstore_n 3, 1) := by decide +kernel
theorem dX6_mixLetters_40 : decode cX6_mixLetters 40 = .ok (.iinc 6 1, 3) := by decide +kernel
theorem dX6_mixLetters_43 : decode cX6_mixLetters 43 = .ok (.goto (-27), 3) := by decide +kernel
theorem dX6_mixLetters_46 : decode cX6_mixLetters 46 = .ok (.iinc 5 1, 3) := by decide +kernel
theorem dX6_mixLetters_49 : decode cX6_mixLetters 49 = .ok (.goto (-44), 3) := by decide +kernel
theorem dX6_mixLetters_52 : decode cX6_mixLetters 52 = .ok (.lload_n 3, 1) := by decide +kernel
theorem dX6_mixLetters_53 : decode cX6_mixLetters 53 = .ok (.lreturn, 1) := by decide +kernel
set_option maxRecDepth 20000 in
theorem ggX6_mixTray_X4_trayValue : GoodIn wsX6_mixTray wsX4_trayValue := goodIn_r _ [6, 7, 8, 9, 5, 10, 11, 12, 13, 14, 15, 16, 17, 18, 19, 20, 21, 22, 23, 24, 25, 26, 27, 28, 29, 30, 31, 32, 33, 34, 35, 36, 37, 38, 39, 40, 41, 42, 43, 44, 45, 46, 47, 48, 49, 50, 51, 52, 53, 54, 55, 56, 57, 58, 59, 60, 61, 119, 120, 121, 122, 123, 124, 125, 126, 127, 128, 129, 130, 131, 132, 133, 134, 135, 136, 137] (by decide +kernel) (by decide +kernel)
set_option maxRecDepth 20000 in
theorem gX6_mixTray_X4_trayValue : GoodIn wsX6_mixTray (wsV RX6 106 RX4 yX4_trayValue wsX4_trayValue) := goodIn_app (goodIn_of _ (by decide +kernel)) ggX6_mixTray_X4_trayValue
set_option maxRecDepth 20000 in
theorem ggX6_mixTray_X6_mix : GoodIn wsX6_mixTray wsX6_mix := goodIn_r _ [64, 65] (by decide +kernel) (by decide +kernel)
set_option maxRecDepth 20000 in
theorem gX6_mixTray_X6_mix : GoodIn wsX6_mixTray (va_wsS RX6 176 yX6_mix wsX6_mix) := goodIn_app (goodIn_of _ (by decide +kernel)) ggX6_mixTray_X6_mix
set_option maxRecDepth 20000 in
theorem ggX6_mixTray_X4_countShelves : GoodIn wsX6_mixTray wsX4_countShelves := goodIn_r _ [10, 11, 12, 13, 14, 15, 16, 17, 119, 120, 121, 122, 123, 124, 125, 126, 127, 128, 129, 130, 131, 132, 133, 134, 135, 136, 137] (by decide +kernel) (by decide +kernel)
set_option maxRecDepth 20000 in
theorem gX6_mixTray_X4_countShelves : GoodIn wsX6_mixTray (wsV RX6 208 RX4 yX4_countShelves wsX4_countShelves) := goodIn_app (goodIn_of _ (by decide +kernel)) ggX6_mixTray_X4_countShelves
set_option maxRecDepth 20000 in
theorem ggX6_mixTray_X4_shelfValue : GoodIn wsX6_mixTray wsX4_shelfValue := goodIn_r _ [70, 11, 71, 72, 73, 5, 74, 12, 13, 14, 15, 16, 17, 75, 76, 77, 78, 26, 32, 27, 79, 80, 81, 82, 83, 84, 85, 86, 87, 88, 89, 90, 91, 92, 93, 94, 95, 96, 97, 98, 99, 100, 101, 102, 103, 104, 105, 106, 107, 108, 109, 110, 111, 112, 113, 114, 119, 120, 121, 122, 123, 124, 125, 126, 127, 128, 129, 130, 131, 132, 133, 134, 135, 136, 137] (by decide +kernel) (by decide +kernel)
set_option maxRecDepth 20000 in
theorem gX6_mixTray_X4_shelfValue : GoodIn wsX6_mixTray (wsV RX6 113 RX4 yX4_shelfValue wsX4_shelfValue) := goodIn_app (goodIn_of _ (by decide +kernel)) ggX6_mixTray_X4_shelfValue
theorem dX6_mixTray_0 : decode cX6_mixTray 0 = .ok (.lload_n 1, 1) := by decide +kernel
theorem dX6_mixTray_1 : decode cX6_mixTray 1 = .ok (.lstore 4, 2) := by decide +kernel
theorem dX6_mixTray_3 : decode cX6_mixTray 3 = .ok (.iconst 0, 1) := by decide +kernel
theorem dX6_mixTray_4 : decode cX6_mixTray 4 = .ok (.istore 6, 2) := by decide +kernel
theorem dX6_mixTray_6 : decode cX6_mixTray 6 = .ok (.iload 6, 2) := by decide +kernel
theorem dX6_mixTray_8 : decode cX6_mixTray 8 = .ok (.iconst 4, 1) := by decide +kernel
theorem dX6_mixTray_9 : decode cX6_mixTray 9 = .ok (.if_icmp .ge 27, 3) := by decide +kernel
theorem dX6_mixTray_12 : decode cX6_mixTray 12 = .ok (.lload 4, 2) := by decide +kernel
theorem dX6_mixTray_14 : decode cX6_mixTray 14 = .ok (.aload_n 0, 1) := by decide +kernel
theorem dX6_mixTray_15 : decode cX6_mixTray 15 = .ok (.getfield 12, 3) := by decide +kernel
theorem dX6_mixTray_18 : decode cX6_mixTray 18 = .ok (.iload_n 3, 1) := by decide +kernel
theorem dX6_mixTray_19 : decode cX6_mixTray 19 = .ok (.iload 6, 2) := by decide +kernel
theorem dX6_mixTray_21 : decode cX6_mixTray 21 = .ok (.invokevirtual 106, 3) := by decide +kernel
theorem dX6_mixTray_24 : decode cX6_mixTray 24 = .ok (.i2l, 1) := by decide +kernel
theorem dX6_mixTray_25 : decode cX6_mixTray 25 = .ok (.invokestatic 176, 3) := by decide +kernel
theorem dX6_mixTray_28 : decode cX6_mixTray 28 = .ok (.lstore 4, 2) := by decide +kernel
theorem dX6_mixTray_30 : decode cX6_mixTray 30 = .ok (.iinc 6 1, 3) := by decide +kernel
theorem dX6_mixTray_33 : decode cX6_mixTray 33 = .ok (.goto (-27), 3) := by decide +kernel
theorem dX6_mixTray_36 : decode cX6_mixTray 36 = .ok (.aload_n 0, 1) := by decide +kernel
theorem dX6_mixTray_37 : decode cX6_mixTray 37 = .ok (.getfield 12, 3) := by decide +kernel
theorem dX6_mixTray_40 : decode cX6_mixTray 40 = .ok (.iload_n 3, 1) := by decide +kernel
theorem dX6_mixTray_41 : decode cX6_mixTray 41 = .ok (.invokevirtual 208, 3) := by decide +kernel
theorem dX6_mixTray_44 : decode cX6_mixTray 44 = .ok (.istore 6, 2) := by decide +kernel
theorem dX6_mixTray_46 : decode cX6_mixTray 46 = .ok (.iconst 0, 1) := by decide +kernel
theorem dX6_mixTray_47 : decode cX6_mixTray 47 = .ok (.istore 7, 2) := by decide +kernel
theorem dX6_mixTray_49 : decode cX6_mixTray 49 = .ok (.iload 7, 2) := by decide +kernel
theorem dX6_mixTray_51 : decode cX6_mixTray 51 = .ok (.iload 6, 2) := by decide +kernel
theorem dX6_mixTray_53 : decode cX6_mixTray 53 = .ok (.if_icmp .ge 49, 3) := by decide +kernel
theorem dX6_mixTray_56 : decode cX6_mixTray 56 = .ok (.iconst 0, 1) := by decide +kernel
theorem dX6_mixTray_57 : decode cX6_mixTray 57 = .ok (.istore 8, 2) := by decide +kernel
theorem dX6_mixTray_59 : decode cX6_mixTray 59 = .ok (.iload 8, 2) := by decide +kernel
theorem dX6_mixTray_61 : decode cX6_mixTray 61 = .ok (.bipush 7, 2) := by decide +kernel
theorem dX6_mixTray_63 : decode cX6_mixTray 63 = .ok (.if_icmp .ge 33, 3) := by decide +kernel
theorem dX6_mixTray_66 : decode cX6_mixTray 66 = .ok (.lload 4, 2) := by decide +kernel
theorem dX6_mixTray_68 : decode cX6_mixTray 68 = .ok (.aload_n 0, 1) := by decide +kernel
theorem dX6_mixTray_69 : decode cX6_mixTray 69 = .ok (.getfield 12, 3) := by decide +kernel
theorem dX6_mixTray_72 : decode cX6_mixTray 72 = .ok (.iload_n 3, 1) := by decide +kernel
theorem dX6_mixTray_73 : decode cX6_mixTray 73 = .ok (.bipush 24, 2) := by decide +kernel
theorem dX6_mixTray_75 : decode cX6_mixTray 75 = .ok (.imul, 1) := by decide +kernel
theorem dX6_mixTray_76 : decode cX6_mixTray 76 = .ok (.iload 7, 2) := by decide +kernel
theorem dX6_mixTray_78 : decode cX6_mixTray 78 = .ok (.iadd, 1) := by decide +kernel
theorem dX6_mixTray_79 : decode cX6_mixTray 79 = .ok (.iload 8, 2) := by decide +kernel
theorem dX6_mixTray_81 : decode cX6_mixTray 81 = .ok (.invokevirtual 113, 3) := by decide +kernel
theorem dX6_mixTray_84 : decode cX6_mixTray 84 = .ok (.i2l, 1) := by decide +kernel
theorem dX6_mixTray_85 : decode cX6_mixTray 85 = .ok (.invokestatic 176, 3) := by decide +kernel
theorem dX6_mixTray_88 : decode cX6_mixTray 88 = .ok (.lstore 4, 2) := by decide +kernel
theorem dX6_mixTray_90 : decode cX6_mixTray 90 = .ok (.iinc 8 1, 3) := by decide +kernel
theorem dX6_mixTray_93 : decode cX6_mixTray 93 = .ok (.goto (-34), 3) := by decide +kernel
theorem dX6_mixTray_96 : decode cX6_mixTray 96 = .ok (.iinc 7 1, 3) := by decide +kernel
theorem dX6_mixTray_99 : decode cX6_mixTray 99 = .ok (.goto (-50), 3) := by decide +kernel
theorem dX6_mixTray_102 : decode cX6_mixTray 102 = .ok (.lload 4, 2) := by decide +kernel
theorem dX6_mixTray_104 : decode cX6_mixTray 104 = .ok (.lreturn, 1) := by decide +kernel
set_option maxRecDepth 20000 in
theorem ggX6_carryOut_X0_numberOf : GoodIn wsX6_carryOut wsX0_numberOf := goodIn_r _ [8, 9, 10, 11, 12, 13, 14, 15, 241, 242, 243, 244, 245, 246, 247] (by decide +kernel) (by decide +kernel)
set_option maxRecDepth 20000 in
theorem gX6_carryOut_X0_numberOf : GoodIn wsX6_carryOut (wsV RX6 211 RX0 yX0_numberOf wsX0_numberOf) := goodIn_app (goodIn_of _ (by decide +kernel)) ggX6_carryOut_X0_numberOf
set_option maxRecDepth 20000 in
theorem ggX6_carryOut_X0_wordOf : GoodIn wsX6_carryOut wsX0_wordOf := goodIn_r _ [19, 20, 10, 11, 12, 13, 14, 15, 241, 242, 243, 244, 245, 246, 247] (by decide +kernel) (by decide +kernel)
set_option maxRecDepth 20000 in
theorem gX6_carryOut_X0_wordOf : GoodIn wsX6_carryOut (wsV RX6 214 RX0 yX0_wordOf wsX0_wordOf) := goodIn_app (goodIn_of _ (by decide +kernel)) ggX6_carryOut_X0_wordOf
set_option maxRecDepth 20000 in
theorem ggX6_carryOut_X6_faultOfCut : GoodIn wsX6_carryOut wsX6_faultOfCut := goodIn_r _ [24, 25, 26, 23, 27, 28, 29, 30] (by decide +kernel) (by decide +kernel)
set_option maxRecDepth 20000 in
theorem gX6_carryOut_X6_faultOfCut : GoodIn wsX6_carryOut (va_wsS RX6 37 yX6_faultOfCut wsX6_faultOfCut) := goodIn_app (goodIn_of _ (by decide +kernel)) ggX6_carryOut_X6_faultOfCut
set_option maxRecDepth 20000 in
theorem ggX6_carryOut_X4_cutSign : GoodIn wsX6_carryOut wsX4_cutSign := goodIn_r _ [35, 36, 37, 38, 11, 12, 13, 14, 15, 39, 40, 41, 42, 43, 44, 45, 34, 46, 47, 48, 49, 50, 51, 52, 53, 54, 248, 249, 250, 251, 252, 253, 254, 255, 256, 257, 258, 259, 260, 261, 262, 263, 264, 265, 247] (by decide +kernel) (by decide +kernel)
set_option maxRecDepth 20000 in
theorem gX6_carryOut_X4_cutSign : GoodIn wsX6_carryOut (wsV RX6 49 RX4 yX4_cutSign wsX4_cutSign) := goodIn_app (goodIn_of _ (by decide +kernel)) ggX6_carryOut_X4_cutSign
set_option maxRecDepth 20000 in
theorem ggX6_carryOut_X6_faultOfUse : GoodIn wsX6_carryOut wsX6_faultOfUse := goodIn_r _ [58, 3, 2, 59, 60, 23, 61, 25, 26, 27, 28, 29, 30, 62, 63, 64, 65, 66, 67, 68, 69, 70, 71, 72, 73, 74, 75, 76, 77, 78, 79, 44, 45, 34, 46, 47, 38, 11, 12, 13, 14, 15, 80, 81, 82, 83, 84, 85, 86, 87, 36, 88, 89, 90, 91, 92, 93, 94, 95, 96, 97, 37, 98, 99, 100, 101, 102, 103, 104, 105, 106, 52, 53, 107, 108, 109, 110, 111, 112, 113, 114, 115, 116, 117, 118, 119, 120, 121, 122, 123, 124, 125, 126, 127, 128, 129, 130, 131, 132, 133, 134, 135, 136, 137, 138, 139, 140, 141, 142, 143, 144, 145, 146, 147, 148, 149, 150, 151, 152, 153, 154, 155, 156, 157, 158, 159, 160, 161, 162, 163, 164, 165, 166, 167, 168, 169, 170, 171, 172, 173, 174, 237, 238, 239, 240, 266, 267, 268, 269, 270, 248, 249, 250, 251, 252, 253, 254, 255, 256, 257, 258, 259, 260, 261, 262, 263, 264, 265, 247] (by decide +kernel) (by decide +kernel)
set_option maxRecDepth 20000 in
theorem gX6_carryOut_X6_faultOfUse : GoodIn wsX6_carryOut (wsV RX6 52 RX6 yX6_faultOfUse wsX6_faultOfUse) := goodIn_app (goodIn_of _ (by decide +kernel)) ggX6_carryOut_X6_faultOfUse
set_option maxRecDepth 20000 in
theorem ggX6_carryOut_X6_letterNumber : GoodIn wsX6_carryOut wsX6_letterNumber := goodIn_r _ [64] (by decide +kernel) (by decide +kernel)
set_option maxRecDepth 20000 in
theorem gX6_carryOut_X6_letterNumber : GoodIn wsX6_carryOut (va_wsS RX6 55 yX6_letterNumber wsX6_letterNumber) := goodIn_app (goodIn_of _ (by decide +kernel)) ggX6_carryOut_X6_letterNumber
set_option maxRecDepth 20000 in
theorem ggX6_carryOut_X4_useLetter : GoodIn wsX6_carryOut wsX4_useLetter := goodIn_r _ [178, 179, 180, 146, 140, 141, 181, 182, 183, 184, 34, 185, 186, 187, 102, 47, 108, 107, 53, 52, 188, 189, 190, 191, 92, 23, 93, 192, 193, 194, 195, 196, 85, 86, 87, 36, 88, 89, 38, 11, 12, 13, 14, 15, 90, 91, 197, 95, 96, 97, 37, 43, 44, 45, 46, 39, 40, 41, 42, 198, 199, 200, 201, 48, 49, 50, 51, 54, 266, 267, 268, 269, 270, 248, 249, 250, 251, 252, 253, 254, 255, 256, 257, 258, 259, 260, 261, 262, 263, 264, 265, 247] (by decide +kernel) (by decide +kernel)
set_option maxRecDepth 20000 in
theorem gX6_carryOut_X4_useLetter : GoodIn wsX6_carryOut (wsV RX6 58 RX4 yX4_useLetter wsX4_useLetter) := goodIn_app (goodIn_of _ (by decide +kernel)) ggX6_carryOut_X4_useLetter
set_option maxRecDepth 20000 in
theorem ggX6_carryOut_X6_faultOfDrop : GoodIn wsX6_carryOut wsX6_faultOfDrop := goodIn_r _ [205, 2, 59, 60, 23, 61, 25, 26, 27, 28, 29, 30, 62, 63, 64, 206, 44, 45, 34, 46, 47, 38, 11, 12, 13, 14, 15, 237, 238, 239, 240, 248, 249, 250, 251, 252, 253, 254, 255, 256, 257, 258, 259, 260, 261, 262, 263, 264, 265, 247] (by decide +kernel) (by decide +kernel)
set_option maxRecDepth 20000 in
theorem gX6_carryOut_X6_faultOfDrop : GoodIn wsX6_carryOut (wsV RX6 66 RX6 yX6_faultOfDrop wsX6_faultOfDrop) := goodIn_app (goodIn_of _ (by decide +kernel)) ggX6_carryOut_X6_faultOfDrop
set_option maxRecDepth 20000 in
theorem ggX6_carryOut_X4_dropLetter : GoodIn wsX6_carryOut wsX4_dropLetter := goodIn_r _ [210, 181, 38, 11, 12, 13, 14, 15, 48, 49, 50, 34, 51, 52, 53, 47, 54, 39, 40, 41, 42, 248, 249, 250, 251, 252, 253, 254, 255, 256, 257, 258, 259, 260, 261, 262, 263, 264, 265, 247] (by decide +kernel) (by decide +kernel)
set_option maxRecDepth 20000 in
theorem gX6_carryOut_X4_dropLetter : GoodIn wsX6_carryOut (wsV RX6 69 RX4 yX4_dropLetter wsX4_dropLetter) := goodIn_app (goodIn_of _ (by decide +kernel)) ggX6_carryOut_X4_dropLetter
set_option maxRecDepth 20000 in
theorem ggX6_carryOut_X4_beginLine : GoodIn wsX6_carryOut wsX4_beginLine := goodIn_r _ [214, 141, 215, 216, 217, 34, 218, 52, 53, 38, 11, 12, 13, 14, 15, 136, 137, 138, 139, 140, 248, 249, 250, 251, 252, 253, 254, 255, 256, 257, 258, 259, 260, 261, 262, 263, 264, 265, 247] (by decide +kernel) (by decide +kernel)
set_option maxRecDepth 20000 in
theorem gX6_carryOut_X4_beginLine : GoodIn wsX6_carryOut (wsV RX6 73 RX4 yX4_beginLine wsX4_beginLine) := goodIn_app (goodIn_of _ (by decide +kernel)) ggX6_carryOut_X4_beginLine
set_option maxRecDepth 20000 in
theorem ggX6_carryOut_X6_faultOfAddTray : GoodIn wsX6_carryOut wsX6_faultOfAddTray := goodIn_r _ [222, 2, 237, 238, 239, 240, 248, 249, 250, 251, 252, 253, 254, 255, 256, 257, 258, 259, 260, 261, 262, 263, 264, 265] (by decide +kernel) (by decide +kernel)
set_option maxRecDepth 20000 in
theorem gX6_carryOut_X6_faultOfAddTray : GoodIn wsX6_carryOut (wsV RX6 77 RX6 yX6_faultOfAddTray wsX6_faultOfAddTray) := goodIn_app (goodIn_of _ (by decide +kernel)) ggX6_carryOut_X6_faultOfAddTray
set_option maxRecDepth 20000 in
theorem ggX6_carryOut_X4_openTray : GoodIn wsX6_carryOut wsX4_openTray := goodIn_r _ [226, 227, 248, 249, 250, 251, 252, 253, 254, 255, 256, 257, 258, 259, 260, 261, 262, 263, 264, 265] (by decide +kernel) (by decide +kernel)
set_option maxRecDepth 20000 in
theorem gX6_carryOut_X4_openTray : GoodIn wsX6_carryOut (wsV RX6 80 RX4 yX4_openTray wsX4_openTray) := goodIn_app (goodIn_of _ (by decide +kernel)) ggX6_carryOut_X4_openTray
set_option maxRecDepth 20000 in
theorem ggX6_carryOut_X4_closeEmptyShelves : GoodIn wsX6_carryOut wsX4_closeEmptyShelves := goodIn_r _ [231, 102, 38, 11, 12, 13, 14, 15, 232, 152, 153, 34, 154, 52, 47, 53, 233, 234, 235, 236, 39, 40, 41, 42, 248, 249, 250, 251, 252, 253, 254, 255, 256, 257, 258, 259, 260, 261, 262, 263, 264, 265, 247] (by decide +kernel) (by decide +kernel)
set_option maxRecDepth 20000 in
theorem gX6_carryOut_X4_closeEmptyShelves : GoodIn wsX6_carryOut (wsV RX6 83 RX4 yX4_closeEmptyShelves wsX4_closeEmptyShelves) := goodIn_app (goodIn_of _ (by decide +kernel)) ggX6_carryOut_X4_closeEmptyShelves
theorem dX6_carryOut_0 : decode cX6_carryOut 0 = .ok (.aload_n 0, 1) := by decide +kernel
theorem dX6_carryOut_1 : decode cX6_carryOut 1 = .ok (.getfield 26, 3) := by decide +kernel
theorem dX6_carryOut_4 : decode cX6_carryOut 4 = .ok (.iload_n 1, 1) := by decide +kernel
theorem dX6_carryOut_5 : decode cX6_carryOut 5 = .ok (.iconst 0, 1) := by decide +kernel
theorem dX6_carryOut_6 : decode cX6_carryOut 6 = .ok (.invokevirtual 211, 3) := by decide +kernel
theorem dX6_carryOut_9 : decode cX6_carryOut 9 = .ok (.istore_n 2, 1) := by decide +kernel
theorem dX6_carryOut_10 : decode cX6_carryOut 10 = .ok (.aload_n 0, 1) := by decide +kernel
theorem dX6_carryOut_11 : decode cX6_carryOut 11 = .ok (.getfield 26, 3) := by decide +kernel
theorem dX6_carryOut_14 : decode cX6_carryOut 14 = .ok (.iload_n 1, 1) := by decide +kernel
theorem dX6_carryOut_15 : decode cX6_carryOut 15 = .ok (.iconst 1, 1) := by decide +kernel
theorem dX6_carryOut_16 : decode cX6_carryOut 16 = .ok (.invokevirtual 211, 3) := by decide +kernel
theorem dX6_carryOut_19 : decode cX6_carryOut 19 = .ok (.istore_n 3, 1) := by decide +kernel
theorem dX6_carryOut_20 : decode cX6_carryOut 20 = .ok (.aload_n 0, 1) := by decide +kernel
theorem dX6_carryOut_21 : decode cX6_carryOut 21 = .ok (.getfield 26, 3) := by decide +kernel
theorem dX6_carryOut_24 : decode cX6_carryOut 24 = .ok (.iload_n 1, 1) := by decide +kernel
theorem dX6_carryOut_25 : decode cX6_carryOut 25 = .ok (.iconst 2, 1) := by decide +kernel
theorem dX6_carryOut_26 : decode cX6_carryOut 26 = .ok (.invokevirtual 211, 3) := by decide +kernel
theorem dX6_carryOut_29 : decode cX6_carryOut 29 = .ok (.istore 4, 2) := by decide +kernel
theorem dX6_carryOut_31 : decode cX6_carryOut 31 = .ok (.aload_n 0, 1) := by decide +kernel
theorem dX6_carryOut_32 : decode cX6_carryOut 32 = .ok (.getfield 26, 3) := by decide +kernel
theorem dX6_carryOut_35 : decode cX6_carryOut 35 = .ok (.iload_n 1, 1) := by decide +kernel
theorem dX6_carryOut_36 : decode cX6_carryOut 36 = .ok (.invokevirtual 214, 3) := by decide +kernel
theorem dX6_carryOut_39 : decode cX6_carryOut 39 = .ok (.tableswitch 155 0 5 #[37, 63, 96, 126, 136, 155], 37) := by decide +kernel
theorem dX6_carryOut_76 : decode cX6_carryOut 76 = .ok (.iload_n 2, 1) := by decide +kernel
theorem dX6_carryOut_77 : decode cX6_carryOut 77 = .ok (.iload_n 3, 1) := by decide +kernel
theorem dX6_carryOut_78 : decode cX6_carryOut 78 = .ok (.iload 4, 2) := by decide +kernel
theorem dX6_carryOut_80 : decode cX6_carryOut 80 = .ok (.invokestatic 37, 3) := by decide +kernel
theorem dX6_carryOut_83 : decode cX6_carryOut 83 = .ok (.ifCond .eq 5, 3) := by decide +kernel
theorem dX6_carryOut_86 : decode cX6_carryOut 86 = .ok (.iconst 0, 1) := by decide +kernel
theorem dX6_carryOut_87 : decode cX6_carryOut 87 = .ok (.ireturn, 1) := by decide +kernel
theorem dX6_carryOut_88 : decode cX6_carryOut 88 = .ok (.aload_n 0, 1) := by decide +kernel
theorem dX6_carryOut_89 : decode cX6_carryOut 89 = .ok (.getfield 12, 3) := by decide +kernel
theorem dX6_carryOut_92 : decode cX6_carryOut 92 = .ok (.iload_n 2, 1) := by decide +kernel
theorem dX6_carryOut_93 : decode cX6_carryOut 93 = .ok (.iload_n 3, 1) := by decide +kernel
theorem dX6_carryOut_94 : decode cX6_carryOut 94 = .ok (.iload 4, 2) := by decide +kernel
theorem dX6_carryOut_96 : decode cX6_carryOut 96 = .ok (.invokevirtual 49, 3) := by decide +kernel
theorem dX6_carryOut_99 : decode cX6_carryOut 99 = .ok (.pop, 1) := by decide +kernel
theorem dX6_carryOut_100 : decode cX6_carryOut 100 = .ok (.iconst 1, 1) := by decide +kernel
theorem dX6_carryOut_101 : decode cX6_carryOut 101 = .ok (.ireturn, 1) := by decide +kernel
theorem dX6_carryOut_102 : decode cX6_carryOut 102 = .ok (.aload_n 0, 1) := by decide +kernel
theorem dX6_carryOut_103 : decode cX6_carryOut 103 = .ok (.iload_n 2, 1) := by decide +kernel
theorem dX6_carryOut_104 : decode cX6_carryOut 104 = .ok (.iload_n 3, 1) := by decide +kernel
theorem dX6_carryOut_105 : decode cX6_carryOut 105 = .ok (.iload 4, 2) := by decide +kernel
theorem dX6_carryOut_107 : decode cX6_carryOut 107 = .ok (.invokevirtual 52, 3) := by decide +kernel
theorem dX6_carryOut_110 : decode cX6_carryOut 110 = .ok (.ifCond .eq 5, 3) := by decide +kernel
theorem dX6_carryOut_113 : decode cX6_carryOut 113 = .ok (.iconst 0, 1) := by decide +kernel
theorem dX6_carryOut_114 : decode cX6_carryOut 114 = .ok (.ireturn, 1) := by decide +kernel
theorem dX6_carryOut_115 : decode cX6_carryOut 115 = .ok (.aload_n 0, 1) := by decide +kernel
theorem dX6_carryOut_116 : decode cX6_carryOut 116 = .ok (.getfield 12, 3) := by decide +kernel
theorem dX6_carryOut_119 : decode cX6_carryOut 119 = .ok (.iload_n 2, 1) := by decide +kernel
theorem dX6_carryOut_120 : decode cX6_carryOut 120 = .ok (.iload_n 3, 1) := by decide +kernel
theorem dX6_carryOut_121 : decode cX6_carryOut 121 = .ok (.iload 4, 2) := by decide +kernel
theorem dX6_carryOut_123 : decode cX6_carryOut 123 = .ok (.invokestatic 55, 3) := by decide +kernel
theorem dX6_carryOut_126 : decode cX6_carryOut 126 = .ok (.aload_n 0, 1) := by decide +kernel
theorem dX6_carryOut_127 : decode cX6_carryOut 127 = .ok (.getfield 33, 3) := by decide +kernel
theorem dX6_carryOut_130 : decode cX6_carryOut 130 = .ok (.invokevirtual 58, 3) := by decide +kernel
theorem dX6_carryOut_133 : decode cX6_carryOut 133 = .ok (.iconst 1, 1) := by decide +kernel
theorem dX6_carryOut_134 : decode cX6_carryOut 134 = .ok (.ireturn, 1) := by decide +kernel
theorem dX6_carryOut_135 : decode cX6_carryOut 135 = .ok (.aload_n 0, 1) := by decide +kernel
theorem dX6_carryOut_136 : decode cX6_carryOut 136 = .ok (.iload_n 2, 1) := by decide +kernel
theorem dX6_carryOut_137 : decode cX6_carryOut 137 = .ok (.iload_n 3, 1) := by decide +kernel
theorem dX6_carryOut_138 : decode cX6_carryOut 138 = .ok (.iload 4, 2) := by decide +kernel
theorem dX6_carryOut_140 : decode cX6_carryOut 140 = .ok (.invokevirtual 66, 3) := by decide +kernel
theorem dX6_carryOut_143 : decode cX6_carryOut 143 = .ok (.ifCond .eq 5, 3) := by decide +kernel
theorem dX6_carryOut_146 : decode cX6_carryOut 146 = .ok (.iconst 0, 1) := by decide +kernel
theorem dX6_carryOut_147 : decode cX6_carryOut 147 = .ok (.ireturn, 1) := by decide +kernel
theorem dX6_carryOut_148 : decode cX6_carryOut 148 = .ok (.aload_n 0, 1) := by decide +kernel
theorem dX6_carryOut_149 : decode cX6_carryOut 149 = .ok (.getfield 12, 3) := by decide +kernel
theorem dX6_carryOut_152 : decode cX6_carryOut 152 = .ok (.iload_n 2, 1) := by decide +kernel
theorem dX6_carryOut_153 : decode cX6_carryOut 153 = .ok (.iload_n 3, 1) := by decide +kernel
theorem dX6_carryOut_154 : decode cX6_carryOut 154 = .ok (.iload 4, 2) := by decide +kernel
theorem dX6_carryOut_156 : decode cX6_carryOut 156 = .ok (.invokestatic 55, 3) := by decide +kernel
theorem dX6_carryOut_159 : decode cX6_carryOut 159 = .ok (.invokevirtual 69, 3) := by decide +kernel
theorem dX6_carryOut_162 : decode cX6_carryOut 162 = .ok (.pop, 1) := by decide +kernel
theorem dX6_carryOut_163 : decode cX6_carryOut 163 = .ok (.iconst 1, 1) := by decide +kernel
theorem dX6_carryOut_164 : decode cX6_carryOut 164 = .ok (.ireturn, 1) := by decide +kernel
theorem dX6_carryOut_165 : decode cX6_carryOut 165 = .ok (.aload_n 0, 1) := by decide +kernel
theorem dX6_carryOut_166 : decode cX6_carryOut 166 = .ok (.getfield 12, 3) := by decide +kernel
theorem dX6_carryOut_169 : decode cX6_carryOut 169 = .ok (.invokevirtual 73, 3) := by decide +kernel
theorem dX6_carryOut_172 : decode cX6_carryOut 172 = .ok (.pop, 1) := by decide +kernel
theorem dX6_carryOut_173 : decode cX6_carryOut 173 = .ok (.iconst 1, 1) := by decide +kernel
theorem dX6_carryOut_174 : decode cX6_carryOut 174 = .ok (.ireturn, 1) := by decide +kernel
theorem dX6_carryOut_175 : decode cX6_carryOut 175 = .ok (.aload_n 0, 1) := by decide +kernel
theorem dX6_carryOut_176 : decode cX6_carryOut 176 = .ok (.invokevirtual 77, 3) := by decide +kernel
theorem dX6_carryOut_179 : decode cX6_carryOut 179 = .ok (.ifCond .eq 5, 3) := by decide +kernel
theorem dX6_carryOut_182 : decode cX6_carryOut 182 = .ok (.iconst 0, 1) := by decide +kernel
theorem dX6_carryOut_183 : decode cX6_carryOut 183 = .ok (.ireturn, 1) := by decide +kernel
theorem dX6_carryOut_184 : decode cX6_carryOut 184 = .ok (.aload_n 0, 1) := by decide +kernel
theorem dX6_carryOut_185 : decode cX6_carryOut 185 = .ok (.getfield 12, 3) := by decide +kernel
theorem dX6_carryOut_188 : decode cX6_carryOut 188 = .ok (.invokevirtual 80, 3) := by decide +kernel
theorem dX6_carryOut_191 : decode cX6_carryOut 191 = .ok (.pop, 1) := by decide +kernel
theorem dX6_carryOut_192 : decode cX6_carryOut 192 = .ok (.iconst 1, 1) := by decide +kernel
theorem dX6_carryOut_193 : decode cX6_carryOut 193 = .ok (.ireturn, 1) := by decide +kernel
theorem dX6_carryOut_194 : decode cX6_carryOut 194 = .ok (.aload_n 0, 1) := by decide +kernel
theorem dX6_carryOut_195 : decode cX6_carryOut 195 = .ok (.getfield 12, 3) := by decide +kernel
theorem dX6_carryOut_198 : decode cX6_carryOut 198 = .ok (.invokevirtual 83, 3) := by decide +kernel
theorem dX6_carryOut_201 : decode cX6_carryOut 201 = .ok (.pop, 1) := by decide +kernel
theorem dX6_carryOut_202 : decode cX6_carryOut 202 = .ok (.iconst 1, 1) := by decide +kernel
theorem dX6_carryOut_203 : decode cX6_carryOut 203 = .ok (.ireturn, 1) := by decide +kernel
theorem dX6_throwFor_0 : decode cX6_throwFor 0 = .ok (.iload_n 0, 1) := by decide +kernel
theorem dX6_throwFor_1 : decode cX6_throwFor 1 = .ok (.iconst 1, 1) := by decide +kernel
theorem dX6_throwFor_2 : decode cX6_throwFor 2 = .ok (.if_icmp .ne 13, 3) := by decide +kernel
theorem dX6_throwFor_5 : decode cX6_throwFor 5 = .ok (.new 217, 3) := by decide +kernel
theorem dX6_throwFor_8 : decode cX6_throwFor 8 = .ok (.dup, 1) := by decide +kernel
theorem dX6_throwFor_9 : decode cX6_throwFor 9 = .ok (.ldc 219, 2) := by decide +kernel
theorem dX6_throwFor_11 : decode cX6_throwFor 11 = .ok (.invokespecial 221, 3) := by decide +kernel
theorem dX6_throwFor_14 : decode cX6_throwFor 14 = .ok (.athrow, 1) := by decide +kernel
theorem dX6_throwFor_15 : decode cX6_throwFor 15 = .ok (.iload_n 0, 1) := by decide +kernel
theorem dX6_throwFor_16 : decode cX6_throwFor 16 = .ok (.iconst 2, 1) := by decide +kernel
theorem dX6_throwFor_17 : decode cX6_throwFor 17 = .ok (.if_icmp .ne 13, 3) := by decide +kernel
theorem dX6_throwFor_20 : decode cX6_throwFor 20 = .ok (.new 224, 3) := by decide +kernel
theorem dX6_throwFor_23 : decode cX6_throwFor 23 = .ok (.dup, 1) := by decide +kernel
theorem dX6_throwFor_24 : decode cX6_throwFor 24 = .ok (.ldc 226, 2) := by decide +kernel
theorem dX6_throwFor_26 : decode cX6_throwFor 26 = .ok (.invokespecial 228, 3) := by decide +kernel
theorem dX6_throwFor_29 : decode cX6_throwFor 29 = .ok (.athrow, 1) := by decide +kernel
theorem dX6_throwFor_30 : decode cX6_throwFor 30 = .ok (.iload_n 0, 1) := by decide +kernel
theorem dX6_throwFor_31 : decode cX6_throwFor 31 = .ok (.iconst 3, 1) := by decide +kernel
theorem dX6_throwFor_32 : decode cX6_throwFor 32 = .ok (.if_icmp .ne 13, 3) := by decide +kernel
theorem dX6_throwFor_35 : decode cX6_throwFor 35 = .ok (.new 229, 3) := by decide +kernel
theorem dX6_throwFor_38 : decode cX6_throwFor 38 = .ok (.dup, 1) := by decide +kernel
theorem dX6_throwFor_39 : decode cX6_throwFor 39 = .ok (.ldc 231, 2) := by decide +kernel
theorem dX6_throwFor_41 : decode cX6_throwFor 41 = .ok (.invokespecial 233, 3) := by decide +kernel
theorem dX6_throwFor_44 : decode cX6_throwFor 44 = .ok (.athrow, 1) := by decide +kernel
theorem dX6_throwFor_45 : decode cX6_throwFor 45 = .ok (.return_, 1) := by decide +kernel
set_option maxRecDepth 20000 in
theorem ggX6_faultOfCut_X6_isSign : GoodIn wsX6_faultOfCut wsX6_isSign := goodIn_r _ [4, 5, 6, 3, 7] (by decide +kernel) (by decide +kernel)
set_option maxRecDepth 20000 in
theorem gX6_faultOfCut_X6_isSign : GoodIn wsX6_faultOfCut (va_wsS RX6 96 yX6_isSign wsX6_isSign) := goodIn_app (goodIn_of _ (by decide +kernel)) ggX6_faultOfCut_X6_isSign
set_option maxRecDepth 20000 in
theorem ggX6_faultOfCut_X6_isBetween : GoodIn wsX6_faultOfCut wsX6_isBetween := goodIn_r _ [7] (by decide +kernel) (by decide +kernel)
set_option maxRecDepth 20000 in
theorem gX6_faultOfCut_X6_isBetween : GoodIn wsX6_faultOfCut (va_wsS RX6 116 yX6_isBetween wsX6_isBetween) := goodIn_app (goodIn_of _ (by decide +kernel)) ggX6_faultOfCut_X6_isBetween
theorem dX6_faultOfCut_0 : decode cX6_faultOfCut 0 = .ok (.iload_n 0, 1) := by decide +kernel
theorem dX6_faultOfCut_1 : decode cX6_faultOfCut 1 = .ok (.invokestatic 96, 3) := by decide +kernel
theorem dX6_faultOfCut_4 : decode cX6_faultOfCut 4 = .ok (.ifCond .ne 5, 3) := by decide +kernel
theorem dX6_faultOfCut_7 : decode cX6_faultOfCut 7 = .ok (.iconst 1, 1) := by decide +kernel
theorem dX6_faultOfCut_8 : decode cX6_faultOfCut 8 = .ok (.ireturn, 1) := by decide +kernel
theorem dX6_faultOfCut_9 : decode cX6_faultOfCut 9 = .ok (.iload_n 1, 1) := by decide +kernel
theorem dX6_faultOfCut_10 : decode cX6_faultOfCut 10 = .ok (.iconst 1, 1) := by decide +kernel
theorem dX6_faultOfCut_11 : decode cX6_faultOfCut 11 = .ok (.bipush 6, 2) := by decide +kernel
theorem dX6_faultOfCut_13 : decode cX6_faultOfCut 13 = .ok (.invokestatic 116, 3) := by decide +kernel
theorem dX6_faultOfCut_16 : decode cX6_faultOfCut 16 = .ok (.ifCond .eq 17, 3) := by decide +kernel
theorem dX6_faultOfCut_19 : decode cX6_faultOfCut 19 = .ok (.iload_n 2, 1) := by decide +kernel
theorem dX6_faultOfCut_20 : decode cX6_faultOfCut 20 = .ok (.iconst 1, 1) := by decide +kernel
theorem dX6_faultOfCut_21 : decode cX6_faultOfCut 21 = .ok (.bipush 6, 2) := by decide +kernel
theorem dX6_faultOfCut_23 : decode cX6_faultOfCut 23 = .ok (.invokestatic 116, 3) := by decide +kernel
theorem dX6_faultOfCut_26 : decode cX6_faultOfCut 26 = .ok (.ifCond .eq 7, 3) := by decide +kernel
theorem dX6_faultOfCut_29 : decode cX6_faultOfCut 29 = .ok (.iconst 1, 1) := by decide +kernel
theorem dX6_faultOfCut_30 : decode cX6_faultOfCut 30 = .ok (.goto 4, 3) := by decide +kernel
theorem dX6_faultOfCut_33 : decode cX6_faultOfCut 33 = .ok (.iconst 0, 1) := by decide +kernel
theorem dX6_faultOfCut_34 : decode cX6_faultOfCut 34 = .ok (.istore_n 3, 1) := by decide +kernel
theorem dX6_faultOfCut_35 : decode cX6_faultOfCut 35 = .ok (.iload_n 3, 1) := by decide +kernel
theorem dX6_faultOfCut_36 : decode cX6_faultOfCut 36 = .ok (.ifCond .eq 7, 3) := by decide +kernel
theorem dX6_faultOfCut_39 : decode cX6_faultOfCut 39 = .ok (.iconst 0, 1) := by decide +kernel
theorem dX6_faultOfCut_40 : decode cX6_faultOfCut 40 = .ok (.goto 4, 3) := by decide +kernel
theorem dX6_faultOfCut_43 : decode cX6_faultOfCut 43 = .ok (.iconst 2, 1) := by decide +kernel
theorem dX6_faultOfCut_44 : decode cX6_faultOfCut 44 = .ok (.ireturn, 1) := by decide +kernel
set_option maxRecDepth 20000 in
theorem ggX6_faultOfUse_X6_faultOfLetter : GoodIn wsX6_faultOfUse wsX6_faultOfLetter := goodIn_r _ [6, 7, 8, 5, 9, 10, 11, 12] (by decide +kernel) (by decide +kernel)
set_option maxRecDepth 20000 in
theorem gX6_faultOfUse_X6_faultOfLetter : GoodIn wsX6_faultOfUse (va_wsS RX6 86 yX6_faultOfLetter wsX6_faultOfLetter) := goodIn_app (goodIn_of _ (by decide +kernel)) ggX6_faultOfUse_X6_faultOfLetter
set_option maxRecDepth 20000 in
theorem ggX6_faultOfUse_X6_letterNumber : GoodIn wsX6_faultOfUse wsX6_letterNumber := goodIn_r _ [15] (by decide +kernel) (by decide +kernel)
set_option maxRecDepth 20000 in
theorem gX6_faultOfUse_X6_letterNumber : GoodIn wsX6_faultOfUse (va_wsS RX6 55 yX6_letterNumber wsX6_letterNumber) := goodIn_app (goodIn_of _ (by decide +kernel)) ggX6_faultOfUse_X6_letterNumber
set_option maxRecDepth 20000 in
theorem ggX6_faultOfUse_X2_find : GoodIn wsX6_faultOfUse wsX2_find := goodIn_r _ [20, 21, 22, 23, 24, 25, 26, 19, 27, 28, 29, 30, 31, 32, 33, 34, 35, 36, 37, 38, 39, 40, 41, 42, 43, 44, 45, 46, 47, 48, 49, 50, 51, 5, 52, 53, 54, 55, 56, 57, 58, 59, 60, 61, 62, 63, 64, 65, 66, 67, 68, 69, 70, 71, 72, 73, 74, 75, 76, 77, 78, 79, 80, 81, 82, 83, 84, 85, 86, 87, 88, 89, 90, 91, 92, 93, 94, 95, 96, 97, 98, 99, 100, 101, 102, 103, 104, 105, 106, 107, 108, 109, 110, 111, 112, 113, 114, 115, 116, 117, 118, 119, 120, 121, 122, 123, 124, 125, 126, 127, 128, 129, 130, 131, 132, 133, 134, 135, 136, 137, 138, 139, 140, 145, 146, 147, 148, 149, 150, 151, 152, 153, 154, 155, 156, 157, 158, 159, 160, 161, 162, 163, 164, 165, 166, 167, 168] (by decide +kernel) (by decide +kernel)
set_option maxRecDepth 20000 in
theorem gX6_faultOfUse_X2_find : GoodIn wsX6_faultOfUse (wsV RX6 135 RX2 yX2_find wsX2_find) := goodIn_app (goodIn_of _ (by decide +kernel)) ggX6_faultOfUse_X2_find
theorem dX6_faultOfUse_0 : decode cX6_faultOfUse 0 = .ok (.iload_n 1, 1) := by decide +kernel
theorem dX6_faultOfUse_1 : decode cX6_faultOfUse 1 = .ok (.iload_n 2, 1) := by decide +kernel
theorem dX6_faultOfUse_2 : decode cX6_faultOfUse 2 = .ok (.iload_n 3, 1) := by decide +kernel
theorem dX6_faultOfUse_3 : decode cX6_faultOfUse 3 = .ok (.invokestatic 86, 3) := by decide +kernel
theorem dX6_faultOfUse_6 : decode cX6_faultOfUse 6 = .ok (.istore 4, 2) := by decide +kernel
theorem dX6_faultOfUse_8 : decode cX6_faultOfUse 8 = .ok (.iload 4, 2) := by decide +kernel
theorem dX6_faultOfUse_10 : decode cX6_faultOfUse 10 = .ok (.ifCond .eq 6, 3) := by decide +kernel
theorem dX6_faultOfUse_13 : decode cX6_faultOfUse 13 = .ok (.iload 4, 2) := by decide +kernel
theorem dX6_faultOfUse_15 : decode cX6_faultOfUse 15 = .ok (.ireturn, 1) := by decide +kernel
theorem dX6_faultOfUse_16 : decode cX6_faultOfUse 16 = .ok (.aload_n 0, 1) := by decide +kernel
theorem dX6_faultOfUse_17 : decode cX6_faultOfUse 17 = .ok (.getfield 33, 3) := by decide +kernel
theorem dX6_faultOfUse_20 : decode cX6_faultOfUse 20 = .ok (.aload_n 0, 1) := by decide +kernel
theorem dX6_faultOfUse_21 : decode cX6_faultOfUse 21 = .ok (.getfield 12, 3) := by decide +kernel
theorem dX6_faultOfUse_24 : decode cX6_faultOfUse 24 = .ok (.iload_n 1, 1) := by decide +kernel
theorem dX6_faultOfUse_25 : decode cX6_faultOfUse 25 = .ok (.iload_n 2, 1) := by decide +kernel
theorem dX6_faultOfUse_26 : decode cX6_faultOfUse 26 = .ok (.iload_n 3, 1) := by decide +kernel
theorem dX6_faultOfUse_27 : decode cX6_faultOfUse 27 = .ok (.invokestatic 55, 3) := by decide +kernel
theorem dX6_faultOfUse_30 : decode cX6_faultOfUse 30 = .ok (.invokevirtual 135, 3) := by decide +kernel
theorem dX6_faultOfUse_33 : decode cX6_faultOfUse 33 = .ok (.aload_n 0, 1) := by decide +kernel
theorem dX6_faultOfUse_34 : decode cX6_faultOfUse 34 = .ok (.getfield 33, 3) := by decide +kernel
theorem dX6_faultOfUse_37 : decode cX6_faultOfUse 37 = .ok (.getfield 62, 3) := by decide +kernel
theorem dX6_faultOfUse_40 : decode cX6_faultOfUse 40 = .ok (.iconst (-1), 1) := by decide +kernel
theorem dX6_faultOfUse_41 : decode cX6_faultOfUse 41 = .ok (.if_icmp .ne 7, 3) := by decide +kernel
theorem dX6_faultOfUse_44 : decode cX6_faultOfUse 44 = .ok (.iconst 3, 1) := by decide +kernel
theorem dX6_faultOfUse_45 : decode cX6_faultOfUse 45 = .ok (.goto 4, 3) := by decide +kernel
theorem dX6_faultOfUse_48 : decode cX6_faultOfUse 48 = .ok (.iconst 0, 1) := by decide +kernel
theorem dX6_faultOfUse_49 : decode cX6_faultOfUse 49 = .ok (.ireturn, 1) := by decide +kernel
set_option maxRecDepth 20000 in
theorem ggX6_faultOfDrop_X6_faultOfLetter : GoodIn wsX6_faultOfDrop wsX6_faultOfLetter := goodIn_r _ [5, 6, 7, 4, 8, 9, 10, 11] (by decide +kernel) (by decide +kernel)
set_option maxRecDepth 20000 in
theorem gX6_faultOfDrop_X6_faultOfLetter : GoodIn wsX6_faultOfDrop (va_wsS RX6 86 yX6_faultOfLetter wsX6_faultOfLetter) := goodIn_app (goodIn_of _ (by decide +kernel)) ggX6_faultOfDrop_X6_faultOfLetter
set_option maxRecDepth 20000 in
theorem ggX6_faultOfDrop_X6_letterNumber : GoodIn wsX6_faultOfDrop wsX6_letterNumber := goodIn_r _ [14] (by decide +kernel) (by decide +kernel)
set_option maxRecDepth 20000 in
theorem gX6_faultOfDrop_X6_letterNumber : GoodIn wsX6_faultOfDrop (va_wsS RX6 55 yX6_letterNumber wsX6_letterNumber) := goodIn_app (goodIn_of _ (by decide +kernel)) ggX6_faultOfDrop_X6_letterNumber
set_option maxRecDepth 20000 in
theorem ggX6_faultOfDrop_X4_isThere : GoodIn wsX6_faultOfDrop wsX4_isThere := goodIn_r _ [19, 20, 21, 22, 23, 24, 25, 26, 31, 32, 33, 34, 35, 36, 37, 38, 39, 40, 41, 42, 43, 44, 45, 46, 47, 48, 49] (by decide +kernel) (by decide +kernel)
set_option maxRecDepth 20000 in
theorem gX6_faultOfDrop_X4_isThere : GoodIn wsX6_faultOfDrop (wsV RX6 234 RX4 yX4_isThere wsX4_isThere) := goodIn_app (goodIn_of _ (by decide +kernel)) ggX6_faultOfDrop_X4_isThere
theorem dX6_faultOfDrop_0 : decode cX6_faultOfDrop 0 = .ok (.iload_n 1, 1) := by decide +kernel
theorem dX6_faultOfDrop_1 : decode cX6_faultOfDrop 1 = .ok (.iload_n 2, 1) := by decide +kernel
theorem dX6_faultOfDrop_2 : decode cX6_faultOfDrop 2 = .ok (.iload_n 3, 1) := by decide +kernel
theorem dX6_faultOfDrop_3 : decode cX6_faultOfDrop 3 = .ok (.invokestatic 86, 3) := by decide +kernel
theorem dX6_faultOfDrop_6 : decode cX6_faultOfDrop 6 = .ok (.istore 4, 2) := by decide +kernel
theorem dX6_faultOfDrop_8 : decode cX6_faultOfDrop 8 = .ok (.iload 4, 2) := by decide +kernel
theorem dX6_faultOfDrop_10 : decode cX6_faultOfDrop 10 = .ok (.ifCond .eq 6, 3) := by decide +kernel
theorem dX6_faultOfDrop_13 : decode cX6_faultOfDrop 13 = .ok (.iload 4, 2) := by decide +kernel
theorem dX6_faultOfDrop_15 : decode cX6_faultOfDrop 15 = .ok (.ireturn, 1) := by decide +kernel
theorem dX6_faultOfDrop_16 : decode cX6_faultOfDrop 16 = .ok (.aload_n 0, 1) := by decide +kernel
theorem dX6_faultOfDrop_17 : decode cX6_faultOfDrop 17 = .ok (.getfield 12, 3) := by decide +kernel
theorem dX6_faultOfDrop_20 : decode cX6_faultOfDrop 20 = .ok (.iload_n 1, 1) := by decide +kernel
theorem dX6_faultOfDrop_21 : decode cX6_faultOfDrop 21 = .ok (.iload_n 2, 1) := by decide +kernel
theorem dX6_faultOfDrop_22 : decode cX6_faultOfDrop 22 = .ok (.iload_n 3, 1) := by decide +kernel
theorem dX6_faultOfDrop_23 : decode cX6_faultOfDrop 23 = .ok (.invokestatic 55, 3) := by decide +kernel
theorem dX6_faultOfDrop_26 : decode cX6_faultOfDrop 26 = .ok (.invokevirtual 234, 3) := by decide +kernel
theorem dX6_faultOfDrop_29 : decode cX6_faultOfDrop 29 = .ok (.ifCond .eq 7, 3) := by decide +kernel
theorem dX6_faultOfDrop_32 : decode cX6_faultOfDrop 32 = .ok (.iconst 0, 1) := by decide +kernel
theorem dX6_faultOfDrop_33 : decode cX6_faultOfDrop 33 = .ok (.goto 4, 3) := by decide +kernel
theorem dX6_faultOfDrop_36 : decode cX6_faultOfDrop 36 = .ok (.iconst 3, 1) := by decide +kernel
theorem dX6_faultOfDrop_37 : decode cX6_faultOfDrop 37 = .ok (.ireturn, 1) := by decide +kernel
theorem dX6_faultOfAddTray_0 : decode cX6_faultOfAddTray 0 = .ok (.aload_n 0, 1) := by decide +kernel
theorem dX6_faultOfAddTray_1 : decode cX6_faultOfAddTray 1 = .ok (.getfield 12, 3) := by decide +kernel
theorem dX6_faultOfAddTray_4 : decode cX6_faultOfAddTray 4 = .ok (.getfield 187, 3) := by decide +kernel
theorem dX6_faultOfAddTray_7 : decode cX6_faultOfAddTray 7 = .ok (.iconst 3, 1) := by decide +kernel
theorem dX6_faultOfAddTray_8 : decode cX6_faultOfAddTray 8 = .ok (.if_icmp .ge 7, 3) := by decide +kernel
theorem dX6_faultOfAddTray_11 : decode cX6_faultOfAddTray 11 = .ok (.iconst 0, 1) := by decide +kernel
theorem dX6_faultOfAddTray_12 : decode cX6_faultOfAddTray 12 = .ok (.goto 4, 3) := by decide +kernel
theorem dX6_faultOfAddTray_15 : decode cX6_faultOfAddTray 15 = .ok (.iconst 3, 1) := by decide +kernel
theorem dX6_faultOfAddTray_16 : decode cX6_faultOfAddTray 16 = .ok (.ireturn, 1) := by decide +kernel
set_option maxRecDepth 20000 in
theorem ggX6_faultOfLetter_X6_isSign : GoodIn wsX6_faultOfLetter wsX6_isSign := goodIn_r _ [4, 5, 6, 3, 7] (by decide +kernel) (by decide +kernel)
set_option maxRecDepth 20000 in
theorem gX6_faultOfLetter_X6_isSign : GoodIn wsX6_faultOfLetter (va_wsS RX6 96 yX6_isSign wsX6_isSign) := goodIn_app (goodIn_of _ (by decide +kernel)) ggX6_faultOfLetter_X6_isSign
set_option maxRecDepth 20000 in
theorem ggX6_faultOfLetter_X6_isBetween : GoodIn wsX6_faultOfLetter wsX6_isBetween := goodIn_r _ [7] (by decide +kernel) (by decide +kernel)
set_option maxRecDepth 20000 in
theorem gX6_faultOfLetter_X6_isBetween : GoodIn wsX6_faultOfLetter (va_wsS RX6 116 yX6_isBetween wsX6_isBetween) := goodIn_app (goodIn_of _ (by decide +kernel)) ggX6_faultOfLetter_X6_isBetween
theorem dX6_faultOfLetter_0 : decode cX6_faultOfLetter 0 = .ok (.iload_n 0, 1) := by decide +kernel
theorem dX6_faultOfLetter_1 : decode cX6_faultOfLetter 1 = .ok (.invokestatic 96, 3) := by decide +kernel
theorem dX6_faultOfLetter_4 : decode cX6_faultOfLetter 4 = .ok (.ifCond .ne 5, 3) := by decide +kernel
theorem dX6_faultOfLetter_7 : decode cX6_faultOfLetter 7 = .ok (.iconst 1, 1) := by decide +kernel
theorem dX6_faultOfLetter_8 : decode cX6_faultOfLetter 8 = .ok (.ireturn, 1) := by decide +kernel
theorem dX6_faultOfLetter_9 : decode cX6_faultOfLetter 9 = .ok (.iload_n 1, 1) := by decide +kernel
theorem dX6_faultOfLetter_10 : decode cX6_faultOfLetter 10 = .ok (.iconst 1, 1) := by decide +kernel
theorem dX6_faultOfLetter_11 : decode cX6_faultOfLetter 11 = .ok (.iconst 3, 1) := by decide +kernel
theorem dX6_faultOfLetter_12 : decode cX6_faultOfLetter 12 = .ok (.invokestatic 116, 3) := by decide +kernel
theorem dX6_faultOfLetter_15 : decode cX6_faultOfLetter 15 = .ok (.ifCond .eq 16, 3) := by decide +kernel
theorem dX6_faultOfLetter_18 : decode cX6_faultOfLetter 18 = .ok (.iload_n 2, 1) := by decide +kernel
theorem dX6_faultOfLetter_19 : decode cX6_faultOfLetter 19 = .ok (.iconst 0, 1) := by decide +kernel
theorem dX6_faultOfLetter_20 : decode cX6_faultOfLetter 20 = .ok (.iconst 2, 1) := by decide +kernel
theorem dX6_faultOfLetter_21 : decode cX6_faultOfLetter 21 = .ok (.invokestatic 116, 3) := by decide +kernel
theorem dX6_faultOfLetter_24 : decode cX6_faultOfLetter 24 = .ok (.ifCond .eq 7, 3) := by decide +kernel
theorem dX6_faultOfLetter_27 : decode cX6_faultOfLetter 27 = .ok (.iconst 0, 1) := by decide +kernel
theorem dX6_faultOfLetter_28 : decode cX6_faultOfLetter 28 = .ok (.goto 4, 3) := by decide +kernel
theorem dX6_faultOfLetter_31 : decode cX6_faultOfLetter 31 = .ok (.iconst 2, 1) := by decide +kernel
theorem dX6_faultOfLetter_32 : decode cX6_faultOfLetter 32 = .ok (.ireturn, 1) := by decide +kernel
set_option maxRecDepth 20000 in
theorem ggX6_faultOfWhat_X6_isBetween : GoodIn wsX6_faultOfWhat wsX6_isBetween := goodIn_r _ [4] (by decide +kernel) (by decide +kernel)
set_option maxRecDepth 20000 in
theorem gX6_faultOfWhat_X6_isBetween : GoodIn wsX6_faultOfWhat (va_wsS RX6 116 yX6_isBetween wsX6_isBetween) := goodIn_app (goodIn_of _ (by decide +kernel)) ggX6_faultOfWhat_X6_isBetween
theorem dX6_faultOfWhat_0 : decode cX6_faultOfWhat 0 = .ok (.iload_n 0, 1) := by decide +kernel
theorem dX6_faultOfWhat_1 : decode cX6_faultOfWhat 1 = .ok (.iconst 0, 1) := by decide +kernel
theorem dX6_faultOfWhat_2 : decode cX6_faultOfWhat 2 = .ok (.iload_n 1, 1) := by decide +kernel
theorem dX6_faultOfWhat_3 : decode cX6_faultOfWhat 3 = .ok (.iconst 1, 1) := by decide +kernel
theorem dX6_faultOfWhat_4 : decode cX6_faultOfWhat 4 = .ok (.isub, 1) := by decide +kernel
theorem dX6_faultOfWhat_5 : decode cX6_faultOfWhat 5 = .ok (.invokestatic 116, 3) := by decide +kernel
theorem dX6_faultOfWhat_8 : decode cX6_faultOfWhat 8 = .ok (.ifCond .eq 7, 3) := by decide +kernel
theorem dX6_faultOfWhat_11 : decode cX6_faultOfWhat 11 = .ok (.iconst 0, 1) := by decide +kernel
theorem dX6_faultOfWhat_12 : decode cX6_faultOfWhat 12 = .ok (.goto 4, 3) := by decide +kernel
theorem dX6_faultOfWhat_15 : decode cX6_faultOfWhat 15 = .ok (.iconst 2, 1) := by decide +kernel
theorem dX6_faultOfWhat_16 : decode cX6_faultOfWhat 16 = .ok (.ireturn, 1) := by decide +kernel
set_option maxRecDepth 20000 in
theorem ggX6_isSign_X6_isBetween : GoodIn wsX6_isSign wsX6_isBetween := goodIn_r _ [4] (by decide +kernel) (by decide +kernel)
set_option maxRecDepth 20000 in
theorem gX6_isSign_X6_isBetween : GoodIn wsX6_isSign (va_wsS RX6 116 yX6_isBetween wsX6_isBetween) := goodIn_app (goodIn_of _ (by decide +kernel)) ggX6_isSign_X6_isBetween
theorem dX6_isSign_0 : decode cX6_isSign 0 = .ok (.iload_n 0, 1) := by decide +kernel
theorem dX6_isSign_1 : decode cX6_isSign 1 = .ok (.iconst 0, 1) := by decide +kernel
theorem dX6_isSign_2 : decode cX6_isSign 2 = .ok (.bipush 15, 2) := by decide +kernel
theorem dX6_isSign_4 : decode cX6_isSign 4 = .ok (.invokestatic 116, 3) := by decide +kernel
theorem dX6_isSign_7 : decode cX6_isSign 7 = .ok (.ireturn, 1) := by decide +kernel
set_option maxRecDepth 20000 in
theorem ggX6_isTray_X6_isBetween : GoodIn wsX6_isTray wsX6_isBetween := goodIn_r _ [5] (by decide +kernel) (by decide +kernel)
set_option maxRecDepth 20000 in
theorem gX6_isTray_X6_isBetween : GoodIn wsX6_isTray (va_wsS RX6 116 yX6_isBetween wsX6_isBetween) := goodIn_app (goodIn_of _ (by decide +kernel)) ggX6_isTray_X6_isBetween
theorem dX6_isTray_0 : decode cX6_isTray 0 = .ok (.iload_n 1, 1) := by decide +kernel
theorem dX6_isTray_1 : decode cX6_isTray 1 = .ok (.iconst 0, 1) := by decide +kernel
theorem dX6_isTray_2 : decode cX6_isTray 2 = .ok (.aload_n 0, 1) := by decide +kernel
theorem dX6_isTray_3 : decode cX6_isTray 3 = .ok (.getfield 12, 3) := by decide +kernel
theorem dX6_isTray_6 : decode cX6_isTray 6 = .ok (.getfield 187, 3) := by decide +kernel
theorem dX6_isTray_9 : decode cX6_isTray 9 = .ok (.iconst 1, 1) := by decide +kernel
theorem dX6_isTray_10 : decode cX6_isTray 10 = .ok (.isub, 1) := by decide +kernel
theorem dX6_isTray_11 : decode cX6_isTray 11 = .ok (.invokestatic 116, 3) := by decide +kernel
theorem dX6_isTray_14 : decode cX6_isTray 14 = .ok (.ireturn, 1) := by decide +kernel
set_option maxRecDepth 20000 in
theorem ggX6_isShelf_X4_countShelves : GoodIn wsX6_isShelf wsX4_countShelves := goodIn_r _ [6, 7, 8, 9, 10, 11, 12, 13, 22, 23, 24, 25, 26, 27, 28, 29, 30, 31, 32, 33, 34, 35, 36, 37, 38, 39, 40] (by decide +kernel) (by decide +kernel)
set_option maxRecDepth 20000 in
theorem gX6_isShelf_X4_countShelves : GoodIn wsX6_isShelf (wsV RX6 208 RX4 yX4_countShelves wsX4_countShelves) := goodIn_app (goodIn_of _ (by decide +kernel)) ggX6_isShelf_X4_countShelves
set_option maxRecDepth 20000 in
theorem ggX6_isShelf_X6_isBetween : GoodIn wsX6_isShelf wsX6_isBetween := goodIn_r _ [17] (by decide +kernel) (by decide +kernel)
set_option maxRecDepth 20000 in
theorem gX6_isShelf_X6_isBetween : GoodIn wsX6_isShelf (va_wsS RX6 116 yX6_isBetween wsX6_isBetween) := goodIn_app (goodIn_of _ (by decide +kernel)) ggX6_isShelf_X6_isBetween
theorem dX6_isShelf_0 : decode cX6_isShelf 0 = .ok (.iload_n 2, 1) := by decide +kernel
theorem dX6_isShelf_1 : decode cX6_isShelf 1 = .ok (.iconst 0, 1) := by decide +kernel
theorem dX6_isShelf_2 : decode cX6_isShelf 2 = .ok (.aload_n 0, 1) := by decide +kernel
theorem dX6_isShelf_3 : decode cX6_isShelf 3 = .ok (.getfield 12, 3) := by decide +kernel
theorem dX6_isShelf_6 : decode cX6_isShelf 6 = .ok (.iload_n 1, 1) := by decide +kernel
theorem dX6_isShelf_7 : decode cX6_isShelf 7 = .ok (.invokevirtual 208, 3) := by decide +kernel
theorem dX6_isShelf_10 : decode cX6_isShelf 10 = .ok (.iconst 1, 1) := by decide +kernel
theorem dX6_isShelf_11 : decode cX6_isShelf 11 = .ok (.isub, 1) := by decide +kernel
theorem dX6_isShelf_12 : decode cX6_isShelf 12 = .ok (.invokestatic 116, 3) := by decide +kernel
theorem dX6_isShelf_15 : decode cX6_isShelf 15 = .ok (.ireturn, 1) := by decide +kernel
theorem dX6_isBetween_0 : decode cX6_isBetween 0 = .ok (.iload_n 0, 1) := by decide +kernel
theorem dX6_isBetween_1 : decode cX6_isBetween 1 = .ok (.iload_n 1, 1) := by decide +kernel
theorem dX6_isBetween_2 : decode cX6_isBetween 2 = .ok (.if_icmp .lt 12, 3) := by decide +kernel
theorem dX6_isBetween_5 : decode cX6_isBetween 5 = .ok (.iload_n 0, 1) := by decide +kernel
theorem dX6_isBetween_6 : decode cX6_isBetween 6 = .ok (.iload_n 2, 1) := by decide +kernel
theorem dX6_isBetween_7 : decode cX6_isBetween 7 = .ok (.if_icmp .gt 7, 3) := by decide +kernel
theorem dX6_isBetween_10 : decode cX6_isBetween 10 = .ok (.iconst 1, 1) := by decide +kernel
theorem dX6_isBetween_11 : decode cX6_isBetween 11 = .ok (.goto 4, 3) := by decide +kernel
theorem dX6_isBetween_14 : decode cX6_isBetween 14 = .ok (.iconst 0, 1) := by decide +kernel
theorem dX6_isBetween_15 : decode cX6_isBetween 15 = .ok (.ireturn, 1) := by decide +kernel
theorem dX6_letterNumber_0 : decode cX6_letterNumber 0 = .ok (.iload_n 0, 1) := by decide +kernel
theorem dX6_letterNumber_1 : decode cX6_letterNumber 1 = .ok (.iconst 3, 1) := by decide +kernel
theorem dX6_letterNumber_2 : decode cX6_letterNumber 2 = .ok (.imul, 1) := by decide +kernel
theorem dX6_letterNumber_3 : decode cX6_letterNumber 3 = .ok (.iload_n 1, 1) := by decide +kernel
theorem dX6_letterNumber_4 : decode cX6_letterNumber 4 = .ok (.iadd, 1) := by decide +kernel
theorem dX6_letterNumber_5 : decode cX6_letterNumber 5 = .ok (.iconst 1, 1) := by decide +kernel
theorem dX6_letterNumber_6 : decode cX6_letterNumber 6 = .ok (.isub, 1) := by decide +kernel
theorem dX6_letterNumber_7 : decode cX6_letterNumber 7 = .ok (.iconst 3, 1) := by decide +kernel
theorem dX6_letterNumber_8 : decode cX6_letterNumber 8 = .ok (.imul, 1) := by decide +kernel
theorem dX6_letterNumber_9 : decode cX6_letterNumber 9 = .ok (.iload_n 2, 1) := by decide +kernel
theorem dX6_letterNumber_10 : decode cX6_letterNumber 10 = .ok (.iadd, 1) := by decide +kernel
theorem dX6_letterNumber_11 : decode cX6_letterNumber 11 = .ok (.ireturn, 1) := by decide +kernel
theorem dX6_signOf_0 : decode cX6_signOf 0 = .ok (.iload_n 0, 1) := by decide +kernel
theorem dX6_signOf_1 : decode cX6_signOf 1 = .ok (.bipush 9, 2) := by decide +kernel
theorem dX6_signOf_3 : decode cX6_signOf 3 = .ok (.idiv, 1) := by decide +kernel
theorem dX6_signOf_4 : decode cX6_signOf 4 = .ok (.ireturn, 1) := by decide +kernel
theorem dX6_sizeOf_0 : decode cX6_sizeOf 0 = .ok (.iload_n 0, 1) := by decide +kernel
theorem dX6_sizeOf_1 : decode cX6_sizeOf 1 = .ok (.iconst 3, 1) := by decide +kernel
theorem dX6_sizeOf_2 : decode cX6_sizeOf 2 = .ok (.idiv, 1) := by decide +kernel
theorem dX6_sizeOf_3 : decode cX6_sizeOf 3 = .ok (.iconst 3, 1) := by decide +kernel
theorem dX6_sizeOf_4 : decode cX6_sizeOf 4 = .ok (.irem, 1) := by decide +kernel
theorem dX6_sizeOf_5 : decode cX6_sizeOf 5 = .ok (.iconst 1, 1) := by decide +kernel
theorem dX6_sizeOf_6 : decode cX6_sizeOf 6 = .ok (.iadd, 1) := by decide +kernel
theorem dX6_sizeOf_7 : decode cX6_sizeOf 7 = .ok (.ireturn, 1) := by decide +kernel
theorem dX6_blurOf_0 : decode cX6_blurOf 0 = .ok (.iload_n 0, 1) := by decide +kernel
theorem dX6_blurOf_1 : decode cX6_blurOf 1 = .ok (.iconst 3, 1) := by decide +kernel
theorem dX6_blurOf_2 : decode cX6_blurOf 2 = .ok (.irem, 1) := by decide +kernel
theorem dX6_blurOf_3 : decode cX6_blurOf 3 = .ok (.ireturn, 1) := by decide +kernel
set_option maxRecDepth 20000 in
theorem ggX6_codeOf_X6_signOf : GoodIn wsX6_codeOf wsX6_signOf := goodIn_r _ [4] (by decide +kernel) (by decide +kernel)
set_option maxRecDepth 20000 in
theorem gX6_codeOf_X6_signOf : GoodIn wsX6_codeOf (va_wsS RX6 237 yX6_signOf wsX6_signOf) := goodIn_app (goodIn_of _ (by decide +kernel)) ggX6_codeOf_X6_signOf
set_option maxRecDepth 20000 in
theorem ggX6_codeOf_X6_sizeOf : GoodIn wsX6_codeOf wsX6_sizeOf := goodIn_r _ [7] (by decide +kernel) (by decide +kernel)
set_option maxRecDepth 20000 in
theorem gX6_codeOf_X6_sizeOf : GoodIn wsX6_codeOf (va_wsS RX6 240 yX6_sizeOf wsX6_sizeOf) := goodIn_app (goodIn_of _ (by decide +kernel)) ggX6_codeOf_X6_sizeOf
set_option maxRecDepth 20000 in
theorem ggX6_codeOf_X6_blurOf : GoodIn wsX6_codeOf wsX6_blurOf := goodIn_r _ [10] (by decide +kernel) (by decide +kernel)
set_option maxRecDepth 20000 in
theorem gX6_codeOf_X6_blurOf : GoodIn wsX6_codeOf (va_wsS RX6 243 yX6_blurOf wsX6_blurOf) := goodIn_app (goodIn_of _ (by decide +kernel)) ggX6_codeOf_X6_blurOf
