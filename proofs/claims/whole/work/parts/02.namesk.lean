theorem dJ0_charAt_5068e_0 : decode cJ0_charAt_5068e 0 = .ok (.aload_n 0, 1) := by decide +kernel
theorem dJ0_charAt_5068e_1 : decode cJ0_charAt_5068e 1 = .ok (.invokevirtual 492, 3) := by decide +kernel
theorem dJ0_charAt_5068e_4 : decode cJ0_charAt_5068e 4 = .ok (.ifCond .eq 12, 3) := by decide +kernel
theorem dJ0_charAt_5068e_7 : decode cJ0_charAt_5068e 7 = .ok (.aload_n 0, 1) := by decide +kernel
theorem dJ0_charAt_5068e_8 : decode cJ0_charAt_5068e 8 = .ok (.getfield 9, 3) := by decide +kernel
theorem dJ0_charAt_5068e_11 : decode cJ0_charAt_5068e 11 = .ok (.iload_n 1, 1) := by decide +kernel
theorem dJ0_charAt_5068e_12 : decode cJ0_charAt_5068e 12 = .ok (.invokestatic 495, 3) := by decide +kernel
theorem dJ0_charAt_5068e_15 : decode cJ0_charAt_5068e 15 = .ok (.ireturn, 1) := by decide +kernel
theorem dJ0_charAt_5068e_16 : decode cJ0_charAt_5068e 16 = .ok (.aload_n 0, 1) := by decide +kernel
theorem dJ0_charAt_5068e_17 : decode cJ0_charAt_5068e 17 = .ok (.getfield 9, 3) := by decide +kernel
theorem dJ0_charAt_5068e_20 : decode cJ0_charAt_5068e 20 = .ok (.iload_n 1, 1) := by decide +kernel
theorem dJ0_charAt_5068e_21 : decode cJ0_charAt_5068e 21 = .ok (.invokestatic 498, 3) := by decide +kernel
theorem dJ0_charAt_5068e_24 : decode cJ0_charAt_5068e 24 = .ok (.ireturn, 1) := by decide +kernel
theorem dJ0_coder_7d493_0 : decode cJ0_coder_7d493 0 = .ok (.getstatic 38, 3) := by decide +kernel
theorem dJ0_coder_7d493_3 : decode cJ0_coder_7d493 3 = .ok (.ifCond .eq 10, 3) := by decide +kernel
theorem dJ0_coder_7d493_6 : decode cJ0_coder_7d493 6 = .ok (.aload_n 0, 1) := by decide +kernel
theorem dJ0_coder_7d493_7 : decode cJ0_coder_7d493 7 = .ok (.getfield 15, 3) := by decide +kernel
theorem dJ0_coder_7d493_10 : decode cJ0_coder_7d493 10 = .ok (.goto 4, 3) := by decide +kernel
theorem dJ0_coder_7d493_13 : decode cJ0_coder_7d493 13 = .ok (.iconst 1, 1) := by decide +kernel
theorem dJ0_coder_7d493_14 : decode cJ0_coder_7d493 14 = .ok (.ireturn, 1) := by decide +kernel
theorem dJ0_isLatin1_aae02_0 : decode cJ0_isLatin1_aae02 0 = .ok (.getstatic 38, 3) := by decide +kernel
theorem dJ0_isLatin1_aae02_3 : decode cJ0_isLatin1_aae02 3 = .ok (.ifCond .eq 14, 3) := by decide +kernel
theorem dJ0_isLatin1_aae02_6 : decode cJ0_isLatin1_aae02 6 = .ok (.aload_n 0, 1) := by decide +kernel
theorem dJ0_isLatin1_aae02_7 : decode cJ0_isLatin1_aae02 7 = .ok (.getfield 15, 3) := by decide +kernel
theorem dJ0_isLatin1_aae02_10 : decode cJ0_isLatin1_aae02 10 = .ok (.ifCond .ne 7, 3) := by decide +kernel
theorem dJ0_isLatin1_aae02_13 : decode cJ0_isLatin1_aae02 13 = .ok (.iconst 1, 1) := by decide +kernel
theorem dJ0_isLatin1_aae02_14 : decode cJ0_isLatin1_aae02 14 = .ok (.goto 4, 3) := by decide +kernel
theorem dJ0_isLatin1_aae02_17 : decode cJ0_isLatin1_aae02 17 = .ok (.iconst 0, 1) := by decide +kernel
theorem dJ0_isLatin1_aae02_18 : decode cJ0_isLatin1_aae02 18 = .ok (.ireturn, 1) := by decide +kernel
set_option maxRecDepth 20000 in
theorem ggJ0_checkIndex_df160_J3_checkIndex_8e157 : GoodIn wsJ0_checkIndex_df160 wsJ3_checkIndex_8e157 := goodIn_r _ [5] (by decide +kernel) (by decide +kernel)
set_option maxRecDepth 20000 in
theorem gJ0_checkIndex_df160_J3_checkIndex_8e157 : GoodIn wsJ0_checkIndex_df160 (va_wsS RJ0 1059 yJ3_checkIndex_8e157 wsJ3_checkIndex_8e157) := goodIn_app (goodIn_of _ (by decide +kernel)) ggJ0_checkIndex_df160_J3_checkIndex_8e157
theorem dJ0_checkIndex_df160_0 : decode cJ0_checkIndex_df160 0 = .ok (.iload_n 0, 1) := by decide +kernel
theorem dJ0_checkIndex_df160_1 : decode cJ0_checkIndex_df160 1 = .ok (.iload_n 1, 1) := by decide +kernel
theorem dJ0_checkIndex_df160_2 : decode cJ0_checkIndex_df160 2 = .ok (.getstatic 1053, 3) := by decide +kernel
theorem dJ0_checkIndex_df160_5 : decode cJ0_checkIndex_df160 5 = .ok (.invokestatic 1059, 3) := by decide +kernel
theorem dJ0_checkIndex_df160_8 : decode cJ0_checkIndex_df160 8 = .ok (.pop, 1) := by decide +kernel
theorem dJ0_checkIndex_df160_9 : decode cJ0_checkIndex_df160 9 = .ok (.return_, 1) := by decide +kernel
set_option maxRecDepth 20000 in
theorem ggJ1_charAt_3b067_J0_checkIndex_df160 : GoodIn wsJ1_charAt_3b067 wsJ0_checkIndex_df160 := goodIn_r _ [4, 5, 6, 7, 8, 9] (by decide +kernel) (by decide +kernel)
set_option maxRecDepth 20000 in
theorem gJ1_charAt_3b067_J0_checkIndex_df160 : GoodIn wsJ1_charAt_3b067 (va_wsS RJ1 9 yJ0_checkIndex_df160 wsJ0_checkIndex_df160) := goodIn_app (goodIn_of _ (by decide +kernel)) ggJ1_charAt_3b067_J0_checkIndex_df160
theorem dJ1_charAt_3b067_0 : decode cJ1_charAt_3b067 0 = .ok (.iload_n 1, 1) := by decide +kernel
theorem dJ1_charAt_3b067_1 : decode cJ1_charAt_3b067 1 = .ok (.aload_n 0, 1) := by decide +kernel
theorem dJ1_charAt_3b067_2 : decode cJ1_charAt_3b067 2 = .ok (.arraylength, 1) := by decide +kernel
theorem dJ1_charAt_3b067_3 : decode cJ1_charAt_3b067 3 = .ok (.invokestatic 9, 3) := by decide +kernel
theorem dJ1_charAt_3b067_6 : decode cJ1_charAt_3b067 6 = .ok (.aload_n 0, 1) := by decide +kernel
theorem dJ1_charAt_3b067_7 : decode cJ1_charAt_3b067 7 = .ok (.iload_n 1, 1) := by decide +kernel
theorem dJ1_charAt_3b067_8 : decode cJ1_charAt_3b067 8 = .ok (.baload, 1) := by decide +kernel
theorem dJ1_charAt_3b067_9 : decode cJ1_charAt_3b067 9 = .ok (.sipush 255, 3) := by decide +kernel
theorem dJ1_charAt_3b067_12 : decode cJ1_charAt_3b067 12 = .ok (.iand, 1) := by decide +kernel
theorem dJ1_charAt_3b067_13 : decode cJ1_charAt_3b067 13 = .ok (.i2c, 1) := by decide +kernel
theorem dJ1_charAt_3b067_14 : decode cJ1_charAt_3b067 14 = .ok (.ireturn, 1) := by decide +kernel
set_option maxRecDepth 20000 in
theorem ggJ2_getChar_3b067_J2_length_9d52b : GoodIn wsJ2_getChar_3b067 wsJ2_length_9d52b := goodIn_r _ [7] (by decide +kernel) (by decide +kernel)
set_option maxRecDepth 20000 in
theorem gJ2_getChar_3b067_J2_length_9d52b : GoodIn wsJ2_getChar_3b067 (va_wsS RJ2 48 yJ2_length_9d52b wsJ2_length_9d52b) := goodIn_app (goodIn_of _ (by decide +kernel)) ggJ2_getChar_3b067_J2_length_9d52b
theorem dJ2_getChar_3b067_0 : decode cJ2_getChar_3b067 0 = .ok (.getstatic 44, 3) := by decide +kernel
theorem dJ2_getChar_3b067_3 : decode cJ2_getChar_3b067 3 = .ok (.ifCond .ne 25, 3) := by decide +kernel
theorem dJ2_getChar_3b067_6 : decode cJ2_getChar_3b067 6 = .ok (.iload_n 1, 1) := by decide +kernel
theorem dJ2_getChar_3b067_7 : decode cJ2_getChar_3b067 7 = .ok (.ifCond .lt 11, 3) := by decide +kernel
theorem dJ2_getChar_3b067_10 : decode cJ2_getChar_3b067 10 = .ok (.iload_n 1, 1) := by decide +kernel
theorem dJ2_getChar_3b067_11 : decode cJ2_getChar_3b067 11 = .ok (.aload_n 0, 1) := by decide +kernel
theorem dJ2_getChar_3b067_12 : decode cJ2_getChar_3b067 12 = .ok (.invokestatic 48, 3) := by decide +kernel
theorem dJ2_getChar_3b067_15 : decode cJ2_getChar_3b067 15 = .ok (.if_icmp .lt 13, 3) := by decide +kernel
theorem dJ2_getChar_3b067_18 : decode cJ2_getChar_3b067 18 = .ok (.new 52, 3) := by decide +kernel
theorem dJ2_getChar_3b067_21 : decode cJ2_getChar_3b067 21 = .ok (.dup, 1) := by decide +kernel
theorem dJ2_getChar_3b067_22 : decode cJ2_getChar_3b067 22 = .ok (.ldc 54, 2) := by decide +kernel
theorem dJ2_getChar_3b067_24 : decode cJ2_getChar_3b067 24 = .ok (.invokespecial 56, 3) := by decide +kernel
theorem dJ2_getChar_3b067_27 : decode cJ2_getChar_3b067 27 = .ok (.athrow, 1) := by decide +kernel
theorem dJ2_getChar_3b067_28 : decode cJ2_getChar_3b067 28 = .ok (.iload_n 1, 1) := by decide +kernel
theorem dJ2_getChar_3b067_29 : decode cJ2_getChar_3b067 29 = .ok (.iconst 1, 1) := by decide +kernel
theorem dJ2_getChar_3b067_30 : decode cJ2_getChar_3b067 30 = .ok (.ishl, 1) := by decide +kernel
theorem dJ2_getChar_3b067_31 : decode cJ2_getChar_3b067 31 = .ok (.istore_n 1, 1) := by decide +kernel
theorem dJ2_getChar_3b067_32 : decode cJ2_getChar_3b067 32 = .ok (.aload_n 0, 1) := by decide +kernel
theorem dJ2_getChar_3b067_33 : decode cJ2_getChar_3b067 33 = .ok (.iload_n 1, 1) := by decide +kernel
theorem dJ2_getChar_3b067_34 : decode cJ2_getChar_3b067 34 = .ok (.iinc 1 1, 3) := by decide +kernel
theorem dJ2_getChar_3b067_37 : decode cJ2_getChar_3b067 37 = .ok (.baload, 1) := by decide +kernel
theorem dJ2_getChar_3b067_38 : decode cJ2_getChar_3b067 38 = .ok (.sipush 255, 3) := by decide +kernel
theorem dJ2_getChar_3b067_41 : decode cJ2_getChar_3b067 41 = .ok (.iand, 1) := by decide +kernel
theorem dJ2_getChar_3b067_42 : decode cJ2_getChar_3b067 42 = .ok (.getstatic 59, 3) := by decide +kernel
theorem dJ2_getChar_3b067_45 : decode cJ2_getChar_3b067 45 = .ok (.ishl, 1) := by decide +kernel
theorem dJ2_getChar_3b067_46 : decode cJ2_getChar_3b067 46 = .ok (.aload_n 0, 1) := by decide +kernel
theorem dJ2_getChar_3b067_47 : decode cJ2_getChar_3b067 47 = .ok (.iload_n 1, 1) := by decide +kernel
theorem dJ2_getChar_3b067_48 : decode cJ2_getChar_3b067 48 = .ok (.baload, 1) := by decide +kernel
theorem dJ2_getChar_3b067_49 : decode cJ2_getChar_3b067 49 = .ok (.sipush 255, 3) := by decide +kernel
theorem dJ2_getChar_3b067_52 : decode cJ2_getChar_3b067 52 = .ok (.iand, 1) := by decide +kernel
theorem dJ2_getChar_3b067_53 : decode cJ2_getChar_3b067 53 = .ok (.getstatic 63, 3) := by decide +kernel
theorem dJ2_getChar_3b067_56 : decode cJ2_getChar_3b067 56 = .ok (.ishl, 1) := by decide +kernel
theorem dJ2_getChar_3b067_57 : decode cJ2_getChar_3b067 57 = .ok (.ior, 1) := by decide +kernel
theorem dJ2_getChar_3b067_58 : decode cJ2_getChar_3b067 58 = .ok (.i2c, 1) := by decide +kernel
theorem dJ2_getChar_3b067_59 : decode cJ2_getChar_3b067 59 = .ok (.ireturn, 1) := by decide +kernel
theorem dJ2_length_9d52b_0 : decode cJ2_length_9d52b 0 = .ok (.aload_n 0, 1) := by decide +kernel
theorem dJ2_length_9d52b_1 : decode cJ2_length_9d52b 1 = .ok (.arraylength, 1) := by decide +kernel
theorem dJ2_length_9d52b_2 : decode cJ2_length_9d52b 2 = .ok (.iconst 1, 1) := by decide +kernel
theorem dJ2_length_9d52b_3 : decode cJ2_length_9d52b 3 = .ok (.ishr, 1) := by decide +kernel
theorem dJ2_length_9d52b_4 : decode cJ2_length_9d52b 4 = .ok (.ireturn, 1) := by decide +kernel
set_option maxRecDepth 20000 in
theorem ggJ2_charAt_3b067_J2_checkIndex_2214a : GoodIn wsJ2_charAt_3b067 wsJ2_checkIndex_2214a := goodIn_r _ [4, 5, 6, 3, 7, 8, 9, 10, 11, 12, 13, 14, 15, 16] (by decide +kernel) (by decide +kernel)
set_option maxRecDepth 20000 in
theorem gJ2_charAt_3b067_J2_checkIndex_2214a : GoodIn wsJ2_charAt_3b067 (va_wsS RJ2 67 yJ2_checkIndex_2214a wsJ2_checkIndex_2214a) := goodIn_app (goodIn_of _ (by decide +kernel)) ggJ2_charAt_3b067_J2_checkIndex_2214a
set_option maxRecDepth 20000 in
theorem ggJ2_charAt_3b067_J2_getChar_3b067 : GoodIn wsJ2_charAt_3b067 wsJ2_getChar_3b067 := goodIn_r _ [19, 20, 21, 22, 5, 6, 3, 7] (by decide +kernel) (by decide +kernel)
set_option maxRecDepth 20000 in
theorem gJ2_charAt_3b067_J2_getChar_3b067 : GoodIn wsJ2_charAt_3b067 (va_wsS RJ2 71 yJ2_getChar_3b067 wsJ2_getChar_3b067) := goodIn_app (goodIn_of _ (by decide +kernel)) ggJ2_charAt_3b067_J2_getChar_3b067
theorem dJ2_charAt_3b067_0 : decode cJ2_charAt_3b067 0 = .ok (.iload_n 1, 1) := by decide +kernel
theorem dJ2_charAt_3b067_1 : decode cJ2_charAt_3b067 1 = .ok (.aload_n 0, 1) := by decide +kernel
theorem dJ2_charAt_3b067_2 : decode cJ2_charAt_3b067 2 = .ok (.invokestatic 67, 3) := by decide +kernel
theorem dJ2_charAt_3b067_5 : decode cJ2_charAt_3b067 5 = .ok (.aload_n 0, 1) := by decide +kernel
theorem dJ2_charAt_3b067_6 : decode cJ2_charAt_3b067 6 = .ok (.iload_n 1, 1) := by decide +kernel
theorem dJ2_charAt_3b067_7 : decode cJ2_charAt_3b067 7 = .ok (.invokestatic 71, 3) := by decide +kernel
theorem dJ2_charAt_3b067_10 : decode cJ2_charAt_3b067 10 = .ok (.ireturn, 1) := by decide +kernel
set_option maxRecDepth 20000 in
theorem ggJ2_checkIndex_2214a_J2_length_9d52b : GoodIn wsJ2_checkIndex_2214a wsJ2_length_9d52b := goodIn_r _ [4] (by decide +kernel) (by decide +kernel)
set_option maxRecDepth 20000 in
theorem gJ2_checkIndex_2214a_J2_length_9d52b : GoodIn wsJ2_checkIndex_2214a (va_wsS RJ2 48 yJ2_length_9d52b wsJ2_length_9d52b) := goodIn_app (goodIn_of _ (by decide +kernel)) ggJ2_checkIndex_2214a_J2_length_9d52b
set_option maxRecDepth 20000 in
theorem ggJ2_checkIndex_2214a_J0_checkIndex_df160 : GoodIn wsJ2_checkIndex_2214a wsJ0_checkIndex_df160 := goodIn_r _ [8, 9, 10, 11, 12, 13] (by decide +kernel) (by decide +kernel)
set_option maxRecDepth 20000 in
theorem gJ2_checkIndex_2214a_J0_checkIndex_df160 : GoodIn wsJ2_checkIndex_2214a (va_wsS RJ2 414 yJ0_checkIndex_df160 wsJ0_checkIndex_df160) := goodIn_app (goodIn_of _ (by decide +kernel)) ggJ2_checkIndex_2214a_J0_checkIndex_df160
theorem dJ2_checkIndex_2214a_0 : decode cJ2_checkIndex_2214a 0 = .ok (.iload_n 0, 1) := by decide +kernel
theorem dJ2_checkIndex_2214a_1 : decode cJ2_checkIndex_2214a 1 = .ok (.aload_n 1, 1) := by decide +kernel
theorem dJ2_checkIndex_2214a_2 : decode cJ2_checkIndex_2214a 2 = .ok (.invokestatic 48, 3) := by decide +kernel
theorem dJ2_checkIndex_2214a_5 : decode cJ2_checkIndex_2214a 5 = .ok (.invokestatic 414, 3) := by decide +kernel
theorem dJ2_checkIndex_2214a_8 : decode cJ2_checkIndex_2214a 8 = .ok (.return_, 1) := by decide +kernel
theorem dJ3_checkIndex_8e157_0 : decode cJ3_checkIndex_8e157 0 = .ok (.iload_n 0, 1) := by decide +kernel
theorem dJ3_checkIndex_8e157_1 : decode cJ3_checkIndex_8e157 1 = .ok (.ifCond .lt 8, 3) := by decide +kernel
theorem dJ3_checkIndex_8e157_4 : decode cJ3_checkIndex_8e157 4 = .ok (.iload_n 0, 1) := by decide +kernel
theorem dJ3_checkIndex_8e157_5 : decode cJ3_checkIndex_8e157 5 = .ok (.iload_n 1, 1) := by decide +kernel
theorem dJ3_checkIndex_8e157_6 : decode cJ3_checkIndex_8e157 6 = .ok (.if_icmp .lt 10, 3) := by decide +kernel
theorem dJ3_checkIndex_8e157_9 : decode cJ3_checkIndex_8e157 9 = .ok (.aload_n 2, 1) := by decide +kernel
theorem dJ3_checkIndex_8e157_10 : decode cJ3_checkIndex_8e157 10 = .ok (.iload_n 0, 1) := by decide +kernel
theorem dJ3_checkIndex_8e157_11 : decode cJ3_checkIndex_8e157 11 = .ok (.iload_n 1, 1) := by decide +kernel
theorem dJ3_checkIndex_8e157_12 : decode cJ3_checkIndex_8e157 12 = .ok (.invokestatic 95, 3) := by decide +kernel
theorem dJ3_checkIndex_8e157_15 : decode cJ3_checkIndex_8e157 15 = .ok (.athrow, 1) := by decide +kernel
theorem dJ3_checkIndex_8e157_16 : decode cJ3_checkIndex_8e157 16 = .ok (.iload_n 0, 1) := by decide +kernel
theorem dJ3_checkIndex_8e157_17 : decode cJ3_checkIndex_8e157 17 = .ok (.ireturn, 1) := by decide +kernel
set_option maxRecDepth 20000 in
theorem ggL_cut_X6_cut : GoodIn wsL_cut wsX6_cut := goodIn_ca (goodIn_ca (goodIn_ca (goodIn_r _ [7, 8, 9, 10, 11, 6, 12, 13, 14, 15, 16, 17, 18, 19, 20, 21, 22, 23, 24, 25, 26, 27, 28, 29, 30, 31, 32, 33, 34, 35, 36, 37, 38, 39, 40, 41, 42, 43, 44, 45, 46, 47, 48, 49, 50, 51, 52, 53, 54, 55, 56, 57, 58, 59, 60, 61, 62, 63, 64, 65, 66, 67, 68, 69, 70, 71, 72, 73, 74, 75, 76, 77, 78, 79, 80, 81, 82, 83, 84, 85, 86, 87, 88, 89, 90, 91, 92, 93, 94, 95, 96, 97, 98, 99, 100, 101, 102, 103, 104, 105, 106, 107, 108, 109, 110, 111, 112, 113, 114, 115, 116, 117, 118, 119, 120, 121, 122] (by decide +kernel) (by decide +kernel)) (goodIn_sub (fun _ h => List.mem_cons_of_mem _ (List.mem_append_left _ (List.mem_append_left _ (List.mem_append_right _ h)))) (by decide +kernel))) (goodIn_sub (fun _ h => List.mem_cons_of_mem _ (List.mem_append_left _ (List.mem_append_right _ h))) (by decide +kernel))) (goodIn_sub (fun _ h => List.mem_cons_of_mem _ (List.mem_append_right _ h)) (by decide +kernel))
set_option maxRecDepth 20000 in
theorem gL_cut_X6_cut : GoodIn wsL_cut (wsV RL 7 RX6 yX6_cut wsX6_cut) := goodIn_app (goodIn_of _ (by decide +kernel)) ggL_cut_X6_cut
theorem dL_cut_0 : decode cL_cut 0 = .ok (.aload 4, 2) := by decide +kernel
theorem dL_cut_2 : decode cL_cut 2 = .ok (.iconst 0, 1) := by decide +kernel
theorem dL_cut_3 : decode cL_cut 3 = .ok (.aload_n 0, 1) := by decide +kernel
theorem dL_cut_4 : decode cL_cut 4 = .ok (.iload_n 1, 1) := by decide +kernel
theorem dL_cut_5 : decode cL_cut 5 = .ok (.iload_n 2, 1) := by decide +kernel
theorem dL_cut_6 : decode cL_cut 6 = .ok (.iload_n 3, 1) := by decide +kernel
theorem dL_cut_7 : decode cL_cut 7 = .ok (.invokevirtual 7, 3) := by decide +kernel
theorem dL_cut_10 : decode cL_cut 10 = .ok (.i2l, 1) := by decide +kernel
theorem dL_cut_11 : decode cL_cut 11 = .ok (.lastore, 1) := by decide +kernel
theorem dL_cut_12 : decode cL_cut 12 = .ok (.goto 11, 3) := by decide +kernel
theorem dL_cut_15 : decode cL_cut 15 = .ok (.astore 5, 2) := by decide +kernel
theorem dL_cut_17 : decode cL_cut 17 = .ok (.iconst 1, 1) := by decide +kernel
theorem dL_cut_18 : decode cL_cut 18 = .ok (.ireturn, 1) := by decide +kernel
theorem dL_cut_19 : decode cL_cut 19 = .ok (.astore 5, 2) := by decide +kernel
theorem dL_cut_21 : decode cL_cut 21 = .ok (.iconst 2, 1) := by decide +kernel
theorem dL_cut_22 : decode cL_cut 22 = .ok (.ireturn, 1) := by decide +kernel
theorem dL_cut_23 : decode cL_cut 23 = .ok (.iconst 0, 1) := by decide +kernel
theorem dL_cut_24 : decode cL_cut 24 = .ok (.ireturn, 1) := by decide +kernel
set_option maxRecDepth 20000 in
theorem ggL_use_X6_use : GoodIn wsL_use wsX6_use := goodIn_ca (goodIn_ca (goodIn_ca (goodIn_r _ [8, 9, 10, 11, 12, 13, 14, 7, 15, 16, 17, 18, 19, 20, 21, 22, 23, 24, 25, 26, 27, 28, 29, 30, 31, 32, 33, 34, 35, 36, 37, 38, 39, 40, 41, 42, 43, 44, 45, 46, 47, 48, 49, 50, 51, 52, 53, 54, 55, 56, 57, 58, 59, 60, 61, 62, 63, 64, 65, 66, 67, 68, 69, 70, 71, 72, 73, 74, 75, 76, 77, 78, 79, 80, 81, 82, 83, 84, 85, 86, 87, 88, 89, 90, 91, 92, 93, 94, 95, 96, 97, 98, 99, 100, 101, 102, 103, 104, 105, 106, 107, 108, 109, 110, 111, 112, 113, 114, 115, 116, 117, 118, 119, 120, 121, 122, 123, 124, 125, 126, 127, 128, 129, 130, 131, 132, 133, 134, 135, 136, 137, 138, 139, 140, 141, 142, 143, 144, 145, 146, 147, 148, 149, 150, 151, 152, 153, 154, 155, 156, 157, 158, 159, 160, 161, 162, 163, 164, 165, 166, 167, 168, 169, 170, 171, 172, 173, 174, 175, 176, 177, 178, 179, 180, 181, 182, 183, 184, 185, 186, 187, 188, 189, 190, 191, 192, 193, 194, 195, 196, 197, 198, 199, 200, 201, 202, 203, 204, 205, 206, 207, 208, 209, 210, 211, 212, 213, 214, 215, 216, 217, 218, 219, 220, 221, 222, 223, 224, 225, 226, 227, 228, 229, 230, 231, 232, 233, 234, 235, 236, 237, 238, 239, 240, 241, 242, 243, 244, 245, 246, 247, 248, 249, 250, 251, 252, 253] (by decide +kernel) (by decide +kernel)) (goodIn_sub (fun _ h => List.mem_cons_of_mem _ (List.mem_append_left _ (List.mem_append_left _ (List.mem_append_right _ h)))) (by decide +kernel))) (goodIn_sub (fun _ h => List.mem_cons_of_mem _ (List.mem_append_left _ (List.mem_append_right _ h))) (by decide +kernel))) (goodIn_sub (fun _ h => List.mem_cons_of_mem _ (List.mem_append_right _ h)) (by decide +kernel))
set_option maxRecDepth 20000 in
theorem gL_use_X6_use : GoodIn wsL_use (wsV RL 17 RX6 yX6_use wsX6_use) := goodIn_app (goodIn_of _ (by decide +kernel)) ggL_use_X6_use
theorem dL_use_0 : decode cL_use 0 = .ok (.aload 4, 2) := by decide +kernel
theorem dL_use_2 : decode cL_use 2 = .ok (.iconst 0, 1) := by decide +kernel
theorem dL_use_3 : decode cL_use 3 = .ok (.aload_n 0, 1) := by decide +kernel
theorem dL_use_4 : decode cL_use 4 = .ok (.iload_n 1, 1) := by decide +kernel
theorem dL_use_5 : decode cL_use 5 = .ok (.iload_n 2, 1) := by decide +kernel
theorem dL_use_6 : decode cL_use 6 = .ok (.iload_n 3, 1) := by decide +kernel
theorem dL_use_7 : decode cL_use 7 = .ok (.invokevirtual 17, 3) := by decide +kernel
theorem dL_use_10 : decode cL_use 10 = .ok (.i2l, 1) := by decide +kernel
theorem dL_use_11 : decode cL_use 11 = .ok (.lastore, 1) := by decide +kernel
theorem dL_use_12 : decode cL_use 12 = .ok (.goto 15, 3) := by decide +kernel
theorem dL_use_15 : decode cL_use 15 = .ok (.astore 5, 2) := by decide +kernel
theorem dL_use_17 : decode cL_use 17 = .ok (.iconst 1, 1) := by decide +kernel
theorem dL_use_18 : decode cL_use 18 = .ok (.ireturn, 1) := by decide +kernel
theorem dL_use_19 : decode cL_use 19 = .ok (.astore 5, 2) := by decide +kernel
theorem dL_use_21 : decode cL_use 21 = .ok (.iconst 2, 1) := by decide +kernel
theorem dL_use_22 : decode cL_use 22 = .ok (.ireturn, 1) := by decide +kernel
theorem dL_use_23 : decode cL_use 23 = .ok (.astore 5, 2) := by decide +kernel
theorem dL_use_25 : decode cL_use 25 = .ok (.iconst 3, 1) := by decide +kernel
theorem dL_use_26 : decode cL_use 26 = .ok (.ireturn, 1) := by decide +kernel
theorem dL_use_27 : decode cL_use 27 = .ok (.iconst 0, 1) := by decide +kernel
theorem dL_use_28 : decode cL_use 28 = .ok (.ireturn, 1) := by decide +kernel
set_option maxRecDepth 20000 in
theorem ggL_drop_X6_drop : GoodIn wsL_drop wsX6_drop := goodIn_ca (goodIn_ca (goodIn_ca (goodIn_r _ [8, 9, 10, 11, 12, 13, 7, 14, 15, 16, 17, 18, 19, 20, 21, 22, 23, 24, 25, 26, 27, 28, 29, 30, 31, 32, 33, 34, 35, 36, 37, 38, 39, 40, 41, 42, 43, 44, 45, 46, 47, 48, 49, 50, 51, 52, 53, 54, 55, 56, 57, 58, 59, 60, 61, 62, 63, 64, 65, 66, 67, 68, 69, 70, 71, 72, 73, 74, 75, 76, 77, 78, 79, 80, 81, 82, 83, 84, 85, 86, 87, 88, 89, 90, 91, 92, 93, 94, 95, 96, 97, 98, 99, 100, 101, 102, 103, 104, 105, 106, 107, 108, 109, 110, 111, 112, 113, 114, 115, 116, 117, 118, 119, 120, 121, 122, 123, 124, 125, 126, 127, 128, 129, 130] (by decide +kernel) (by decide +kernel)) (goodIn_sub (fun _ h => List.mem_cons_of_mem _ (List.mem_append_left _ (List.mem_append_left _ (List.mem_append_right _ h)))) (by decide +kernel))) (goodIn_sub (fun _ h => List.mem_cons_of_mem _ (List.mem_append_left _ (List.mem_append_right _ h))) (by decide +kernel))) (goodIn_sub (fun _ h => List.mem_cons_of_mem _ (List.mem_append_right _ h)) (by decide +kernel))
set_option maxRecDepth 20000 in
theorem gL_drop_X6_drop : GoodIn wsL_drop (wsV RL 22 RX6 yX6_drop wsX6_drop) := goodIn_app (goodIn_of _ (by decide +kernel)) ggL_drop_X6_drop
theorem dL_drop_0 : decode cL_drop 0 = .ok (.aload 4, 2) := by decide +kernel
theorem dL_drop_2 : decode cL_drop 2 = .ok (.iconst 0, 1) := by decide +kernel
theorem dL_drop_3 : decode cL_drop 3 = .ok (.aload_n 0, 1) := by decide +kernel
theorem dL_drop_4 : decode cL_drop 4 = .ok (.iload_n 1, 1) := by decide +kernel
theorem dL_drop_5 : decode cL_drop 5 = .ok (.iload_n 2, 1) := by decide +kernel
theorem dL_drop_6 : decode cL_drop 6 = .ok (.iload_n 3, 1) := by decide +kernel
theorem dL_drop_7 : decode cL_drop 7 = .ok (.invokevirtual 22, 3) := by decide +kernel
theorem dL_drop_10 : decode cL_drop 10 = .ok (.i2l, 1) := by decide +kernel
theorem dL_drop_11 : decode cL_drop 11 = .ok (.lastore, 1) := by decide +kernel
theorem dL_drop_12 : decode cL_drop 12 = .ok (.goto 15, 3) := by decide +kernel
theorem dL_drop_15 : decode cL_drop 15 = .ok (.astore 5, 2) := by decide +kernel
theorem dL_drop_17 : decode cL_drop 17 = .ok (.iconst 1, 1) := by decide +kernel
theorem dL_drop_18 : decode cL_drop 18 = .ok (.ireturn, 1) := by decide +kernel
theorem dL_drop_19 : decode cL_drop 19 = .ok (.astore 5, 2) := by decide +kernel
theorem dL_drop_21 : decode cL_drop 21 = .ok (.iconst 2, 1) := by decide +kernel
theorem dL_drop_22 : decode cL_drop 22 = .ok (.ireturn, 1) := by decide +kernel
theorem dL_drop_23 : decode cL_drop 23 = .ok (.astore 5, 2) := by decide +kernel
theorem dL_drop_25 : decode cL_drop 25 = .ok (.iconst 3, 1) := by decide +kernel
theorem dL_drop_26 : decode cL_drop 26 = .ok (.ireturn, 1) := by decide +kernel
theorem dL_drop_27 : decode cL_drop 27 = .ok (.iconst 0, 1) := by decide +kernel
theorem dL_drop_28 : decode cL_drop 28 = .ok (.ireturn, 1) := by decide +kernel
set_option maxRecDepth 20000 in
theorem ggL_addTray_X6_addTray : GoodIn wsL_addTray wsX6_addTray := goodIn_ca (goodIn_ca (goodIn_ca (goodIn_r _ [6, 7, 8, 9, 10, 11, 5, 12, 13, 14, 15, 16, 17, 18, 19, 20, 21, 22, 23, 24, 25, 26, 27, 28, 29, 30, 31, 32, 33, 34, 35, 36, 37, 38, 39, 40, 41, 42, 43, 44, 45, 46, 47, 48, 49, 50, 51, 52, 53, 54, 55, 56, 57, 58, 59, 60, 61, 62, 63, 64, 65, 66, 67, 68, 69, 70, 71, 72, 73, 74, 75, 76, 77, 78, 79, 80, 81, 82, 83, 84, 85, 86, 87, 88, 89, 90, 91, 92, 93, 94, 95, 96, 97, 98, 99, 100] (by decide +kernel) (by decide +kernel)) (goodIn_sub (fun _ h => List.mem_cons_of_mem _ (List.mem_append_left _ (List.mem_append_left _ (List.mem_append_right _ h)))) (by decide +kernel))) (goodIn_sub (fun _ h => List.mem_cons_of_mem _ (List.mem_append_left _ (List.mem_append_right _ h))) (by decide +kernel))) (goodIn_sub (fun _ h => List.mem_cons_of_mem _ (List.mem_append_right _ h)) (by decide +kernel))
set_option maxRecDepth 20000 in
theorem gL_addTray_X6_addTray : GoodIn wsL_addTray (wsV RL 25 RX6 yX6_addTray wsX6_addTray) := goodIn_app (goodIn_of _ (by decide +kernel)) ggL_addTray_X6_addTray
theorem dL_addTray_0 : decode cL_addTray 0 = .ok (.aload_n 1, 1) := by decide +kernel
theorem dL_addTray_1 : decode cL_addTray 1 = .ok (.iconst 0, 1) := by decide +kernel
theorem dL_addTray_2 : decode cL_addTray 2 = .ok (.aload_n 0, 1) := by decide +kernel
theorem dL_addTray_3 : decode cL_addTray 3 = .ok (.invokevirtual 25, 3) := by decide +kernel
theorem dL_addTray_6 : decode cL_addTray 6 = .ok (.i2l, 1) := by decide +kernel
theorem dL_addTray_7 : decode cL_addTray 7 = .ok (.lastore, 1) := by decide +kernel
theorem dL_addTray_8 : decode cL_addTray 8 = .ok (.goto 6, 3) := by decide +kernel
theorem dL_addTray_11 : decode cL_addTray 11 = .ok (.astore_n 2, 1) := by decide +kernel
theorem dL_addTray_12 : decode cL_addTray 12 = .ok (.iconst 1, 1) := by decide +kernel
theorem dL_addTray_13 : decode cL_addTray 13 = .ok (.ireturn, 1) := by decide +kernel
theorem dL_addTray_14 : decode cL_addTray 14 = .ok (.iconst 0, 1) := by decide +kernel
theorem dL_addTray_15 : decode cL_addTray 15 = .ok (.ireturn, 1) := by decide +kernel
set_option maxRecDepth 20000 in
theorem ggL_letter_X6_letter : GoodIn wsL_letter wsX6_letter := goodIn_ca (goodIn_ca (goodIn_ca (goodIn_r _ [7, 8, 9, 10, 6, 11, 12, 13, 14, 15, 16, 17, 18, 19, 20, 21, 22, 23, 24, 25, 26, 27, 28, 29, 30, 31, 32, 33, 34, 35, 36, 37, 38, 39, 40, 41, 42, 43, 44, 45, 46, 47, 48, 49, 50, 51, 52, 53, 54, 55, 56, 57, 58, 59, 60, 61, 62, 63, 64, 65, 66, 67, 68, 69, 70, 71, 72, 73, 74, 75, 76, 77, 78, 79, 80, 81, 82, 83, 84, 85, 86, 87, 88, 89, 90, 91, 92, 93, 94, 95, 96, 97, 98, 99, 100, 101, 102, 103, 104] (by decide +kernel) (by decide +kernel)) (goodIn_sub (fun _ h => List.mem_cons_of_mem _ (List.mem_append_left _ (List.mem_append_left _ (List.mem_append_right _ h)))) (by decide +kernel))) (goodIn_sub (fun _ h => List.mem_cons_of_mem _ (List.mem_append_left _ (List.mem_append_right _ h))) (by decide +kernel))) (goodIn_sub (fun _ h => List.mem_cons_of_mem _ (List.mem_append_right _ h)) (by decide +kernel))
set_option maxRecDepth 20000 in
theorem gL_letter_X6_letter : GoodIn wsL_letter (wsV RL 29 RX6 yX6_letter wsX6_letter) := goodIn_app (goodIn_of _ (by decide +kernel)) ggL_letter_X6_letter
theorem dL_letter_0 : decode cL_letter 0 = .ok (.aload 5, 2) := by decide +kernel
theorem dL_letter_2 : decode cL_letter 2 = .ok (.iconst 0, 1) := by decide +kernel
theorem dL_letter_3 : decode cL_letter 3 = .ok (.aload_n 0, 1) := by decide +kernel
theorem dL_letter_4 : decode cL_letter 4 = .ok (.iload_n 1, 1) := by decide +kernel
theorem dL_letter_5 : decode cL_letter 5 = .ok (.iload_n 2, 1) := by decide +kernel
theorem dL_letter_6 : decode cL_letter 6 = .ok (.iload_n 3, 1) := by decide +kernel
theorem dL_letter_7 : decode cL_letter 7 = .ok (.iload 4, 2) := by decide +kernel
theorem dL_letter_9 : decode cL_letter 9 = .ok (.invokevirtual 29, 3) := by decide +kernel
theorem dL_letter_12 : decode cL_letter 12 = .ok (.i2l, 1) := by decide +kernel
theorem dL_letter_13 : decode cL_letter 13 = .ok (.lastore, 1) := by decide +kernel
theorem dL_letter_14 : decode cL_letter 14 = .ok (.goto 11, 3) := by decide +kernel
theorem dL_letter_17 : decode cL_letter 17 = .ok (.astore 6, 2) := by decide +kernel
theorem dL_letter_19 : decode cL_letter 19 = .ok (.iconst 1, 1) := by decide +kernel
theorem dL_letter_20 : decode cL_letter 20 = .ok (.ireturn, 1) := by decide +kernel
theorem dL_letter_21 : decode cL_letter 21 = .ok (.astore 6, 2) := by decide +kernel
theorem dL_letter_23 : decode cL_letter 23 = .ok (.iconst 2, 1) := by decide +kernel
theorem dL_letter_24 : decode cL_letter 24 = .ok (.ireturn, 1) := by decide +kernel
theorem dL_letter_25 : decode cL_letter 25 = .ok (.iconst 0, 1) := by decide +kernel
theorem dL_letter_26 : decode cL_letter 26 = .ok (.ireturn, 1) := by decide +kernel
set_option maxRecDepth 20000 in
theorem ggL_sign_X6_sign : GoodIn wsL_sign wsX6_sign := goodIn_ca (goodIn_ca (goodIn_ca (goodIn_r _ [7, 8, 9, 10, 6, 11, 12, 13, 14, 15, 16, 17, 18, 19, 20, 21, 22, 23, 24, 25, 26, 27, 28, 29, 30, 31, 32, 33, 34, 35, 36, 37, 38, 39, 40, 41, 42, 43, 44, 45, 46, 47, 48, 49, 50, 51, 52, 53, 54, 55, 56, 57, 58, 59, 60, 61, 62, 63, 64, 65, 66, 67, 68, 69, 70, 71, 72, 73, 74, 75, 76, 77, 78, 79, 80, 81, 82, 83] (by decide +kernel) (by decide +kernel)) (goodIn_sub (fun _ h => List.mem_cons_of_mem _ (List.mem_append_left _ (List.mem_append_left _ (List.mem_append_right _ h)))) (by decide +kernel))) (goodIn_sub (fun _ h => List.mem_cons_of_mem _ (List.mem_append_left _ (List.mem_append_right _ h))) (by decide +kernel))) (goodIn_sub (fun _ h => List.mem_cons_of_mem _ (List.mem_append_right _ h)) (by decide +kernel))
set_option maxRecDepth 20000 in
theorem gL_sign_X6_sign : GoodIn wsL_sign (wsV RL 33 RX6 yX6_sign wsX6_sign) := goodIn_app (goodIn_of _ (by decide +kernel)) ggL_sign_X6_sign
theorem dL_sign_0 : decode cL_sign 0 = .ok (.aload_n 3, 1) := by decide +kernel
theorem dL_sign_1 : decode cL_sign 1 = .ok (.iconst 0, 1) := by decide +kernel
theorem dL_sign_2 : decode cL_sign 2 = .ok (.aload_n 0, 1) := by decide +kernel
theorem dL_sign_3 : decode cL_sign 3 = .ok (.iload_n 1, 1) := by decide +kernel
theorem dL_sign_4 : decode cL_sign 4 = .ok (.iload_n 2, 1) := by decide +kernel
theorem dL_sign_5 : decode cL_sign 5 = .ok (.invokevirtual 33, 3) := by decide +kernel
theorem dL_sign_8 : decode cL_sign 8 = .ok (.i2l, 1) := by decide +kernel
theorem dL_sign_9 : decode cL_sign 9 = .ok (.lastore, 1) := by decide +kernel
theorem dL_sign_10 : decode cL_sign 10 = .ok (.goto 11, 3) := by decide +kernel
theorem dL_sign_13 : decode cL_sign 13 = .ok (.astore 4, 2) := by decide +kernel
theorem dL_sign_15 : decode cL_sign 15 = .ok (.iconst 1, 1) := by decide +kernel
theorem dL_sign_16 : decode cL_sign 16 = .ok (.ireturn, 1) := by decide +kernel
theorem dL_sign_17 : decode cL_sign 17 = .ok (.astore 4, 2) := by decide +kernel
theorem dL_sign_19 : decode cL_sign 19 = .ok (.iconst 2, 1) := by decide +kernel
theorem dL_sign_20 : decode cL_sign 20 = .ok (.ireturn, 1) := by decide +kernel
theorem dL_sign_21 : decode cL_sign 21 = .ok (.iconst 0, 1) := by decide +kernel
theorem dL_sign_22 : decode cL_sign 22 = .ok (.ireturn, 1) := by decide +kernel
set_option maxRecDepth 20000 in
theorem ggL_tray_X6_tray : GoodIn wsL_tray wsX6_tray := goodIn_ca (goodIn_ca (goodIn_ca (goodIn_r _ [7, 8, 9, 10, 11, 6, 12, 13, 14, 15, 16, 17, 18, 19, 20, 21, 22, 23, 24, 25, 26, 27, 28, 29, 30, 31, 32, 33, 34, 35, 36, 37, 38, 39, 40, 41, 42, 43, 44, 45, 46, 47, 48, 49, 50, 51, 52, 53, 54, 55, 56, 57, 58, 59, 60, 61, 62, 63, 64, 65, 66, 67, 68, 69, 70, 71, 72, 73, 74, 75, 76, 77, 78, 79, 80, 81, 82, 83, 84, 85, 86, 87, 88, 89, 90, 91, 92, 93, 94, 95, 96, 97, 98, 99, 100, 101, 102, 103, 104, 105, 106, 107, 108, 109] (by decide +kernel) (by decide +kernel)) (goodIn_sub (fun _ h => List.mem_cons_of_mem _ (List.mem_append_left _ (List.mem_append_left _ (List.mem_append_right _ h)))) (by decide +kernel))) (goodIn_sub (fun _ h => List.mem_cons_of_mem _ (List.mem_append_left _ (List.mem_append_right _ h))) (by decide +kernel))) (goodIn_sub (fun _ h => List.mem_cons_of_mem _ (List.mem_append_right _ h)) (by decide +kernel))
set_option maxRecDepth 20000 in
theorem gL_tray_X6_tray : GoodIn wsL_tray (wsV RL 37 RX6 yX6_tray wsX6_tray) := goodIn_app (goodIn_of _ (by decide +kernel)) ggL_tray_X6_tray
theorem dL_tray_0 : decode cL_tray 0 = .ok (.aload_n 3, 1) := by decide +kernel
theorem dL_tray_1 : decode cL_tray 1 = .ok (.iconst 0, 1) := by decide +kernel
theorem dL_tray_2 : decode cL_tray 2 = .ok (.aload_n 0, 1) := by decide +kernel
theorem dL_tray_3 : decode cL_tray 3 = .ok (.iload_n 1, 1) := by decide +kernel
theorem dL_tray_4 : decode cL_tray 4 = .ok (.iload_n 2, 1) := by decide +kernel
theorem dL_tray_5 : decode cL_tray 5 = .ok (.invokevirtual 37, 3) := by decide +kernel
theorem dL_tray_8 : decode cL_tray 8 = .ok (.i2l, 1) := by decide +kernel
theorem dL_tray_9 : decode cL_tray 9 = .ok (.lastore, 1) := by decide +kernel
theorem dL_tray_10 : decode cL_tray 10 = .ok (.goto 11, 3) := by decide +kernel
theorem dL_tray_13 : decode cL_tray 13 = .ok (.astore 4, 2) := by decide +kernel
theorem dL_tray_15 : decode cL_tray 15 = .ok (.iconst 1, 1) := by decide +kernel
theorem dL_tray_16 : decode cL_tray 16 = .ok (.ireturn, 1) := by decide +kernel
theorem dL_tray_17 : decode cL_tray 17 = .ok (.astore 4, 2) := by decide +kernel
theorem dL_tray_19 : decode cL_tray 19 = .ok (.iconst 2, 1) := by decide +kernel
theorem dL_tray_20 : decode cL_tray 20 = .ok (.ireturn, 1) := by decide +kernel
theorem dL_tray_21 : decode cL_tray 21 = .ok (.iconst 0, 1) := by decide +kernel
theorem dL_tray_22 : decode cL_tray 22 = .ok (.ireturn, 1) := by decide +kernel
set_option maxRecDepth 20000 in
theorem ggL_shelf_X6_shelf : GoodIn wsL_shelf wsX6_shelf := goodIn_ca (goodIn_ca (goodIn_ca (goodIn_r _ [7, 8, 9, 10, 11, 6, 12, 13, 14, 15, 16, 17, 18, 19, 20, 21, 22, 23, 24, 25, 26, 27, 28, 29, 30, 31, 32, 33, 34, 35, 36, 37, 38, 39, 40, 41, 42, 43, 44, 45, 46, 47, 48, 49, 50, 51, 52, 53, 54, 55, 56, 57, 58, 59, 60, 61, 62, 63, 64, 65, 66, 67, 68, 69, 70, 71, 72, 73, 74, 75, 76, 77, 78, 79, 80, 81, 82, 83, 84, 85, 86, 87, 88, 89, 90, 91, 92, 93, 94, 95, 96, 97, 98, 99, 100, 101, 102, 103, 104, 105, 106, 107, 108, 109, 110, 111, 112, 113, 114, 115, 116, 117] (by decide +kernel) (by decide +kernel)) (goodIn_sub (fun _ h => List.mem_cons_of_mem _ (List.mem_append_left _ (List.mem_append_left _ (List.mem_append_right _ h)))) (by decide +kernel))) (goodIn_sub (fun _ h => List.mem_cons_of_mem _ (List.mem_append_left _ (List.mem_append_right _ h))) (by decide +kernel))) (goodIn_sub (fun _ h => List.mem_cons_of_mem _ (List.mem_append_right _ h)) (by decide +kernel))
set_option maxRecDepth 20000 in
theorem gL_shelf_X6_shelf : GoodIn wsL_shelf (wsV RL 40 RX6 yX6_shelf wsX6_shelf) := goodIn_app (goodIn_of _ (by decide +kernel)) ggL_shelf_X6_shelf
theorem dL_shelf_0 : decode cL_shelf 0 = .ok (.aload 4, 2) := by decide +kernel
theorem dL_shelf_2 : decode cL_shelf 2 = .ok (.iconst 0, 1) := by decide +kernel
theorem dL_shelf_3 : decode cL_shelf 3 = .ok (.aload_n 0, 1) := by decide +kernel
theorem dL_shelf_4 : decode cL_shelf 4 = .ok (.iload_n 1, 1) := by decide +kernel
theorem dL_shelf_5 : decode cL_shelf 5 = .ok (.iload_n 2, 1) := by decide +kernel
theorem dL_shelf_6 : decode cL_shelf 6 = .ok (.iload_n 3, 1) := by decide +kernel
theorem dL_shelf_7 : decode cL_shelf 7 = .ok (.invokevirtual 40, 3) := by decide +kernel
theorem dL_shelf_10 : decode cL_shelf 10 = .ok (.i2l, 1) := by decide +kernel
theorem dL_shelf_11 : decode cL_shelf 11 = .ok (.lastore, 1) := by decide +kernel
theorem dL_shelf_12 : decode cL_shelf 12 = .ok (.goto 11, 3) := by decide +kernel
theorem dL_shelf_15 : decode cL_shelf 15 = .ok (.astore 5, 2) := by decide +kernel
theorem dL_shelf_17 : decode cL_shelf 17 = .ok (.iconst 1, 1) := by decide +kernel
theorem dL_shelf_18 : decode cL_shelf 18 = .ok (.ireturn, 1) := by decide +kernel
theorem dL_shelf_19 : decode cL_shelf 19 = .ok (.astore 5, 2) := by decide +kernel
theorem dL_shelf_21 : decode cL_shelf 21 = .ok (.iconst 2, 1) := by decide +kernel
theorem dL_shelf_22 : decode cL_shelf 22 = .ok (.ireturn, 1) := by decide +kernel
theorem dL_shelf_23 : decode cL_shelf 23 = .ok (.iconst 0, 1) := by decide +kernel
theorem dL_shelf_24 : decode cL_shelf 24 = .ok (.ireturn, 1) := by decide +kernel
set_option maxRecDepth 20000 in
theorem ggL_at_X6_at : GoodIn wsL_at wsX6_at := goodIn_ca (goodIn_ca (goodIn_ca (goodIn_r _ [7, 8, 9, 10, 11, 6, 12, 13, 14, 15, 16, 17, 18, 19, 20, 21, 22, 23, 24, 25, 26, 27, 28, 29, 30, 31, 32, 33, 34, 35, 36, 37, 38, 39, 40, 41, 42, 43, 44, 45, 46, 47, 48, 49, 50, 51, 52, 53, 54, 55, 56, 57, 58, 59, 60, 61, 62, 63, 64, 65, 66, 67, 68, 69, 70, 71, 72, 73, 74, 75, 76, 77, 78, 79, 80, 81, 82, 83, 84, 85, 86, 87, 88, 89, 90, 91, 92, 93, 94, 95, 96, 97] (by decide +kernel) (by decide +kernel)) (goodIn_sub (fun _ h => List.mem_cons_of_mem _ (List.mem_append_left _ (List.mem_append_left _ (List.mem_append_right _ h)))) (by decide +kernel))) (goodIn_sub (fun _ h => List.mem_cons_of_mem _ (List.mem_append_left _ (List.mem_append_right _ h))) (by decide +kernel))) (goodIn_sub (fun _ h => List.mem_cons_of_mem _ (List.mem_append_right _ h)) (by decide +kernel))
set_option maxRecDepth 20000 in
theorem gL_at_X6_at : GoodIn wsL_at (wsV RL 43 RX6 yX6_at wsX6_at) := goodIn_app (goodIn_of _ (by decide +kernel)) ggL_at_X6_at
theorem dL_at_0 : decode cL_at 0 = .ok (.aload 4, 2) := by decide +kernel
theorem dL_at_2 : decode cL_at 2 = .ok (.iconst 0, 1) := by decide +kernel
theorem dL_at_3 : decode cL_at 3 = .ok (.aload_n 0, 1) := by decide +kernel
theorem dL_at_4 : decode cL_at 4 = .ok (.iload_n 1, 1) := by decide +kernel
theorem dL_at_5 : decode cL_at 5 = .ok (.iload_n 2, 1) := by decide +kernel
theorem dL_at_6 : decode cL_at 6 = .ok (.iload_n 3, 1) := by decide +kernel
theorem dL_at_7 : decode cL_at 7 = .ok (.invokevirtual 43, 3) := by decide +kernel
theorem dL_at_10 : decode cL_at 10 = .ok (.i2l, 1) := by decide +kernel
theorem dL_at_11 : decode cL_at 11 = .ok (.lastore, 1) := by decide +kernel
theorem dL_at_12 : decode cL_at 12 = .ok (.goto 11, 3) := by decide +kernel
theorem dL_at_15 : decode cL_at 15 = .ok (.astore 5, 2) := by decide +kernel
theorem dL_at_17 : decode cL_at 17 = .ok (.iconst 1, 1) := by decide +kernel
theorem dL_at_18 : decode cL_at 18 = .ok (.ireturn, 1) := by decide +kernel
theorem dL_at_19 : decode cL_at 19 = .ok (.astore 5, 2) := by decide +kernel
theorem dL_at_21 : decode cL_at 21 = .ok (.iconst 2, 1) := by decide +kernel
theorem dL_at_22 : decode cL_at 22 = .ok (.ireturn, 1) := by decide +kernel
theorem dL_at_23 : decode cL_at 23 = .ok (.iconst 0, 1) := by decide +kernel
theorem dL_at_24 : decode cL_at 24 = .ok (.ireturn, 1) := by decide +kernel
set_option maxRecDepth 20000 in
theorem ggL_street_X6_street : GoodIn wsL_street wsX6_street := goodIn_ca (goodIn_ca (goodIn_ca (goodIn_r _ [6, 7, 8, 9, 5, 10, 11, 12, 13, 14, 15, 16, 17, 18, 19, 20, 21, 22, 23, 24, 25, 26, 27, 28, 29, 30, 31, 32, 33, 34, 35, 36, 37, 38, 39, 40, 41, 42, 43, 44, 45, 46, 47, 48, 49, 50, 51, 52, 53, 54, 55, 56, 57, 58, 59, 60, 61, 62, 63, 64, 65, 66, 67, 68, 69] (by decide +kernel) (by decide +kernel)) (goodIn_sub (fun _ h => List.mem_cons_of_mem _ (List.mem_append_left _ (List.mem_append_left _ (List.mem_append_right _ h)))) (by decide +kernel))) (goodIn_sub (fun _ h => List.mem_cons_of_mem _ (List.mem_append_left _ (List.mem_append_right _ h))) (by decide +kernel))) (goodIn_sub (fun _ h => List.mem_cons_of_mem _ (List.mem_append_right _ h)) (by decide +kernel))
set_option maxRecDepth 20000 in
theorem gL_street_X6_street : GoodIn wsL_street (wsV RL 46 RX6 yX6_street wsX6_street) := goodIn_app (goodIn_of _ (by decide +kernel)) ggL_street_X6_street
theorem dL_street_0 : decode cL_street 0 = .ok (.aload_n 2, 1) := by decide +kernel
theorem dL_street_1 : decode cL_street 1 = .ok (.iconst 0, 1) := by decide +kernel
theorem dL_street_2 : decode cL_street 2 = .ok (.aload_n 0, 1) := by decide +kernel
theorem dL_street_3 : decode cL_street 3 = .ok (.iload_n 1, 1) := by decide +kernel
theorem dL_street_4 : decode cL_street 4 = .ok (.invokevirtual 46, 3) := by decide +kernel
theorem dL_street_7 : decode cL_street 7 = .ok (.i2l, 1) := by decide +kernel
theorem dL_street_8 : decode cL_street 8 = .ok (.lastore, 1) := by decide +kernel
theorem dL_street_9 : decode cL_street 9 = .ok (.goto 6, 3) := by decide +kernel
theorem dL_street_12 : decode cL_street 12 = .ok (.astore_n 3, 1) := by decide +kernel
theorem dL_street_13 : decode cL_street 13 = .ok (.iconst 1, 1) := by decide +kernel
theorem dL_street_14 : decode cL_street 14 = .ok (.ireturn, 1) := by decide +kernel
theorem dL_street_15 : decode cL_street 15 = .ok (.iconst 0, 1) := by decide +kernel
theorem dL_street_16 : decode cL_street 16 = .ok (.ireturn, 1) := by decide +kernel
set_option maxRecDepth 20000 in
theorem ggL_whole_X6_whole : GoodIn wsL_whole wsX6_whole := goodIn_ca (goodIn_ca (goodIn_ca (goodIn_r _ [6, 7, 8, 9, 10, 5, 11, 12, 13, 14, 15, 16, 17, 18, 19, 20, 21, 22, 23, 24, 25, 26, 27, 28, 29, 30, 31, 32, 33, 34, 35, 36, 37, 38, 39, 40, 41, 42, 43, 44, 45, 46, 47, 48, 49, 50, 51, 52, 53, 54, 55, 56, 57, 58, 59, 60, 61, 62, 63, 64, 65, 66, 67, 68, 69, 70, 71, 72, 73, 74, 75, 76, 77, 78, 79, 80, 81, 82, 83, 84, 85, 86, 87, 88, 89, 90, 91, 92, 93, 94, 95, 96, 97, 98, 99, 100, 101, 102, 103, 104, 105, 106, 107, 108, 109, 110, 111, 112, 113, 114, 115, 116, 117, 118, 119, 120, 121, 122, 123, 124, 125, 126, 127] (by decide +kernel) (by decide +kernel)) (goodIn_sub (fun _ h => List.mem_cons_of_mem _ (List.mem_append_left _ (List.mem_append_left _ (List.mem_append_right _ h)))) (by decide +kernel))) (goodIn_sub (fun _ h => List.mem_cons_of_mem _ (List.mem_append_left _ (List.mem_append_right _ h))) (by decide +kernel))) (goodIn_sub (fun _ h => List.mem_cons_of_mem _ (List.mem_append_right _ h)) (by decide +kernel))
set_option maxRecDepth 20000 in
theorem gL_whole_X6_whole : GoodIn wsL_whole (wsV RL 50 RX6 yX6_whole wsX6_whole) := goodIn_app (goodIn_of _ (by decide +kernel)) ggL_whole_X6_whole
theorem dL_whole_0 : decode cL_whole 0 = .ok (.aload_n 2, 1) := by decide +kernel
theorem dL_whole_1 : decode cL_whole 1 = .ok (.iconst 0, 1) := by decide +kernel
theorem dL_whole_2 : decode cL_whole 2 = .ok (.aload_n 0, 1) := by decide +kernel
theorem dL_whole_3 : decode cL_whole 3 = .ok (.iload_n 1, 1) := by decide +kernel
theorem dL_whole_4 : decode cL_whole 4 = .ok (.invokevirtual 50, 3) := by decide +kernel
theorem dL_whole_7 : decode cL_whole 7 = .ok (.i2l, 1) := by decide +kernel
theorem dL_whole_8 : decode cL_whole 8 = .ok (.lastore, 1) := by decide +kernel
theorem dL_whole_9 : decode cL_whole 9 = .ok (.goto 6, 3) := by decide +kernel
theorem dL_whole_12 : decode cL_whole 12 = .ok (.astore_n 3, 1) := by decide +kernel
theorem dL_whole_13 : decode cL_whole 13 = .ok (.iconst 1, 1) := by decide +kernel
theorem dL_whole_14 : decode cL_whole 14 = .ok (.ireturn, 1) := by decide +kernel
theorem dL_whole_15 : decode cL_whole 15 = .ok (.iconst 0, 1) := by decide +kernel
theorem dL_whole_16 : decode cL_whole 16 = .ok (.ireturn, 1) := by decide +kernel
set_option maxRecDepth 20000 in
theorem ggL_rule_X6_rule : GoodIn wsL_rule wsX6_rule := goodIn_ca (goodIn_ca (goodIn_ca (goodIn_r _ [7, 8, 9, 10, 11, 6, 12, 13, 14, 15, 16, 17, 18, 19, 20, 21, 22, 23, 24, 25, 26, 27, 28, 29, 30, 31, 32, 33, 34, 35, 36, 37, 38, 39, 40, 41, 42, 43, 44, 45, 46, 47, 48, 49, 50, 51, 52, 53, 54, 55, 56, 57, 58, 59, 60, 61, 62, 63, 64, 65, 66, 67, 68, 69, 70, 71, 72, 73, 74, 75, 76, 77, 78, 79, 80, 81, 82, 83, 84, 85, 86, 87, 88, 89, 90, 91, 92, 93, 94, 95, 96, 97, 98, 99, 100, 101, 102, 103, 104, 105, 106, 107, 108, 109, 110, 111, 112, 113, 114, 115, 116, 117, 118, 119, 120, 121, 122, 123, 124, 125, 126, 127, 128, 129, 130, 131, 132, 133, 134, 135, 136, 137, 138, 139, 140, 141, 142, 143, 144, 145, 146, 147, 148, 149, 150, 151, 152, 153, 154, 155, 156, 157, 158, 159, 160, 161, 162, 163, 164, 165, 166, 167, 168, 169, 170, 171, 172, 173, 174, 175, 176, 177, 178, 179, 180, 181, 182, 183] (by decide +kernel) (by decide +kernel)) (goodIn_sub (fun _ h => List.mem_cons_of_mem _ (List.mem_append_left _ (List.mem_append_left _ (List.mem_append_right _ h)))) (by decide +kernel))) (goodIn_sub (fun _ h => List.mem_cons_of_mem _ (List.mem_append_left _ (List.mem_append_right _ h))) (by decide +kernel))) (goodIn_sub (fun _ h => List.mem_cons_of_mem _ (List.mem_append_right _ h)) (by decide +kernel))
set_option maxRecDepth 20000 in
theorem gL_rule_X6_rule : GoodIn wsL_rule (wsV RL 53 RX6 yX6_rule wsX6_rule) := goodIn_app (goodIn_of _ (by decide +kernel)) ggL_rule_X6_rule
theorem dL_rule_0 : decode cL_rule 0 = .ok (.aload 4, 2) := by decide +kernel
theorem dL_rule_2 : decode cL_rule 2 = .ok (.iconst 0, 1) := by decide +kernel
theorem dL_rule_3 : decode cL_rule 3 = .ok (.aload_n 0, 1) := by decide +kernel
theorem dL_rule_4 : decode cL_rule 4 = .ok (.iload_n 1, 1) := by decide +kernel
theorem dL_rule_5 : decode cL_rule 5 = .ok (.iload_n 2, 1) := by decide +kernel
theorem dL_rule_6 : decode cL_rule 6 = .ok (.iload_n 3, 1) := by decide +kernel
theorem dL_rule_7 : decode cL_rule 7 = .ok (.invokevirtual 53, 3) := by decide +kernel
theorem dL_rule_10 : decode cL_rule 10 = .ok (.i2l, 1) := by decide +kernel
theorem dL_rule_11 : decode cL_rule 11 = .ok (.lastore, 1) := by decide +kernel
theorem dL_rule_12 : decode cL_rule 12 = .ok (.goto 11, 3) := by decide +kernel
theorem dL_rule_15 : decode cL_rule 15 = .ok (.astore 5, 2) := by decide +kernel
theorem dL_rule_17 : decode cL_rule 17 = .ok (.iconst 1, 1) := by decide +kernel
theorem dL_rule_18 : decode cL_rule 18 = .ok (.ireturn, 1) := by decide +kernel
theorem dL_rule_19 : decode cL_rule 19 = .ok (.astore 5, 2) := by decide +kernel
theorem dL_rule_21 : decode cL_rule 21 = .ok (.iconst 2, 1) := by decide +kernel
theorem dL_rule_22 : decode cL_rule 22 = .ok (.ireturn, 1) := by decide +kernel
theorem dL_rule_23 : decode cL_rule 23 = .ok (.iconst 0, 1) := by decide +kernel
theorem dL_rule_24 : decode cL_rule 24 = .ok (.ireturn, 1) := by decide +kernel
set_option maxRecDepth 20000 in
theorem ggL_takenBy_X6_takenBy : GoodIn wsL_takenBy wsX6_takenBy := goodIn_ca (goodIn_ca (goodIn_ca (goodIn_r _ [7, 8, 9, 10, 11, 6, 12, 13, 14, 15, 16, 17, 18, 19, 20, 21, 22, 23, 24, 25, 26, 27, 28, 29, 30, 31, 32, 33, 34, 35, 36, 37, 38, 39, 40, 41, 42, 43, 44, 45, 46, 47, 48, 49, 50, 51, 52, 53, 54, 55, 56, 57, 58, 59, 60, 61, 62, 63, 64, 65, 66, 67, 68, 69, 70, 71, 72, 73, 74, 75, 76, 77, 78, 79, 80, 81, 82, 83, 84, 85, 86, 87, 88, 89, 90, 91, 92, 93, 94, 95, 96, 97, 98, 99, 100, 101, 102, 103, 104, 105, 106, 107, 108, 109, 110, 111, 112, 113, 114, 115, 116, 117, 118, 119, 120, 121, 122, 123, 124, 125, 126, 127, 128, 129, 130, 131, 132, 133, 134, 135, 136, 137, 138, 139, 140, 141, 142, 143, 144, 145, 146, 147, 148, 149, 150, 151, 152, 153, 154, 155, 156, 157, 158, 159, 160, 161, 162, 163, 164, 165, 166, 167, 168, 169, 170, 171, 172, 173, 174, 175, 176, 177, 178, 179, 180, 181, 182, 183] (by decide +kernel) (by decide +kernel)) (goodIn_sub (fun _ h => List.mem_cons_of_mem _ (List.mem_append_left _ (List.mem_append_left _ (List.mem_append_right _ h)))) (by decide +kernel))) (goodIn_sub (fun _ h => List.mem_cons_of_mem _ (List.mem_append_left _ (List.mem_append_right _ h))) (by decide +kernel))) (goodIn_sub (fun _ h => List.mem_cons_of_mem _ (List.mem_append_right _ h)) (by decide +kernel))
set_option maxRecDepth 20000 in
theorem gL_takenBy_X6_takenBy : GoodIn wsL_takenBy (wsV RL 56 RX6 yX6_takenBy wsX6_takenBy) := goodIn_app (goodIn_of _ (by decide +kernel)) ggL_takenBy_X6_takenBy
theorem dL_takenBy_0 : decode cL_takenBy 0 = .ok (.aload 4, 2) := by decide +kernel
theorem dL_takenBy_2 : decode cL_takenBy 2 = .ok (.iconst 0, 1) := by decide +kernel
theorem dL_takenBy_3 : decode cL_takenBy 3 = .ok (.aload_n 0, 1) := by decide +kernel
theorem dL_takenBy_4 : decode cL_takenBy 4 = .ok (.iload_n 1, 1) := by decide +kernel
theorem dL_takenBy_5 : decode cL_takenBy 5 = .ok (.iload_n 2, 1) := by decide +kernel
theorem dL_takenBy_6 : decode cL_takenBy 6 = .ok (.iload_n 3, 1) := by decide +kernel
theorem dL_takenBy_7 : decode cL_takenBy 7 = .ok (.invokevirtual 56, 3) := by decide +kernel
theorem dL_takenBy_10 : decode cL_takenBy 10 = .ok (.i2l, 1) := by decide +kernel
theorem dL_takenBy_11 : decode cL_takenBy 11 = .ok (.lastore, 1) := by decide +kernel
theorem dL_takenBy_12 : decode cL_takenBy 12 = .ok (.goto 11, 3) := by decide +kernel
theorem dL_takenBy_15 : decode cL_takenBy 15 = .ok (.astore 5, 2) := by decide +kernel
theorem dL_takenBy_17 : decode cL_takenBy 17 = .ok (.iconst 1, 1) := by decide +kernel
theorem dL_takenBy_18 : decode cL_takenBy 18 = .ok (.ireturn, 1) := by decide +kernel
theorem dL_takenBy_19 : decode cL_takenBy 19 = .ok (.astore 5, 2) := by decide +kernel
theorem dL_takenBy_21 : decode cL_takenBy 21 = .ok (.iconst 2, 1) := by decide +kernel
theorem dL_takenBy_22 : decode cL_takenBy 22 = .ok (.ireturn, 1) := by decide +kernel
theorem dL_takenBy_23 : decode cL_takenBy 23 = .ok (.iconst 0, 1) := by decide +kernel
theorem dL_takenBy_24 : decode cL_takenBy 24 = .ok (.ireturn, 1) := by decide +kernel
set_option maxRecDepth 20000 in
theorem ggL_costOf_X6_costOf : GoodIn wsL_costOf wsX6_costOf := goodIn_ca (goodIn_ca (goodIn_ca (goodIn_r _ [7, 8, 9, 10, 11, 6, 12, 13, 14, 15, 16, 17, 18, 19, 20, 21, 22, 23, 24, 25, 26, 27, 28, 29, 30, 31, 32, 33, 34, 35, 36, 37, 38, 39, 40, 41, 42, 43, 44, 45, 46, 47, 48, 49, 50, 51, 52, 53, 54, 55, 56, 57, 58, 59, 60, 61, 62, 63, 64, 65, 66, 67, 68, 69, 70, 71, 72, 73, 74, 75, 76, 77, 78, 79, 80, 81, 82, 83, 84, 85, 86, 87, 88, 89, 90, 91, 92, 93, 94, 95, 96, 97, 98, 99, 100, 101, 102, 103, 104, 105, 106, 107, 108, 109, 110, 111, 112, 113, 114, 115, 116, 117, 118, 119, 120, 121, 122, 123, 124, 125, 126, 127, 128, 129, 130, 131, 132, 133, 134, 135, 136, 137, 138, 139, 140, 141, 142, 143, 144, 145, 146, 147, 148, 149, 150, 151, 152, 153, 154, 155, 156, 157, 158, 159, 160, 161, 162, 163, 164, 165, 166, 167, 168, 169, 170, 171, 172, 173, 174, 175, 176, 177, 178, 179, 180, 181, 182, 183, 184, 185, 186, 187, 188, 189, 190] (by decide +kernel) (by decide +kernel)) (goodIn_sub (fun _ h => List.mem_cons_of_mem _ (List.mem_append_left _ (List.mem_append_left _ (List.mem_append_right _ h)))) (by decide +kernel))) (goodIn_sub (fun _ h => List.mem_cons_of_mem _ (List.mem_append_left _ (List.mem_append_right _ h))) (by decide +kernel))) (goodIn_sub (fun _ h => List.mem_cons_of_mem _ (List.mem_append_right _ h)) (by decide +kernel))
set_option maxRecDepth 20000 in
theorem gL_costOf_X6_costOf : GoodIn wsL_costOf (wsV RL 59 RX6 yX6_costOf wsX6_costOf) := goodIn_app (goodIn_of _ (by decide +kernel)) ggL_costOf_X6_costOf
theorem dL_costOf_0 : decode cL_costOf 0 = .ok (.aload 4, 2) := by decide +kernel
theorem dL_costOf_2 : decode cL_costOf 2 = .ok (.iconst 0, 1) := by decide +kernel
theorem dL_costOf_3 : decode cL_costOf 3 = .ok (.aload_n 0, 1) := by decide +kernel
theorem dL_costOf_4 : decode cL_costOf 4 = .ok (.iload_n 1, 1) := by decide +kernel
theorem dL_costOf_5 : decode cL_costOf 5 = .ok (.iload_n 2, 1) := by decide +kernel
theorem dL_costOf_6 : decode cL_costOf 6 = .ok (.iload_n 3, 1) := by decide +kernel
theorem dL_costOf_7 : decode cL_costOf 7 = .ok (.invokevirtual 59, 3) := by decide +kernel
theorem dL_costOf_10 : decode cL_costOf 10 = .ok (.i2l, 1) := by decide +kernel
theorem dL_costOf_11 : decode cL_costOf 11 = .ok (.lastore, 1) := by decide +kernel
theorem dL_costOf_12 : decode cL_costOf 12 = .ok (.goto 11, 3) := by decide +kernel
theorem dL_costOf_15 : decode cL_costOf 15 = .ok (.astore 5, 2) := by decide +kernel
theorem dL_costOf_17 : decode cL_costOf 17 = .ok (.iconst 1, 1) := by decide +kernel
theorem dL_costOf_18 : decode cL_costOf 18 = .ok (.ireturn, 1) := by decide +kernel
theorem dL_costOf_19 : decode cL_costOf 19 = .ok (.astore 5, 2) := by decide +kernel
theorem dL_costOf_21 : decode cL_costOf 21 = .ok (.iconst 2, 1) := by decide +kernel
theorem dL_costOf_22 : decode cL_costOf 22 = .ok (.ireturn, 1) := by decide +kernel
theorem dL_costOf_23 : decode cL_costOf 23 = .ok (.iconst 0, 1) := by decide +kernel
theorem dL_costOf_24 : decode cL_costOf 24 = .ok (.ireturn, 1) := by decide +kernel
set_option maxRecDepth 20000 in
theorem ggL_type_X6_type : GoodIn wsL_type wsX6_type := goodIn_ca (goodIn_ca (goodIn_ca (goodIn_r _ [7, 8, 9, 10, 6, 11, 12, 13, 14, 15, 16, 17, 18, 19, 20, 21, 22, 23, 24, 25, 26, 27, 28, 29, 30, 31, 32, 33, 34, 35, 36, 37, 38, 39, 40, 41, 42, 43, 44] (by decide +kernel) (by decide +kernel)) (goodIn_sub (fun _ h => List.mem_cons_of_mem _ (List.mem_append_left _ (List.mem_append_left _ (List.mem_append_right _ h)))) (by decide +kernel))) (goodIn_sub (fun _ h => List.mem_cons_of_mem _ (List.mem_append_left _ (List.mem_append_right _ h))) (by decide +kernel))) (goodIn_sub (fun _ h => List.mem_cons_of_mem _ (List.mem_append_right _ h)) (by decide +kernel))
set_option maxRecDepth 20000 in
theorem gL_type_X6_type : GoodIn wsL_type (wsV RL 62 RX6 yX6_type wsX6_type) := goodIn_app (goodIn_of _ (by decide +kernel)) ggL_type_X6_type
theorem dL_type_0 : decode cL_type 0 = .ok (.aload_n 2, 1) := by decide +kernel
theorem dL_type_1 : decode cL_type 1 = .ok (.iconst 0, 1) := by decide +kernel
theorem dL_type_2 : decode cL_type 2 = .ok (.aload_n 0, 1) := by decide +kernel
theorem dL_type_3 : decode cL_type 3 = .ok (.iload_n 1, 1) := by decide +kernel
theorem dL_type_4 : decode cL_type 4 = .ok (.invokevirtual 62, 3) := by decide +kernel
theorem dL_type_7 : decode cL_type 7 = .ok (.i2l, 1) := by decide +kernel
theorem dL_type_8 : decode cL_type 8 = .ok (.lastore, 1) := by decide +kernel
theorem dL_type_9 : decode cL_type 9 = .ok (.goto 9, 3) := by decide +kernel
theorem dL_type_12 : decode cL_type 12 = .ok (.astore_n 3, 1) := by decide +kernel
theorem dL_type_13 : decode cL_type 13 = .ok (.iconst 1, 1) := by decide +kernel
theorem dL_type_14 : decode cL_type 14 = .ok (.ireturn, 1) := by decide +kernel
theorem dL_type_15 : decode cL_type 15 = .ok (.astore_n 3, 1) := by decide +kernel
theorem dL_type_16 : decode cL_type 16 = .ok (.iconst 2, 1) := by decide +kernel
theorem dL_type_17 : decode cL_type 17 = .ok (.ireturn, 1) := by decide +kernel
theorem dL_type_18 : decode cL_type 18 = .ok (.iconst 0, 1) := by decide +kernel
theorem dL_type_19 : decode cL_type 19 = .ok (.ireturn, 1) := by decide +kernel
set_option maxRecDepth 20000 in
theorem ggL_undo_X6_undo : GoodIn wsL_undo wsX6_undo := goodIn_ca (goodIn_ca (goodIn_ca (goodIn_r _ [6, 7, 8, 9, 10, 5, 11, 12, 13, 14, 15, 16, 17, 18, 19, 20, 21, 22, 23, 24, 25, 26, 27, 28, 29, 30, 31, 32, 33, 34, 35, 36, 37, 38, 39, 40, 41, 42, 43, 44, 45, 46, 47, 48, 49, 50, 51, 52, 53, 54, 55, 56, 57, 58, 59, 60, 61, 62, 63, 64, 65, 66, 67, 68, 69, 70, 71, 72, 73, 74, 75, 76, 77, 78, 79, 80, 81, 82, 83, 84, 85, 86, 87, 88, 89, 90, 91, 92] (by decide +kernel) (by decide +kernel)) (goodIn_sub (fun _ h => List.mem_cons_of_mem _ (List.mem_append_left _ (List.mem_append_left _ (List.mem_append_right _ h)))) (by decide +kernel))) (goodIn_sub (fun _ h => List.mem_cons_of_mem _ (List.mem_append_left _ (List.mem_append_right _ h))) (by decide +kernel))) (goodIn_sub (fun _ h => List.mem_cons_of_mem _ (List.mem_append_right _ h)) (by decide +kernel))
set_option maxRecDepth 20000 in
theorem gL_undo_X6_undo : GoodIn wsL_undo (wsV RL 65 RX6 yX6_undo wsX6_undo) := goodIn_app (goodIn_of _ (by decide +kernel)) ggL_undo_X6_undo
theorem dL_undo_0 : decode cL_undo 0 = .ok (.aload_n 1, 1) := by decide +kernel
theorem dL_undo_1 : decode cL_undo 1 = .ok (.iconst 0, 1) := by decide +kernel
theorem dL_undo_2 : decode cL_undo 2 = .ok (.aload_n 0, 1) := by decide +kernel
theorem dL_undo_3 : decode cL_undo 3 = .ok (.invokevirtual 65, 3) := by decide +kernel
theorem dL_undo_6 : decode cL_undo 6 = .ok (.i2l, 1) := by decide +kernel
theorem dL_undo_7 : decode cL_undo 7 = .ok (.lastore, 1) := by decide +kernel
theorem dL_undo_8 : decode cL_undo 8 = .ok (.goto 6, 3) := by decide +kernel
theorem dL_undo_11 : decode cL_undo 11 = .ok (.astore_n 2, 1) := by decide +kernel
theorem dL_undo_12 : decode cL_undo 12 = .ok (.iconst 1, 1) := by decide +kernel
theorem dL_undo_13 : decode cL_undo 13 = .ok (.ireturn, 1) := by decide +kernel
theorem dL_undo_14 : decode cL_undo 14 = .ok (.iconst 0, 1) := by decide +kernel
theorem dL_undo_15 : decode cL_undo 15 = .ok (.ireturn, 1) := by decide +kernel
set_option maxRecDepth 20000 in
theorem ggL_law_X6_init : GoodIn wsL_law wsX6_init := goodIn_r _ [9, 10, 11, 12, 13, 14, 15, 16, 17, 18, 19, 20, 21, 22, 23, 24, 25, 26, 27, 28, 29, 30, 31, 32, 33, 34, 35, 36, 37, 38, 39, 40, 41, 42, 43, 44, 45, 46, 47, 48, 49, 50, 51, 52, 53, 54, 55, 56, 57, 58, 59, 60, 61, 62, 63, 64, 65, 66, 67, 68, 69, 70, 71, 72, 73, 74, 75, 76, 77, 78, 79, 80, 81, 82, 83, 84, 85, 86, 87, 88, 89, 90, 91, 1058, 1059, 1060, 1061, 1062, 1063, 1064, 1065, 1066, 1067, 1068, 1069, 1070, 1071, 1072, 1073, 1074, 1075, 1038, 1039, 1040, 1041, 1076, 1077, 1078, 1079, 1080, 1081, 1082, 1083, 1084, 1085, 1086, 1087, 1088, 1089, 1090] (by decide +kernel) (by decide +kernel)
set_option maxRecDepth 20000 in
theorem gL_law_X6_init : GoodIn wsL_law (wsX6_init) := ggL_law_X6_init
set_option maxRecDepth 20000 in
theorem ggL_law_X7_init : GoodIn wsL_law wsX7_init := goodIn_r _ [94, 95, 11, 12, 58, 96, 97, 98, 99, 100, 101, 1042, 1043, 1044, 1045, 1046, 1047, 1048, 1049, 1050, 1051, 1052, 1053, 1054, 1055, 1056, 1057] (by decide +kernel) (by decide +kernel)
set_option maxRecDepth 20000 in
theorem gL_law_X7_init : GoodIn wsL_law (wsX7_init) := ggL_law_X7_init
set_option maxRecDepth 20000 in
theorem ggL_law_L_cut : GoodIn wsL_law wsL_cut := goodIn_ca (goodIn_ca (goodIn_ca (goodIn_r _ [105, 106, 107, 108, 109, 110, 2, 111, 20, 16, 112, 113, 114, 115, 116, 117, 118, 119, 120, 121, 122, 123, 124, 125, 126, 127, 128, 129, 130, 131, 132, 19, 133, 70, 71, 134, 135, 136, 137, 69, 138, 139, 140, 15, 141, 36, 37, 38, 39, 40, 41, 42, 43, 44, 45, 46, 47, 48, 49, 50, 51, 52, 53, 142, 143, 144, 35, 145, 59, 146, 147, 148, 149, 150, 151, 152, 153, 154, 155, 156, 157, 158, 159, 160, 161, 162, 163, 164, 165, 166, 167, 168, 169, 170, 171, 172, 173, 1038, 1039, 1040, 1041, 1076, 1077, 1078, 1058, 1059, 1060, 1061, 1062, 1063, 1064, 1065, 1066, 1067, 1068, 1069, 1070, 1071, 1072, 1073, 1074, 1075, 1090] (by decide +kernel) (by decide +kernel)) (goodIn_sub (fun _ h => List.mem_append_left _ (List.mem_append_left _ (List.mem_append_right _ h))) (by decide +kernel))) (goodIn_sub (fun _ h => List.mem_append_left _ (List.mem_append_right _ h)) (by decide +kernel))) (goodIn_sub (fun _ h => List.mem_append_right _ h) (by decide +kernel))
set_option maxRecDepth 20000 in
theorem gL_law_L_cut : GoodIn wsL_law (va_wsS RL 72 yL_cut wsL_cut) := goodIn_app (goodIn_of _ (by decide +kernel)) ggL_law_L_cut
set_option maxRecDepth 20000 in
theorem ggL_law_X7_cut : GoodIn wsL_law wsX7_cut := goodIn_r _ [177, 178, 179, 180, 5, 181, 182, 183, 184, 185, 186, 187, 188, 189, 97, 96, 190, 191, 192, 193, 194, 195, 196, 197, 198, 199, 200, 201, 202, 203, 204, 205, 1042, 1043, 1044, 1045, 1046, 1047, 1048, 1049, 1050, 1051, 1052, 1053, 1054, 1055, 1056, 1057] (by decide +kernel) (by decide +kernel)
set_option maxRecDepth 20000 in
theorem gL_law_X7_cut : GoodIn wsL_law (wsV RL 77 RX7 yX7_cut wsX7_cut) := goodIn_app (goodIn_of _ (by decide +kernel)) ggL_law_X7_cut
set_option maxRecDepth 20000 in
theorem ggL_law_X7_thrown : GoodIn wsL_law wsX7_thrown := goodIn_r _ [209, 178, 1042, 1043, 1044, 1045, 1046, 1047, 1048, 1049, 1050, 1051, 1052, 1053, 1054, 1055, 1056, 1057] (by decide +kernel) (by decide +kernel)
set_option maxRecDepth 20000 in
theorem gL_law_X7_thrown : GoodIn wsL_law (wsV RL 78 RX7 yX7_thrown wsX7_thrown) := goodIn_app (goodIn_of _ (by decide +kernel)) ggL_law_X7_thrown
set_option maxRecDepth 20000 in
theorem ggL_law_L_use : GoodIn wsL_law wsL_use := goodIn_ca (goodIn_ca (goodIn_ca (goodIn_r _ [212, 106, 107, 213, 214, 215, 216, 2, 217, 20, 16, 28, 218, 219, 220, 221, 222, 223, 224, 115, 116, 117, 118, 119, 120, 225, 226, 227, 228, 229, 230, 27, 231, 90, 91, 87, 232, 233, 234, 235, 88, 89, 236, 167, 168, 15, 169, 39, 158, 159, 160, 35, 161, 59, 237, 238, 239, 240, 241, 242, 243, 244, 36, 245, 246, 247, 248, 249, 250, 251, 252, 253, 254, 37, 255, 256, 257, 258, 38, 259, 260, 261, 262, 46, 45, 41, 40, 263, 264, 265, 266, 267, 268, 269, 270, 271, 272, 273, 274, 275, 276, 277, 278, 279, 280, 281, 282, 283, 284, 285, 286, 287, 288, 289, 290, 291, 292, 293, 43, 48, 294, 295, 296, 297, 42, 298, 299, 148, 300, 301, 302, 303, 304, 305, 306, 307, 308, 309, 310, 311, 312, 313, 314, 315, 316, 317, 318, 319, 320, 321, 322, 323, 324, 121, 122, 123, 124, 125, 126, 127, 128, 129, 130, 131, 132, 19, 133, 70, 71, 134, 135, 136, 137, 69, 138, 139, 140, 141, 44, 47, 49, 50, 51, 52, 53, 142, 143, 144, 145, 146, 147, 149, 150, 151, 152, 153, 325, 326, 327, 328, 329, 330, 331, 332, 333, 334, 335, 336, 337, 338, 166, 162, 163, 164, 165, 339, 340, 341, 342, 170, 171, 172, 173, 1038, 1039, 1040, 1041, 1085, 1086, 1087, 1088, 1089, 1058, 1059, 1060, 1061, 1062, 1063, 1064, 1065, 1066, 1067, 1068, 1069, 1070, 1071, 1072, 1073, 1074, 1075, 1090, 1076, 1077, 1078] (by decide +kernel) (by decide +kernel)) (goodIn_sub (fun _ h => List.mem_append_left _ (List.mem_append_left _ (List.mem_append_right _ h))) (by decide +kernel))) (goodIn_sub (fun _ h => List.mem_append_left _ (List.mem_append_right _ h)) (by decide +kernel))) (goodIn_sub (fun _ h => List.mem_append_right _ h) (by decide +kernel))
set_option maxRecDepth 20000 in
theorem gL_law_L_use : GoodIn wsL_law (va_wsS RL 81 yL_use wsL_use) := goodIn_app (goodIn_of _ (by decide +kernel)) ggL_law_L_use
set_option maxRecDepth 20000 in
theorem ggL_law_X7_use : GoodIn wsL_law wsX7_use := goodIn_r _ [346, 178, 347, 348, 349, 5, 350, 182, 183, 184, 351, 352, 353, 354, 355, 356, 357, 358, 359, 194, 195, 196, 197, 198, 199, 200, 201, 96, 360, 361, 362, 363, 364, 365, 366, 367, 368, 369, 370, 371, 372, 373, 374, 375, 376, 377, 378, 99, 379, 380, 381, 382, 383, 384, 385, 386, 387, 388, 389, 390, 391, 392, 393, 394, 395, 396, 397, 398, 399, 400, 401, 402, 403, 404, 405, 406, 407, 408, 409, 410, 411, 412, 413, 414, 415, 416, 417, 418, 419, 420, 421, 422, 185, 186, 187, 188, 189, 97, 423, 424, 425, 426, 427, 428, 429, 430, 431, 432, 433, 434, 435, 436, 437, 438, 202, 203, 204, 205, 1042, 1043, 1044, 1045, 1046, 1047, 1048, 1049, 1050, 1051, 1052, 1053, 1054, 1055, 1056, 1057] (by decide +kernel) (by decide +kernel)
set_option maxRecDepth 20000 in
theorem gL_law_X7_use : GoodIn wsL_law (wsV RL 83 RX7 yX7_use wsX7_use) := goodIn_app (goodIn_of _ (by decide +kernel)) ggL_law_X7_use
set_option maxRecDepth 20000 in
theorem ggL_law_L_drop : GoodIn wsL_law wsL_drop := goodIn_ca (goodIn_ca (goodIn_ca (goodIn_r _ [441, 106, 107, 213, 442, 443, 444, 2, 445, 20, 16, 446, 447, 448, 449, 222, 223, 224, 115, 116, 117, 118, 119, 120, 225, 226, 227, 450, 167, 168, 15, 169, 39, 158, 159, 160, 35, 161, 59, 121, 122, 123, 124, 125, 126, 127, 128, 129, 130, 131, 132, 19, 133, 70, 71, 134, 135, 136, 137, 69, 138, 139, 140, 141, 36, 37, 38, 40, 41, 42, 43, 44, 45, 46, 47, 48, 49, 50, 51, 52, 53, 142, 143, 144, 145, 146, 147, 148, 149, 150, 151, 152, 153, 451, 452, 453, 454, 170, 171, 172, 173, 162, 163, 164, 165, 1038, 1039, 1040, 1041, 1058, 1059, 1060, 1061, 1062, 1063, 1064, 1065, 1066, 1067, 1068, 1069, 1070, 1071, 1072, 1073, 1074, 1075, 1090, 1076, 1077, 1078] (by decide +kernel) (by decide +kernel)) (goodIn_sub (fun _ h => List.mem_append_left _ (List.mem_append_left _ (List.mem_append_right _ h))) (by decide +kernel))) (goodIn_sub (fun _ h => List.mem_append_left _ (List.mem_append_right _ h)) (by decide +kernel))) (goodIn_sub (fun _ h => List.mem_append_right _ h) (by decide +kernel))
set_option maxRecDepth 20000 in
theorem gL_law_L_drop : GoodIn wsL_law (va_wsS RL 84 yL_drop wsL_drop) := goodIn_app (goodIn_of _ (by decide +kernel)) ggL_law_L_drop
set_option maxRecDepth 20000 in
theorem ggL_law_X7_drop : GoodIn wsL_law wsX7_drop := goodIn_r _ [458, 178, 348, 349, 5, 350, 182, 183, 184, 351, 352, 353, 194, 195, 196, 197, 198, 199, 200, 201, 96, 185, 186, 187, 188, 189, 97, 202, 203, 204, 205, 1042, 1043, 1044, 1045, 1046, 1047, 1048, 1049, 1050, 1051, 1052, 1053, 1054, 1055, 1056, 1057] (by decide +kernel) (by decide +kernel)
set_option maxRecDepth 20000 in
theorem gL_law_X7_drop : GoodIn wsL_law (wsV RL 86 RX7 yX7_drop wsX7_drop) := goodIn_app (goodIn_of _ (by decide +kernel)) ggL_law_X7_drop
set_option maxRecDepth 20000 in
theorem ggL_law_X6_newLine : GoodIn wsL_law wsX6_newLine := goodIn_r _ [462, 20, 16, 130, 131, 132, 19, 133, 70, 71, 134, 135, 136, 137, 69, 138, 139, 140, 15, 141, 36, 37, 38, 39, 40, 41, 42, 43, 44, 45, 46, 47, 48, 49, 50, 51, 52, 53, 142, 143, 144, 35, 145, 59, 146, 147, 148, 149, 150, 151, 152, 153, 463, 464, 465, 466, 467, 468, 469, 470, 158, 159, 160, 161, 290, 291, 292, 293, 1038, 1039, 1040, 1041, 1076, 1077, 1078, 1058, 1059, 1060, 1061, 1062, 1063, 1064, 1065, 1066, 1067, 1068, 1069, 1070, 1071, 1072, 1073, 1074, 1075, 1090] (by decide +kernel) (by decide +kernel)
set_option maxRecDepth 20000 in
theorem gL_law_X6_newLine : GoodIn wsL_law (wsV RL 87 RX6 yX6_newLine wsX6_newLine) := goodIn_app (goodIn_of _ (by decide +kernel)) ggL_law_X6_newLine
set_option maxRecDepth 20000 in
theorem ggL_law_X7_newLine : GoodIn wsL_law wsX7_newLine := goodIn_r _ [474, 178, 96, 185, 186, 187, 5, 188, 189, 97, 475, 476, 477, 478, 411, 412, 413, 414, 194, 195, 196, 197, 198, 199, 200, 201, 1042, 1043, 1044, 1045, 1046, 1047, 1048, 1049, 1050, 1051, 1052, 1053, 1054, 1055, 1056, 1057] (by decide +kernel) (by decide +kernel)
set_option maxRecDepth 20000 in
theorem gL_law_X7_newLine : GoodIn wsL_law (wsV RL 90 RX7 yX7_newLine wsX7_newLine) := goodIn_app (goodIn_of _ (by decide +kernel)) ggL_law_X7_newLine
set_option maxRecDepth 20000 in
theorem ggL_law_L_addTray : GoodIn wsL_law wsL_addTray := goodIn_ca (goodIn_ca (goodIn_ca (goodIn_r _ [481, 213, 482, 483, 484, 2, 485, 20, 16, 486, 487, 488, 489, 121, 122, 123, 124, 125, 126, 127, 128, 129, 130, 131, 132, 19, 133, 70, 71, 134, 135, 136, 137, 69, 138, 139, 140, 15, 141, 36, 37, 38, 39, 40, 41, 42, 43, 44, 45, 46, 47, 48, 49, 50, 51, 52, 53, 142, 143, 144, 35, 145, 59, 146, 147, 148, 149, 150, 151, 152, 153, 490, 491, 492, 493, 1038, 1039, 1040, 1041, 1058, 1059, 1060, 1061, 1062, 1063, 1064, 1065, 1066, 1067, 1068, 1069, 1070, 1071, 1072, 1073, 1074, 1075, 1076, 1077, 1078, 1090] (by decide +kernel) (by decide +kernel)) (goodIn_sub (fun _ h => List.mem_append_left _ (List.mem_append_left _ (List.mem_append_right _ h))) (by decide +kernel))) (goodIn_sub (fun _ h => List.mem_append_left _ (List.mem_append_right _ h)) (by decide +kernel))) (goodIn_sub (fun _ h => List.mem_append_right _ h) (by decide +kernel))
set_option maxRecDepth 20000 in
theorem gL_law_L_addTray : GoodIn wsL_law (va_wsS RL 91 yL_addTray wsL_addTray) := goodIn_app (goodIn_of _ (by decide +kernel)) ggL_law_L_addTray
set_option maxRecDepth 20000 in
theorem ggL_law_X7_addTray : GoodIn wsL_law wsX7_addTray := goodIn_r _ [497, 96, 178, 185, 186, 187, 5, 188, 189, 97, 498, 499, 500, 501, 1042, 1043, 1044, 1045, 1046, 1047, 1048, 1049, 1050, 1051, 1052, 1053, 1054, 1055, 1056, 1057] (by decide +kernel) (by decide +kernel)
set_option maxRecDepth 20000 in
theorem gL_law_X7_addTray : GoodIn wsL_law (wsV RL 94 RX7 yX7_addTray wsX7_addTray) := goodIn_app (goodIn_of _ (by decide +kernel)) ggL_law_X7_addTray
set_option maxRecDepth 20000 in
theorem ggL_law_X6_closeShelves : GoodIn wsL_law wsX6_closeShelves := goodIn_r _ [505, 20, 16, 130, 131, 132, 19, 133, 70, 71, 134, 135, 136, 137, 69, 138, 139, 140, 15, 141, 36, 37, 38, 39, 40, 41, 42, 43, 44, 45, 46, 47, 48, 49, 50, 51, 52, 53, 142, 143, 144, 35, 145, 59, 146, 147, 148, 149, 150, 151, 152, 153, 506, 507, 508, 509, 158, 159, 160, 161, 510, 302, 303, 304, 511, 512, 513, 514, 162, 163, 164, 165, 1038, 1039, 1040, 1041, 1076, 1077, 1078, 1058, 1059, 1060, 1061, 1062, 1063, 1064, 1065, 1066, 1067, 1068, 1069, 1070, 1071, 1072, 1073, 1074, 1075, 1090] (by decide +kernel) (by decide +kernel)
set_option maxRecDepth 20000 in
theorem gL_law_X6_closeShelves : GoodIn wsL_law (wsV RL 95 RX6 yX6_closeShelves wsX6_closeShelves) := goodIn_app (goodIn_of _ (by decide +kernel)) ggL_law_X6_closeShelves
set_option maxRecDepth 20000 in
theorem ggL_law_X7_closeShelves : GoodIn wsL_law wsX7_closeShelves := goodIn_r _ [518, 178, 185, 186, 187, 5, 188, 189, 97, 96, 519, 520, 521, 522, 415, 416, 417, 418, 383, 384, 385, 386, 198, 199, 200, 201, 367, 368, 369, 370, 1042, 1043, 1044, 1045, 1046, 1047, 1048, 1049, 1050, 1051, 1052, 1053, 1054, 1055, 1056, 1057] (by decide +kernel) (by decide +kernel)
set_option maxRecDepth 20000 in
theorem gL_law_X7_closeShelves : GoodIn wsL_law (wsV RL 98 RX7 yX7_closeShelves wsX7_closeShelves) := goodIn_app (goodIn_of _ (by decide +kernel)) ggL_law_X7_closeShelves
set_option maxRecDepth 20000 in
theorem ggL_law_L_letter : GoodIn wsL_law wsL_letter := goodIn_ca (goodIn_ca (goodIn_ca (goodIn_r _ [525, 106, 107, 526, 527, 528, 2, 529, 16, 222, 223, 224, 115, 116, 117, 118, 119, 120, 121, 122, 123, 124, 125, 126, 127, 128, 129, 530, 531, 532, 225, 226, 227, 533, 534, 535, 15, 536, 42, 43, 44, 337, 242, 243, 244, 36, 245, 246, 158, 159, 160, 35, 161, 59, 247, 248, 249, 250, 338, 252, 253, 254, 37, 166, 167, 168, 169, 39, 537, 538, 539, 540, 541, 542, 543, 544, 40, 545, 546, 547, 548, 38, 1038, 1039, 1040, 1041, 1058, 1059, 1060, 1061, 1062, 1063, 1064, 1065, 1066, 1067, 1068, 1069, 1070, 1071, 1072, 1073, 1074, 1075, 1090] (by decide +kernel) (by decide +kernel)) (goodIn_sub (fun _ h => List.mem_append_left _ (List.mem_append_left _ (List.mem_append_right _ h))) (by decide +kernel))) (goodIn_sub (fun _ h => List.mem_append_left _ (List.mem_append_right _ h)) (by decide +kernel))) (goodIn_sub (fun _ h => List.mem_append_right _ h) (by decide +kernel))
set_option maxRecDepth 20000 in
theorem gL_law_L_letter : GoodIn wsL_law (va_wsS RL 99 yL_letter wsL_letter) := goodIn_app (goodIn_of _ (by decide +kernel)) ggL_law_L_letter
set_option maxRecDepth 20000 in
theorem ggL_law_X7_letter : GoodIn wsL_law wsX7_letter := goodIn_r _ [552, 178, 348, 349, 5, 350, 182, 183, 184, 351, 352, 353, 553, 554, 555, 556, 379, 380, 381, 382, 96, 371, 372, 373, 374, 194, 195, 196, 197, 198, 199, 200, 201, 557, 558, 559, 560, 395, 396, 397, 398, 367, 368, 369, 370, 1042, 1043, 1044, 1045, 1046, 1047, 1048, 1049, 1050, 1051, 1052, 1053, 1054, 1055, 1056, 1057] (by decide +kernel) (by decide +kernel)
set_option maxRecDepth 20000 in
theorem gL_law_X7_letter : GoodIn wsL_law (wsV RL 102 RX7 yX7_letter wsX7_letter) := goodIn_app (goodIn_of _ (by decide +kernel)) ggL_law_X7_letter
set_option maxRecDepth 20000 in
theorem ggL_law_L_sign : GoodIn wsL_law wsL_sign := goodIn_ca (goodIn_ca (goodIn_ca (goodIn_r _ [563, 106, 107, 564, 565, 566, 2, 567, 16, 115, 116, 117, 118, 119, 120, 121, 122, 123, 124, 125, 126, 127, 128, 129, 530, 531, 532, 568, 569, 570, 15, 571, 36, 37, 158, 159, 160, 35, 161, 59, 572, 573, 574, 575, 46, 45, 245, 246, 537, 538, 539, 540, 39, 576, 577, 578, 579, 313, 314, 315, 316, 1038, 1039, 1040, 1041, 1058, 1059, 1060, 1061, 1062, 1063, 1064, 1065, 1066, 1067, 1068, 1069, 1070, 1071, 1072, 1073, 1074, 1075, 1090] (by decide +kernel) (by decide +kernel)) (goodIn_sub (fun _ h => List.mem_append_left _ (List.mem_append_left _ (List.mem_append_right _ h))) (by decide +kernel))) (goodIn_sub (fun _ h => List.mem_append_left _ (List.mem_append_right _ h)) (by decide +kernel))) (goodIn_sub (fun _ h => List.mem_append_right _ h) (by decide +kernel))
set_option maxRecDepth 20000 in
theorem gL_law_L_sign : GoodIn wsL_law (va_wsS RL 103 yL_sign wsL_sign) := goodIn_app (goodIn_of _ (by decide +kernel)) ggL_law_L_sign
set_option maxRecDepth 20000 in
theorem ggL_law_X7_sign : GoodIn wsL_law wsX7_sign := goodIn_r _ [583, 178, 182, 183, 5, 184, 584, 585, 586, 587, 96, 194, 195, 196, 197, 198, 199, 200, 201, 557, 558, 559, 560, 1042, 1043, 1044, 1045, 1046, 1047, 1048, 1049, 1050, 1051, 1052, 1053, 1054, 1055, 1056, 1057] (by decide +kernel) (by decide +kernel)
set_option maxRecDepth 20000 in
theorem gL_law_X7_sign : GoodIn wsL_law (wsV RL 106 RX7 yX7_sign wsX7_sign) := goodIn_app (goodIn_of _ (by decide +kernel)) ggL_law_X7_sign
set_option maxRecDepth 20000 in
theorem ggL_law_L_tray : GoodIn wsL_law wsL_tray := goodIn_ca (goodIn_ca (goodIn_ca (goodIn_r _ [590, 106, 107, 591, 592, 593, 2, 594, 16, 595, 596, 597, 598, 118, 119, 120, 121, 122, 123, 124, 125, 126, 127, 128, 129, 530, 531, 532, 599, 600, 601, 15, 602, 603, 279, 280, 281, 38, 158, 159, 160, 35, 161, 59, 604, 275, 276, 277, 605, 606, 607, 608, 46, 45, 609, 610, 611, 612, 39, 537, 538, 539, 540, 613, 614, 615, 616, 617, 618, 619, 620, 337, 242, 243, 244, 36, 245, 246, 247, 248, 249, 250, 338, 252, 253, 254, 37, 1038, 1039, 1040, 1041, 1058, 1059, 1060, 1061, 1062, 1063, 1064, 1065, 1066, 1067, 1068, 1069, 1070, 1071, 1072, 1073, 1074, 1075, 1090] (by decide +kernel) (by decide +kernel)) (goodIn_sub (fun _ h => List.mem_append_left _ (List.mem_append_left _ (List.mem_append_right _ h))) (by decide +kernel))) (goodIn_sub (fun _ h => List.mem_append_left _ (List.mem_append_right _ h)) (by decide +kernel))) (goodIn_sub (fun _ h => List.mem_append_right _ h) (by decide +kernel))
set_option maxRecDepth 20000 in
theorem gL_law_L_tray : GoodIn wsL_law (va_wsS RL 107 yL_tray wsL_tray) := goodIn_app (goodIn_of _ (by decide +kernel)) ggL_law_L_tray
set_option maxRecDepth 20000 in
theorem ggL_law_X7_tray : GoodIn wsL_law wsX7_tray := goodIn_r _ [624, 178, 625, 626, 627, 5, 628, 96, 182, 183, 184, 629, 630, 631, 632, 198, 199, 200, 201, 431, 432, 433, 434, 379, 380, 381, 382, 371, 372, 373, 374, 395, 396, 397, 398, 367, 368, 369, 370, 1042, 1043, 1044, 1045, 1046, 1047, 1048, 1049, 1050, 1051, 1052, 1053, 1054, 1055, 1056, 1057] (by decide +kernel) (by decide +kernel)
set_option maxRecDepth 20000 in
theorem gL_law_X7_tray : GoodIn wsL_law (wsV RL 109 RX7 yX7_tray wsX7_tray) := goodIn_app (goodIn_of _ (by decide +kernel)) ggL_law_X7_tray
set_option maxRecDepth 20000 in
theorem ggL_law_L_shelf : GoodIn wsL_law wsL_shelf := goodIn_ca (goodIn_ca (goodIn_ca (goodIn_r _ [635, 106, 107, 636, 637, 638, 2, 639, 16, 595, 596, 597, 598, 118, 119, 120, 640, 641, 642, 643, 644, 279, 280, 15, 281, 38, 158, 159, 160, 35, 161, 59, 121, 122, 123, 124, 125, 126, 127, 128, 129, 530, 531, 532, 645, 646, 647, 648, 545, 546, 547, 548, 510, 302, 303, 304, 46, 39, 45, 649, 260, 261, 262, 41, 40, 650, 651, 265, 652, 267, 268, 269, 653, 654, 655, 656, 299, 148, 300, 657, 295, 296, 297, 42, 298, 658, 287, 288, 289, 290, 291, 292, 293, 43, 48, 1038, 1039, 1040, 1041, 1058, 1059, 1060, 1061, 1062, 1063, 1064, 1065, 1066, 1067, 1068, 1069, 1070, 1071, 1072, 1073, 1074, 1075, 1090] (by decide +kernel) (by decide +kernel)) (goodIn_sub (fun _ h => List.mem_append_left _ (List.mem_append_left _ (List.mem_append_right _ h))) (by decide +kernel))) (goodIn_sub (fun _ h => List.mem_append_left _ (List.mem_append_right _ h)) (by decide +kernel))) (goodIn_sub (fun _ h => List.mem_append_right _ h) (by decide +kernel))
set_option maxRecDepth 20000 in
theorem gL_law_L_shelf : GoodIn wsL_law (va_wsS RL 110 yL_shelf wsL_shelf) := goodIn_app (goodIn_of _ (by decide +kernel)) ggL_law_L_shelf
set_option maxRecDepth 20000 in
theorem ggL_law_X7_shelf : GoodIn wsL_law wsX7_shelf := goodIn_r _ [662, 96, 178, 625, 626, 627, 5, 628, 182, 183, 184, 663, 664, 665, 666, 395, 396, 397, 398, 367, 368, 369, 370, 415, 416, 417, 418, 383, 384, 385, 386, 198, 199, 200, 201, 667, 668, 669, 670, 375, 376, 377, 378, 99, 379, 380, 381, 382, 387, 388, 389, 390, 403, 404, 405, 406, 407, 408, 409, 410, 411, 412, 413, 414, 194, 195, 196, 197, 1042, 1043, 1044, 1045, 1046, 1047, 1048, 1049, 1050, 1051, 1052, 1053, 1054, 1055, 1056, 1057] (by decide +kernel) (by decide +kernel)
set_option maxRecDepth 20000 in
theorem gL_law_X7_shelf : GoodIn wsL_law (wsV RL 112 RX7 yX7_shelf wsX7_shelf) := goodIn_app (goodIn_of _ (by decide +kernel)) ggL_law_X7_shelf
set_option maxRecDepth 20000 in
theorem ggL_law_L_at : GoodIn wsL_law wsL_at := goodIn_ca (goodIn_ca (goodIn_ca (goodIn_r _ [673, 106, 107, 674, 675, 676, 2, 677, 16, 595, 596, 597, 598, 118, 119, 120, 121, 122, 123, 124, 125, 126, 127, 128, 129, 678, 679, 680, 15, 681, 46, 45, 158, 159, 160, 35, 161, 59, 609, 610, 611, 612, 39, 537, 538, 539, 540, 682, 683, 684, 685, 40, 41, 545, 546, 547, 548, 38, 338, 252, 253, 254, 37, 245, 246, 247, 248, 249, 250, 686, 687, 688, 689, 690, 691, 1038, 1039, 1040, 1041, 1058, 1059, 1060, 1061, 1062, 1063, 1064, 1065, 1066, 1067, 1068, 1069, 1070, 1071, 1072, 1073, 1074, 1075, 1090] (by decide +kernel) (by decide +kernel)) (goodIn_sub (fun _ h => List.mem_append_left _ (List.mem_append_left _ (List.mem_append_right _ h))) (by decide +kernel))) (goodIn_sub (fun _ h => List.mem_append_left _ (List.mem_append_right _ h)) (by decide +kernel))) (goodIn_sub (fun _ h => List.mem_append_right _ h) (by decide +kernel))
set_option maxRecDepth 20000 in
theorem gL_law_L_at : GoodIn wsL_law (va_wsS RL 113 yL_at wsL_at) := goodIn_app (goodIn_of _ (by decide +kernel)) ggL_law_L_at
set_option maxRecDepth 20000 in
theorem ggL_law_X7_at : GoodIn wsL_law wsX7_at := goodIn_r _ [695, 178, 625, 626, 627, 5, 628, 96, 182, 183, 184, 198, 199, 200, 201, 395, 396, 397, 398, 367, 368, 369, 370, 379, 380, 381, 382, 371, 372, 373, 374, 696, 697, 698, 1042, 1043, 1044, 1045, 1046, 1047, 1048, 1049, 1050, 1051, 1052, 1053, 1054, 1055, 1056, 1057] (by decide +kernel) (by decide +kernel)
set_option maxRecDepth 20000 in
theorem gL_law_X7_at : GoodIn wsL_law (wsV RL 115 RX7 yX7_at wsX7_at) := goodIn_app (goodIn_of _ (by decide +kernel)) ggL_law_X7_at
set_option maxRecDepth 20000 in
theorem ggL_law_L_street : GoodIn wsL_law wsL_street := goodIn_ca (goodIn_ca (goodIn_ca (goodIn_r _ [701, 107, 702, 703, 704, 2, 705, 16, 121, 122, 123, 124, 125, 126, 127, 128, 129, 706, 707, 708, 15, 709, 46, 45, 158, 159, 160, 35, 161, 59, 313, 314, 315, 316, 39, 686, 687, 688, 689, 245, 246, 690, 247, 248, 691, 249, 250, 1038, 1039, 1040, 1041, 1058, 1059, 1060, 1061, 1062, 1063, 1064, 1065, 1066, 1067, 1068, 1069, 1070, 1071, 1072, 1073, 1074, 1075, 1090] (by decide +kernel) (by decide +kernel)) (goodIn_sub (fun _ h => List.mem_append_left _ (List.mem_append_left _ (List.mem_append_right _ h))) (by decide +kernel))) (goodIn_sub (fun _ h => List.mem_append_left _ (List.mem_append_right _ h)) (by decide +kernel))) (goodIn_sub (fun _ h => List.mem_append_right _ h) (by decide +kernel))
set_option maxRecDepth 20000 in
theorem gL_law_L_street : GoodIn wsL_law (va_wsS RL 116 yL_street wsL_street) := goodIn_app (goodIn_of _ (by decide +kernel)) ggL_law_L_street
set_option maxRecDepth 20000 in
theorem ggL_law_X7_street : GoodIn wsL_law wsX7_street := goodIn_r _ [713, 178, 714, 715, 716, 5, 717, 96, 696, 697, 698, 1042, 1043, 1044, 1045, 1046, 1047, 1048, 1049, 1050, 1051, 1052, 1053, 1054, 1055, 1056, 1057] (by decide +kernel) (by decide +kernel)
set_option maxRecDepth 20000 in
theorem gL_law_X7_street : GoodIn wsL_law (wsV RL 119 RX7 yX7_street wsX7_street) := goodIn_app (goodIn_of _ (by decide +kernel)) ggL_law_X7_street
set_option maxRecDepth 20000 in
theorem ggL_law_L_whole : GoodIn wsL_law wsL_whole := goodIn_ca (goodIn_ca (goodIn_ca (goodIn_r _ [720, 107, 721, 722, 723, 2, 724, 24, 16, 530, 531, 532, 118, 119, 120, 121, 122, 123, 124, 125, 126, 127, 128, 129, 725, 726, 727, 15, 728, 47, 46, 48, 49, 50, 51, 52, 53, 729, 730, 731, 732, 603, 279, 280, 281, 38, 158, 159, 160, 35, 161, 59, 733, 310, 311, 312, 45, 313, 314, 315, 316, 39, 467, 468, 469, 470, 290, 291, 292, 293, 43, 734, 735, 736, 737, 537, 538, 539, 540, 617, 618, 619, 620, 337, 242, 243, 244, 36, 245, 246, 247, 248, 249, 250, 338, 252, 253, 254, 37, 1038, 1039, 1040, 1041, 1079, 1080, 1081, 1082, 1083, 1084, 1058, 1059, 1060, 1061, 1062, 1063, 1064, 1065, 1066, 1067, 1068, 1069, 1070, 1071, 1072, 1073, 1074, 1075, 1090] (by decide +kernel) (by decide +kernel)) (goodIn_sub (fun _ h => List.mem_append_left _ (List.mem_append_left _ (List.mem_append_right _ h))) (by decide +kernel))) (goodIn_sub (fun _ h => List.mem_append_left _ (List.mem_append_right _ h)) (by decide +kernel))) (goodIn_sub (fun _ h => List.mem_append_right _ h) (by decide +kernel))
set_option maxRecDepth 20000 in
theorem gL_law_L_whole : GoodIn wsL_law (va_wsS RL 120 yL_whole wsL_whole) := goodIn_app (goodIn_of _ (by decide +kernel)) ggL_law_L_whole
set_option maxRecDepth 20000 in
theorem ggL_law_X7_whole : GoodIn wsL_law wsX7_whole := goodIn_r _ [741, 178, 182, 183, 5, 184, 742, 743, 744, 745, 96, 746, 747, 748, 749, 750, 629, 630, 631, 632, 198, 199, 200, 201, 431, 432, 433, 434, 379, 380, 381, 382, 371, 372, 373, 374, 395, 396, 397, 398, 367, 368, 369, 370, 475, 476, 477, 478, 411, 412, 413, 414, 194, 195, 196, 197, 1042, 1043, 1044, 1045, 1046, 1047, 1048, 1049, 1050, 1051, 1052, 1053, 1054, 1055, 1056, 1057] (by decide +kernel) (by decide +kernel)
set_option maxRecDepth 20000 in
theorem gL_law_X7_whole : GoodIn wsL_law (wsV RL 122 RX7 yX7_whole wsX7_whole) := goodIn_app (goodIn_of _ (by decide +kernel)) ggL_law_X7_whole
set_option maxRecDepth 20000 in
theorem ggL_law_L_rule : GoodIn wsL_law wsL_rule := goodIn_ca (goodIn_ca (goodIn_ca (goodIn_r _ [753, 106, 107, 754, 755, 756, 2, 757, 28, 16, 222, 223, 224, 115, 116, 117, 118, 119, 120, 121, 122, 123, 124, 125, 126, 127, 128, 129, 225, 226, 227, 228, 229, 230, 27, 231, 90, 91, 87, 232, 233, 234, 235, 88, 89, 236, 167, 168, 15, 169, 39, 158, 159, 160, 35, 161, 59, 237, 238, 239, 240, 241, 242, 243, 244, 36, 245, 246, 247, 248, 249, 250, 251, 252, 253, 254, 37, 255, 256, 257, 258, 38, 259, 260, 261, 262, 46, 45, 41, 40, 263, 264, 265, 266, 267, 268, 269, 270, 271, 272, 273, 274, 275, 276, 277, 278, 279, 280, 281, 282, 283, 284, 285, 286, 287, 288, 289, 290, 291, 292, 293, 43, 48, 294, 295, 296, 297, 42, 298, 299, 148, 300, 301, 302, 303, 304, 305, 306, 307, 308, 309, 310, 311, 312, 313, 314, 315, 316, 317, 318, 319, 320, 321, 322, 323, 324, 1038, 1039, 1040, 1041, 1085, 1086, 1087, 1088, 1089, 1058, 1059, 1060, 1061, 1062, 1063, 1064, 1065, 1066, 1067, 1068, 1069, 1070, 1071, 1072, 1073, 1074, 1075, 1090] (by decide +kernel) (by decide +kernel)) (goodIn_sub (fun _ h => List.mem_append_left _ (List.mem_append_left _ (List.mem_append_right _ h))) (by decide +kernel))) (goodIn_sub (fun _ h => List.mem_append_left _ (List.mem_append_right _ h)) (by decide +kernel))) (goodIn_sub (fun _ h => List.mem_append_right _ h) (by decide +kernel))
set_option maxRecDepth 20000 in
theorem gL_law_L_rule : GoodIn wsL_law (va_wsS RL 123 yL_rule wsL_rule) := goodIn_app (goodIn_of _ (by decide +kernel)) ggL_law_L_rule
set_option maxRecDepth 20000 in
theorem ggL_law_X7_rule : GoodIn wsL_law wsX7_rule := goodIn_r _ [761, 178, 347, 348, 349, 5, 350, 182, 183, 184, 351, 352, 353, 354, 355, 356, 357, 358, 359, 194, 195, 196, 197, 198, 199, 200, 201, 96, 360, 361, 362, 363, 364, 365, 366, 367, 368, 369, 370, 371, 372, 373, 374, 375, 376, 377, 378, 99, 379, 380, 381, 382, 383, 384, 385, 386, 387, 388, 389, 390, 391, 392, 393, 394, 395, 396, 397, 398, 399, 400, 401, 402, 403, 404, 405, 406, 407, 408, 409, 410, 411, 412, 413, 414, 415, 416, 417, 418, 419, 420, 421, 422, 1042, 1043, 1044, 1045, 1046, 1047, 1048, 1049, 1050, 1051, 1052, 1053, 1054, 1055, 1056, 1057] (by decide +kernel) (by decide +kernel)
set_option maxRecDepth 20000 in
theorem gL_law_X7_rule : GoodIn wsL_law (wsV RL 125 RX7 yX7_rule wsX7_rule) := goodIn_app (goodIn_of _ (by decide +kernel)) ggL_law_X7_rule
set_option maxRecDepth 20000 in
theorem ggL_law_L_takenBy : GoodIn wsL_law wsL_takenBy := goodIn_ca (goodIn_ca (goodIn_ca (goodIn_r _ [764, 106, 107, 765, 766, 767, 2, 768, 28, 16, 222, 223, 224, 115, 116, 117, 118, 119, 120, 121, 122, 123, 124, 125, 126, 127, 128, 129, 225, 226, 227, 228, 229, 230, 27, 231, 90, 91, 87, 232, 233, 234, 235, 88, 89, 236, 167, 168, 15, 169, 39, 158, 159, 160, 35, 161, 59, 237, 238, 239, 240, 241, 242, 243, 244, 36, 245, 246, 247, 248, 249, 250, 251, 252, 253, 254, 37, 255, 256, 257, 258, 38, 259, 260, 261, 262, 46, 45, 41, 40, 263, 264, 265, 266, 267, 268, 269, 270, 271, 272, 273, 274, 275, 276, 277, 278, 279, 280, 281, 282, 283, 284, 285, 286, 287, 288, 289, 290, 291, 292, 293, 43, 48, 294, 295, 296, 297, 42, 298, 299, 148, 300, 301, 302, 303, 304, 305, 306, 307, 308, 309, 310, 311, 312, 313, 314, 315, 316, 317, 318, 319, 320, 321, 322, 323, 324, 1038, 1039, 1040, 1041, 1085, 1086, 1087, 1088, 1089, 1058, 1059, 1060, 1061, 1062, 1063, 1064, 1065, 1066, 1067, 1068, 1069, 1070, 1071, 1072, 1073, 1074, 1075, 1090] (by decide +kernel) (by decide +kernel)) (goodIn_sub (fun _ h => List.mem_append_left _ (List.mem_append_left _ (List.mem_append_right _ h))) (by decide +kernel))) (goodIn_sub (fun _ h => List.mem_append_left _ (List.mem_append_right _ h)) (by decide +kernel))) (goodIn_sub (fun _ h => List.mem_append_right _ h) (by decide +kernel))
set_option maxRecDepth 20000 in
theorem gL_law_L_takenBy : GoodIn wsL_law (va_wsS RL 126 yL_takenBy wsL_takenBy) := goodIn_app (goodIn_of _ (by decide +kernel)) ggL_law_L_takenBy
set_option maxRecDepth 20000 in
theorem ggL_law_X7_takenBy : GoodIn wsL_law wsX7_takenBy := goodIn_r _ [772, 178, 347, 359, 348, 349, 5, 350, 182, 183, 184, 351, 352, 353, 354, 355, 356, 357, 358, 194, 195, 196, 197, 198, 199, 200, 201, 96, 360, 361, 362, 363, 364, 365, 366, 367, 368, 369, 370, 371, 372, 373, 374, 375, 376, 377, 378, 99, 379, 380, 381, 382, 383, 384, 385, 386, 387, 388, 389, 390, 391, 392, 393, 394, 395, 396, 397, 398, 399, 400, 401, 402, 403, 404, 405, 406, 407, 408, 409, 410, 411, 412, 413, 414, 415, 416, 417, 418, 419, 420, 421, 422, 1042, 1043, 1044, 1045, 1046, 1047, 1048, 1049, 1050, 1051, 1052, 1053, 1054, 1055, 1056, 1057] (by decide +kernel) (by decide +kernel)
set_option maxRecDepth 20000 in
theorem gL_law_X7_takenBy : GoodIn wsL_law (wsV RL 128 RX7 yX7_takenBy wsX7_takenBy) := goodIn_app (goodIn_of _ (by decide +kernel)) ggL_law_X7_takenBy
set_option maxRecDepth 20000 in
theorem ggL_law_L_costOf : GoodIn wsL_law wsL_costOf := goodIn_ca (goodIn_ca (goodIn_ca (goodIn_r _ [775, 106, 107, 776, 777, 778, 2, 779, 28, 16, 222, 223, 224, 115, 116, 117, 118, 119, 120, 121, 122, 123, 124, 125, 126, 127, 128, 129, 225, 226, 227, 228, 229, 230, 27, 231, 90, 91, 87, 232, 233, 234, 235, 88, 89, 236, 167, 168, 15, 169, 39, 158, 159, 160, 35, 161, 59, 237, 238, 239, 240, 241, 242, 243, 244, 36, 245, 246, 247, 248, 249, 250, 251, 252, 253, 254, 37, 255, 256, 257, 258, 38, 259, 260, 261, 262, 46, 45, 41, 40, 263, 264, 265, 266, 267, 268, 269, 270, 271, 272, 273, 274, 275, 276, 277, 278, 279, 280, 281, 282, 283, 284, 285, 286, 287, 288, 289, 290, 291, 292, 293, 43, 48, 294, 295, 296, 297, 42, 298, 299, 148, 300, 301, 302, 303, 304, 305, 306, 307, 308, 309, 310, 311, 312, 313, 314, 315, 316, 317, 318, 319, 320, 321, 322, 323, 324, 780, 334, 335, 336, 337, 338, 166, 1038, 1039, 1040, 1041, 1085, 1086, 1087, 1088, 1089, 1058, 1059, 1060, 1061, 1062, 1063, 1064, 1065, 1066, 1067, 1068, 1069, 1070, 1071, 1072, 1073, 1074, 1075, 1090] (by decide +kernel) (by decide +kernel)) (goodIn_sub (fun _ h => List.mem_append_left _ (List.mem_append_left _ (List.mem_append_right _ h))) (by decide +kernel))) (goodIn_sub (fun _ h => List.mem_append_left _ (List.mem_append_right _ h)) (by decide +kernel))) (goodIn_sub (fun _ h => List.mem_append_right _ h) (by decide +kernel))
set_option maxRecDepth 20000 in
theorem gL_law_L_costOf : GoodIn wsL_law (va_wsS RL 129 yL_costOf wsL_costOf) := goodIn_app (goodIn_of _ (by decide +kernel)) ggL_law_L_costOf
set_option maxRecDepth 20000 in
theorem ggL_law_X7_costOf : GoodIn wsL_law wsX7_costOf := goodIn_r _ [784, 178, 347, 348, 349, 5, 350, 182, 183, 184, 351, 352, 353, 354, 355, 356, 357, 358, 359, 194, 195, 196, 197, 198, 199, 200, 201, 96, 360, 361, 362, 363, 364, 365, 366, 367, 368, 369, 370, 371, 372, 373, 374, 375, 376, 377, 378, 99, 379, 380, 381, 382, 383, 384, 385, 386, 387, 388, 389, 390, 391, 392, 393, 394, 395, 396, 397, 398, 399, 400, 401, 402, 403, 404, 405, 406, 407, 408, 409, 410, 411, 412, 413, 414, 415, 416, 417, 418, 419, 420, 421, 422, 427, 428, 429, 430, 431, 432, 433, 434, 1042, 1043, 1044, 1045, 1046, 1047, 1048, 1049, 1050, 1051, 1052, 1053, 1054, 1055, 1056, 1057] (by decide +kernel) (by decide +kernel)
set_option maxRecDepth 20000 in
theorem gL_law_X7_costOf : GoodIn wsL_law (wsV RL 131 RX7 yX7_costOf wsX7_costOf) := goodIn_app (goodIn_of _ (by decide +kernel)) ggL_law_X7_costOf
set_option maxRecDepth 20000 in
theorem ggL_law_X6_oldest : GoodIn wsL_law wsX6_oldest := goodIn_r _ [788, 16, 789, 790, 791, 15, 792, 46, 45, 158, 159, 160, 35, 161, 59, 321, 322, 323, 324, 42, 686, 687, 2, 688, 689, 245, 246, 690, 247, 248, 691, 249, 250, 1038, 1039, 1040, 1041, 1058, 1059, 1060, 1061, 1062, 1063, 1064, 1065, 1066, 1067, 1068, 1069, 1070, 1071, 1072, 1073, 1074, 1075, 1090] (by decide +kernel) (by decide +kernel)
set_option maxRecDepth 20000 in
theorem gL_law_X6_oldest : GoodIn wsL_law (wsV RL 132 RX6 yX6_oldest wsX6_oldest) := goodIn_app (goodIn_of _ (by decide +kernel)) ggL_law_X6_oldest
set_option maxRecDepth 20000 in
theorem ggL_law_X7_oldest : GoodIn wsL_law wsX7_oldest := goodIn_r _ [796, 178, 797, 798, 799, 5, 800, 194, 195, 196, 197, 198, 199, 200, 201, 96, 696, 697, 698, 1042, 1043, 1044, 1045, 1046, 1047, 1048, 1049, 1050, 1051, 1052, 1053, 1054, 1055, 1056, 1057] (by decide +kernel) (by decide +kernel)
set_option maxRecDepth 20000 in
theorem gL_law_X7_oldest : GoodIn wsL_law (wsV RL 135 RX7 yX7_oldest wsX7_oldest) := goodIn_app (goodIn_of _ (by decide +kernel)) ggL_law_X7_oldest
set_option maxRecDepth 20000 in
theorem ggL_law_X6_greatestGap : GoodIn wsL_law wsX6_greatestGap := goodIn_r _ [804, 16, 805, 806, 807, 15, 808, 38, 298, 299, 148, 300, 158, 159, 160, 35, 161, 59, 649, 260, 261, 262, 46, 45, 39, 41, 40, 653, 654, 265, 655, 656, 267, 268, 269, 1038, 1039, 1040, 1041, 1058, 1059, 1060, 1061, 1062, 1063, 1064, 1065, 1066, 1067, 1068, 1069, 1070, 1071, 1072, 1073, 1074, 1075, 1090] (by decide +kernel) (by decide +kernel)
set_option maxRecDepth 20000 in
theorem gL_law_X6_greatestGap : GoodIn wsL_law (wsV RL 136 RX6 yX6_greatestGap wsX6_greatestGap) := goodIn_app (goodIn_of _ (by decide +kernel)) ggL_law_X6_greatestGap
set_option maxRecDepth 20000 in
theorem ggL_law_X7_greatestGap : GoodIn wsL_law wsX7_greatestGap := goodIn_r _ [812, 178, 813, 814, 815, 5, 816, 96, 667, 668, 669, 670, 375, 376, 377, 378, 99, 379, 380, 381, 382, 383, 384, 385, 386, 198, 199, 200, 201, 387, 388, 389, 390, 367, 368, 369, 370, 1042, 1043, 1044, 1045, 1046, 1047, 1048, 1049, 1050, 1051, 1052, 1053, 1054, 1055, 1056, 1057] (by decide +kernel) (by decide +kernel)
set_option maxRecDepth 20000 in
theorem gL_law_X7_greatestGap : GoodIn wsL_law (wsV RL 139 RX7 yX7_greatestGap wsX7_greatestGap) := goodIn_app (goodIn_of _ (by decide +kernel)) ggL_law_X7_greatestGap
set_option maxRecDepth 20000 in
theorem ggL_law_L_type : GoodIn wsL_law wsL_type := goodIn_ca (goodIn_ca (goodIn_ca (goodIn_r _ [819, 107, 213, 820, 821, 822, 2, 823, 24, 118, 119, 120, 121, 122, 123, 124, 125, 126, 127, 128, 129, 824, 825, 826, 23, 827, 77, 78, 828, 163, 164, 35, 165, 59, 1038, 1039, 1040, 1041, 1079, 1080, 1081, 1082, 1083, 1084, 1090] (by decide +kernel) (by decide +kernel)) (goodIn_sub (fun _ h => List.mem_append_left _ (List.mem_append_left _ (List.mem_append_right _ h))) (by decide +kernel))) (goodIn_sub (fun _ h => List.mem_append_left _ (List.mem_append_right _ h)) (by decide +kernel))) (goodIn_sub (fun _ h => List.mem_append_right _ h) (by decide +kernel))
set_option maxRecDepth 20000 in
theorem gL_law_L_type : GoodIn wsL_law (va_wsS RL 140 yL_type wsL_type) := goodIn_app (goodIn_of _ (by decide +kernel)) ggL_law_L_type
set_option maxRecDepth 20000 in
theorem ggL_law_X7_type : GoodIn wsL_law wsX7_type := goodIn_r _ [832, 746, 178, 100, 182, 183, 5, 184, 1042, 1043, 1044, 1045, 1046, 1047, 1048, 1049, 1050, 1051, 1052, 1053, 1054, 1055, 1056, 1057] (by decide +kernel) (by decide +kernel)
set_option maxRecDepth 20000 in
theorem gL_law_X7_type : GoodIn wsL_law (wsV RL 142 RX7 yX7_type wsX7_type) := goodIn_app (goodIn_of _ (by decide +kernel)) ggL_law_X7_type
set_option maxRecDepth 20000 in
theorem ggL_law_X6_clearCommands : GoodIn wsL_law wsX6_clearCommands := goodIn_r _ [836, 24, 837, 838, 839, 23, 840, 78, 1038, 1039, 1040, 1041, 1079, 1080, 1081, 1082, 1083, 1084] (by decide +kernel) (by decide +kernel)
set_option maxRecDepth 20000 in
theorem gL_law_X6_clearCommands : GoodIn wsL_law (wsV RL 143 RX6 yX6_clearCommands wsX6_clearCommands) := goodIn_app (goodIn_of _ (by decide +kernel)) ggL_law_X6_clearCommands
set_option maxRecDepth 20000 in
theorem ggL_law_X7_clearCommands : GoodIn wsL_law wsX7_clearCommands := goodIn_r _ [844, 178, 746, 1042, 1043, 1044, 1045, 1046, 1047, 1048, 1049, 1050, 1051, 1052, 1053, 1054, 1055, 1056, 1057] (by decide +kernel) (by decide +kernel)
set_option maxRecDepth 20000 in
theorem gL_law_X7_clearCommands : GoodIn wsL_law (wsV RL 146 RX7 yX7_clearCommands wsX7_clearCommands) := goodIn_app (goodIn_of _ (by decide +kernel)) ggL_law_X7_clearCommands
set_option maxRecDepth 20000 in
theorem ggL_law_X6_runCommands : GoodIn wsL_law wsX6_runCommands := goodIn_r _ [848, 24, 20, 16, 849, 850, 851, 23, 852, 79, 82, 78, 853, 854, 855, 856, 857, 858, 859, 860, 77, 861, 159, 160, 35, 161, 59, 862, 863, 864, 865, 80, 866, 867, 868, 869, 870, 871, 872, 873, 874, 875, 876, 877, 878, 879, 880, 881, 882, 883, 884, 885, 886, 887, 888, 889, 890, 891, 892, 893, 894, 895, 896, 897, 898, 899, 900, 901, 902, 903, 904, 905, 906, 907, 908, 909, 910, 911, 912, 913, 914, 915, 916, 917, 918, 919, 920, 921, 922, 923, 924, 925, 926, 927, 928, 929, 930, 931, 932, 828, 163, 164, 165, 933, 934, 935, 936, 937, 938, 939, 81, 940, 941, 942, 130, 131, 132, 19, 133, 70, 71, 134, 135, 136, 137, 69, 138, 139, 140, 15, 141, 36, 37, 38, 39, 40, 41, 42, 43, 44, 45, 46, 47, 48, 49, 50, 51, 52, 53, 142, 143, 144, 145, 146, 147, 148, 149, 150, 151, 152, 153, 943, 944, 945, 2, 946, 28, 947, 948, 949, 950, 951, 952, 953, 954, 112, 113, 114, 115, 116, 117, 118, 119, 120, 154, 155, 156, 157, 158, 162, 166, 167, 168, 169, 170, 171, 172, 173, 218, 219, 220, 221, 222, 223, 224, 225, 226, 227, 228, 229, 230, 27, 231, 90, 91, 87, 232, 233, 234, 235, 88, 89, 236, 237, 238, 239, 240, 241, 242, 243, 244, 245, 246, 247, 248, 249, 250, 251, 252, 253, 254, 255, 256, 257, 258, 259, 260, 261, 262, 263, 264, 265, 266, 267, 268, 269, 270, 271, 272, 273, 274, 275, 276, 277, 278, 279, 280, 281, 282, 283, 284, 285, 286, 287, 288, 289, 290, 291, 292, 293, 294, 295, 296, 297, 298, 299, 300, 301, 302, 303, 304, 305, 306, 307, 308, 309, 310, 311, 312, 313, 314, 315, 316, 317, 318, 319, 320, 321, 322, 323, 324, 325, 326, 327, 328, 329, 330, 331, 332, 333, 334, 335, 336, 337, 338, 339, 340, 341, 342, 446, 447, 448, 449, 450, 451, 452, 453, 454, 463, 464, 465, 466, 467, 468, 469, 470, 486, 487, 488, 489, 490, 491, 492, 493, 506, 507, 508, 509, 510, 511, 512, 513, 514, 1038, 1039, 1040, 1041, 1079, 1080, 1081, 1082, 1083, 1084, 1090, 1076, 1077, 1078, 1058, 1059, 1060, 1061, 1062, 1063, 1064, 1065, 1066, 1067, 1068, 1069, 1070, 1071, 1072, 1073, 1074, 1075, 1085, 1086, 1087, 1088, 1089] (by decide +kernel) (by decide +kernel)
set_option maxRecDepth 20000 in
theorem gL_law_X6_runCommands : GoodIn wsL_law (wsV RL 147 RX6 yX6_runCommands wsX6_runCommands) := goodIn_app (goodIn_of _ (by decide +kernel)) ggL_law_X6_runCommands
set_option maxRecDepth 20000 in
theorem ggL_law_X7_runCommands : GoodIn wsL_law wsX7_runCommands := goodIn_r _ [958, 178, 959, 960, 961, 962, 963, 5, 964, 746, 965, 966, 967, 968, 969, 970, 971, 972, 100, 973, 974, 975, 976, 101, 977, 978, 979, 980, 182, 183, 184, 981, 982, 983, 984, 985, 986, 987, 988, 989, 990, 185, 186, 187, 188, 189, 97, 96, 991, 992, 993, 994, 179, 180, 181, 190, 191, 192, 193, 194, 195, 196, 197, 198, 199, 200, 201, 202, 203, 204, 205, 348, 349, 350, 351, 352, 353, 423, 424, 425, 426, 347, 354, 355, 356, 357, 358, 359, 360, 361, 362, 363, 364, 365, 366, 367, 368, 369, 370, 371, 372, 373, 374, 375, 376, 377, 378, 99, 379, 380, 381, 382, 383, 384, 385, 386, 387, 388, 389, 390, 391, 392, 393, 394, 395, 396, 397, 398, 399, 400, 401, 402, 403, 404, 405, 406, 407, 408, 409, 410, 411, 412, 413, 414, 415, 416, 417, 418, 419, 420, 421, 422, 427, 428, 429, 430, 431, 432, 433, 434, 435, 436, 437, 438, 498, 499, 500, 501, 519, 520, 521, 522, 1042, 1043, 1044, 1045, 1046, 1047, 1048, 1049, 1050, 1051, 1052, 1053, 1054, 1055, 1056, 1057] (by decide +kernel) (by decide +kernel)
set_option maxRecDepth 20000 in
theorem gL_law_X7_runCommands : GoodIn wsL_law (wsV RL 150 RX7 yX7_runCommands wsX7_runCommands) := goodIn_app (goodIn_of _ (by decide +kernel)) ggL_law_X7_runCommands
set_option maxRecDepth 20000 in
theorem ggL_law_L_undo : GoodIn wsL_law wsL_undo := goodIn_ca (goodIn_ca (goodIn_ca (goodIn_r _ [997, 213, 998, 999, 1000, 2, 1001, 20, 16, 121, 122, 123, 124, 125, 126, 127, 128, 129, 1002, 1003, 1004, 19, 1005, 70, 71, 134, 135, 136, 137, 69, 138, 139, 140, 15, 141, 36, 37, 38, 39, 40, 41, 42, 43, 44, 45, 46, 47, 48, 49, 50, 51, 52, 53, 142, 143, 144, 35, 145, 59, 146, 147, 148, 149, 150, 151, 152, 153, 1038, 1039, 1040, 1041, 1076, 1077, 1078, 1058, 1059, 1060, 1061, 1062, 1063, 1064, 1065, 1066, 1067, 1068, 1069, 1070, 1071, 1072, 1073, 1074, 1075, 1090] (by decide +kernel) (by decide +kernel)) (goodIn_sub (fun _ h => List.mem_append_left _ (List.mem_append_left _ (List.mem_append_right _ h))) (by decide +kernel))) (goodIn_sub (fun _ h => List.mem_append_left _ (List.mem_append_right _ h)) (by decide +kernel))) (goodIn_sub (fun _ h => List.mem_append_right _ h) (by decide +kernel))
set_option maxRecDepth 20000 in
theorem gL_law_L_undo : GoodIn wsL_law (va_wsS RL 151 yL_undo wsL_undo) := goodIn_app (goodIn_of _ (by decide +kernel)) ggL_law_L_undo
set_option maxRecDepth 20000 in
theorem ggL_law_X7_undo : GoodIn wsL_law wsX7_undo := goodIn_r _ [1009, 189, 178, 96, 97, 1042, 1043, 1044, 1045, 1046, 1047, 1048, 1049, 1050, 1051, 1052, 1053, 1054, 1055, 1056, 1057] (by decide +kernel) (by decide +kernel)
set_option maxRecDepth 20000 in
theorem gL_law_X7_undo : GoodIn wsL_law (wsV RL 153 RX7 yX7_undo wsX7_undo) := goodIn_app (goodIn_of _ (by decide +kernel)) ggL_law_X7_undo
set_option maxRecDepth 20000 in
theorem ggL_law_X6_digest : GoodIn wsL_law wsX6_digest := goodIn_ca (goodIn_ca (goodIn_ca (goodIn_r _ [1013, 1014, 20, 16, 1015, 1016, 2, 1017, 1018, 1019, 722, 723, 724, 24, 530, 531, 532, 118, 119, 120, 121, 122, 123, 124, 125, 126, 127, 128, 129, 725, 726, 727, 15, 728, 47, 46, 48, 49, 50, 51, 52, 53, 729, 730, 731, 732, 603, 279, 280, 281, 38, 158, 159, 160, 35, 161, 59, 733, 310, 311, 312, 45, 313, 314, 315, 316, 39, 467, 468, 469, 470, 290, 291, 292, 293, 43, 734, 735, 736, 737, 537, 538, 539, 540, 617, 618, 619, 620, 337, 242, 243, 244, 36, 245, 246, 247, 248, 249, 250, 338, 252, 253, 254, 37, 568, 569, 570, 571, 572, 573, 574, 575, 576, 577, 578, 579, 1020, 1021, 1022, 1023, 533, 534, 535, 536, 42, 44, 166, 167, 168, 169, 541, 542, 543, 544, 40, 545, 546, 547, 548, 1024, 1025, 1026, 1027, 599, 600, 601, 602, 604, 275, 276, 277, 605, 606, 607, 608, 609, 610, 611, 612, 613, 614, 615, 616, 644, 645, 646, 647, 648, 510, 302, 303, 304, 649, 260, 261, 262, 41, 650, 651, 265, 652, 267, 268, 269, 653, 654, 655, 656, 299, 148, 300, 657, 295, 296, 297, 298, 658, 287, 288, 289, 1028, 1029, 703, 704, 705, 706, 707, 708, 709, 686, 687, 688, 689, 690, 691, 1030, 786, 787, 788, 789, 790, 791, 792, 321, 322, 323, 324, 1031, 802, 803, 804, 805, 806, 807, 808, 1038, 1039, 1040, 1041, 1076, 1077, 1078, 1058, 1059, 1060, 1061, 1062, 1063, 1064, 1065, 1066, 1067, 1068, 1069, 1070, 1071, 1072, 1073, 1074, 1075, 1079, 1080, 1081, 1082, 1083, 1084, 1090] (by decide +kernel) (by decide +kernel)) (goodIn_sub (fun _ h => List.mem_append_left _ (List.mem_append_left _ (List.mem_append_right _ h))) (by decide +kernel))) (goodIn_sub (fun _ h => List.mem_append_left _ (List.mem_append_right _ h)) (by decide +kernel))) (goodIn_sub (fun _ h => List.mem_append_right _ h) (by decide +kernel))
set_option maxRecDepth 20000 in
theorem gL_law_X6_digest : GoodIn wsL_law (wsV RL 154 RX6 yX6_digest wsX6_digest) := goodIn_app (goodIn_of _ (by decide +kernel)) ggL_law_X6_digest
set_option maxRecDepth 20000 in
theorem ggL_law_X7_digest : GoodIn wsL_law wsX7_digest := goodIn_r _ [1035, 178, 1036, 189, 1037, 96, 742, 743, 744, 5, 745, 746, 747, 748, 749, 750, 629, 630, 631, 632, 198, 199, 200, 201, 431, 432, 433, 434, 379, 380, 381, 382, 371, 372, 373, 374, 395, 396, 397, 398, 367, 368, 369, 370, 475, 476, 477, 478, 411, 412, 413, 414, 194, 195, 196, 197, 584, 585, 586, 587, 557, 558, 559, 560, 182, 183, 184, 553, 554, 555, 556, 663, 664, 665, 666, 415, 416, 417, 418, 383, 384, 385, 386, 667, 668, 669, 670, 375, 376, 377, 378, 99, 387, 388, 389, 390, 403, 404, 405, 406, 407, 408, 409, 410, 714, 715, 716, 717, 696, 697, 698, 797, 798, 799, 800, 813, 814, 815, 816, 1042, 1043, 1044, 1045, 1046, 1047, 1048, 1049, 1050, 1051, 1052, 1053, 1054, 1055, 1056, 1057] (by decide +kernel) (by decide +kernel)
set_option maxRecDepth 20000 in
theorem gL_law_X7_digest : GoodIn wsL_law (wsV RL 158 RX7 yX7_digest wsX7_digest) := goodIn_app (goodIn_of _ (by decide +kernel)) ggL_law_X7_digest
