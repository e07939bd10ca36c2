theorem dX0_readText_0 : decode cX0_readText 0 = .ok (.aload_n 0, 1) := by decide +kernel
theorem dX0_readText_1 : decode cX0_readText 1 = .ok (.iconst 0, 1) := by decide +kernel
theorem dX0_readText_2 : decode cX0_readText 2 = .ok (.putfield 24, 3) := by decide +kernel
theorem dX0_readText_5 : decode cX0_readText 5 = .ok (.aload_n 0, 1) := by decide +kernel
theorem dX0_readText_6 : decode cX0_readText 6 = .ok (.iconst 0, 1) := by decide +kernel
theorem dX0_readText_7 : decode cX0_readText 7 = .ok (.putfield 33, 3) := by decide +kernel
theorem dX0_readText_10 : decode cX0_readText 10 = .ok (.aload_n 0, 1) := by decide +kernel
theorem dX0_readText_11 : decode cX0_readText 11 = .ok (.invokevirtual 44, 3) := by decide +kernel
theorem dX0_readText_14 : decode cX0_readText 14 = .ok (.iconst 0, 1) := by decide +kernel
theorem dX0_readText_15 : decode cX0_readText 15 = .ok (.istore_n 1, 1) := by decide +kernel
theorem dX0_readText_16 : decode cX0_readText 16 = .ok (.iload_n 1, 1) := by decide +kernel
theorem dX0_readText_17 : decode cX0_readText 17 = .ok (.sipush 150, 3) := by decide +kernel
theorem dX0_readText_20 : decode cX0_readText 20 = .ok (.if_icmp .ge 43, 3) := by decide +kernel
theorem dX0_readText_23 : decode cX0_readText 23 = .ok (.aload_n 0, 1) := by decide +kernel
theorem dX0_readText_24 : decode cX0_readText 24 = .ok (.getfield 24, 3) := by decide +kernel
theorem dX0_readText_27 : decode cX0_readText 27 = .ok (.aload_n 0, 1) := by decide +kernel
theorem dX0_readText_28 : decode cX0_readText 28 = .ok (.getfield 20, 3) := by decide +kernel
theorem dX0_readText_31 : decode cX0_readText 31 = .ok (.if_icmp .ge 32, 3) := by decide +kernel
theorem dX0_readText_34 : decode cX0_readText 34 = .ok (.aload_n 0, 1) := by decide +kernel
theorem dX0_readText_35 : decode cX0_readText 35 = .ok (.invokevirtual 47, 3) := by decide +kernel
theorem dX0_readText_38 : decode cX0_readText 38 = .ok (.ifCond .ne 5, 3) := by decide +kernel
theorem dX0_readText_41 : decode cX0_readText 41 = .ok (.iconst 0, 1) := by decide +kernel
theorem dX0_readText_42 : decode cX0_readText 42 = .ok (.ireturn, 1) := by decide +kernel
theorem dX0_readText_43 : decode cX0_readText 43 = .ok (.aload_n 0, 1) := by decide +kernel
theorem dX0_readText_44 : decode cX0_readText 44 = .ok (.dup, 1) := by decide +kernel
theorem dX0_readText_45 : decode cX0_readText 45 = .ok (.getfield 33, 3) := by decide +kernel
theorem dX0_readText_48 : decode cX0_readText 48 = .ok (.iconst 1, 1) := by decide +kernel
theorem dX0_readText_49 : decode cX0_readText 49 = .ok (.iadd, 1) := by decide +kernel
theorem dX0_readText_50 : decode cX0_readText 50 = .ok (.putfield 33, 3) := by decide +kernel
theorem dX0_readText_53 : decode cX0_readText 53 = .ok (.aload_n 0, 1) := by decide +kernel
theorem dX0_readText_54 : decode cX0_readText 54 = .ok (.invokevirtual 44, 3) := by decide +kernel
theorem dX0_readText_57 : decode cX0_readText 57 = .ok (.iinc 1 1, 3) := by decide +kernel
theorem dX0_readText_60 : decode cX0_readText 60 = .ok (.goto (-44), 3) := by decide +kernel
theorem dX0_readText_63 : decode cX0_readText 63 = .ok (.iconst 1, 1) := by decide +kernel
theorem dX0_readText_64 : decode cX0_readText 64 = .ok (.ireturn, 1) := by decide +kernel
set_option maxRecDepth 20000 in
theorem ggX0_readCommand_X0_skipLetters : GoodIn wsX0_readCommand wsX0_skipLetters := goodIn_r _ [8, 1, 9, 10, 11, 12, 7, 13, 14, 15, 16, 17, 18, 19, 20, 21, 22, 23, 103, 104, 105, 106, 107, 108, 109] (by decide +kernel) (by decide +kernel)
set_option maxRecDepth 20000 in
theorem gX0_readCommand_X0_skipLetters : GoodIn wsX0_readCommand (wsV RX0 51 RX0 yX0_skipLetters wsX0_skipLetters) := goodIn_app (goodIn_of _ (by decide +kernel)) ggX0_readCommand_X0_skipLetters
set_option maxRecDepth 20000 in
theorem ggX0_readCommand_X0_findWord : GoodIn wsX0_readCommand wsX0_findWord := goodIn_r _ [27, 28, 29, 7, 30, 31, 32, 33, 34, 35, 36, 37, 38, 39, 40, 41, 42, 43, 44, 45, 46, 10, 11, 12, 13, 9, 14, 15, 16, 17, 18, 19, 20, 47, 48, 49, 50, 51, 52, 53, 54, 55, 56, 57, 58, 59, 60, 61, 62, 63, 64, 65, 66, 67, 68, 69, 70, 71, 72, 73, 74, 75, 76, 77, 78, 79, 80, 81, 82, 83, 103, 104, 105, 106, 107, 108, 109] (by decide +kernel) (by decide +kernel)
set_option maxRecDepth 20000 in
theorem gX0_readCommand_X0_findWord : GoodIn wsX0_readCommand (wsV RX0 54 RX0 yX0_findWord wsX0_findWord) := goodIn_app (goodIn_of _ (by decide +kernel)) ggX0_readCommand_X0_findWord
set_option maxRecDepth 20000 in
theorem ggX0_readCommand_X3_put : GoodIn wsX0_readCommand wsX3_put := goodIn_r _ [87, 20, 109] (by decide +kernel) (by decide +kernel)
set_option maxRecDepth 20000 in
theorem gX0_readCommand_X3_put : GoodIn wsX0_readCommand (wsV RX0 36 RX3 yX3_put wsX3_put) := goodIn_app (goodIn_of _ (by decide +kernel)) ggX0_readCommand_X3_put
set_option maxRecDepth 20000 in
theorem ggX0_readCommand_X0_numbersAfter : GoodIn wsX0_readCommand wsX0_numbersAfter := goodIn_r _ [90] (by decide +kernel) (by decide +kernel)
set_option maxRecDepth 20000 in
theorem gX0_readCommand_X0_numbersAfter : GoodIn wsX0_readCommand (va_wsS RX0 58 yX0_numbersAfter wsX0_numbersAfter) := goodIn_app (goodIn_of _ (by decide +kernel)) ggX0_readCommand_X0_numbersAfter
set_option maxRecDepth 20000 in
theorem ggX0_readCommand_X0_readNumber : GoodIn wsX0_readCommand wsX0_readNumber := goodIn_r _ [94, 1, 95, 3, 10, 11, 12, 7, 13, 9, 14, 15, 16, 17, 18, 19, 20, 96, 97, 98, 99, 100, 101, 102, 84, 85, 86, 87, 103, 104, 105, 106, 107, 108, 109] (by decide +kernel) (by decide +kernel)
set_option maxRecDepth 20000 in
theorem gX0_readCommand_X0_readNumber : GoodIn wsX0_readCommand (wsV RX0 61 RX0 yX0_readNumber wsX0_readNumber) := goodIn_app (goodIn_of _ (by decide +kernel)) ggX0_readCommand_X0_readNumber
set_option maxRecDepth 20000 in
theorem ggX0_readCommand_X0_skipSpaces : GoodIn wsX0_readCommand wsX0_skipSpaces := goodIn_r _ [99, 1, 9, 10, 11, 12, 7, 13, 14, 15, 16, 17, 18, 19, 20, 103, 104, 105, 106, 107, 108, 109] (by decide +kernel) (by decide +kernel)
set_option maxRecDepth 20000 in
theorem gX0_readCommand_X0_skipSpaces : GoodIn wsX0_readCommand (wsV RX0 44 RX0 yX0_skipSpaces wsX0_skipSpaces) := goodIn_app (goodIn_of _ (by decide +kernel)) ggX0_readCommand_X0_skipSpaces
set_option maxRecDepth 20000 in
theorem ggX0_readCommand_X0_byteAt : GoodIn wsX0_readCommand wsX0_byteAt := goodIn_r _ [13, 9, 14, 15, 16, 17, 18, 19, 20, 103, 104, 105, 106, 107, 108, 109] (by decide +kernel) (by decide +kernel)
set_option maxRecDepth 20000 in
theorem gX0_readCommand_X0_byteAt : GoodIn wsX0_readCommand (wsV RX0 65 RX0 yX0_byteAt wsX0_byteAt) := goodIn_app (goodIn_of _ (by decide +kernel)) ggX0_readCommand_X0_byteAt
theorem dX0_readCommand_0 : decode cX0_readCommand 0 = .ok (.aload_n 0, 1) := by decide +kernel
theorem dX0_readCommand_1 : decode cX0_readCommand 1 = .ok (.getfield 24, 3) := by decide +kernel
theorem dX0_readCommand_4 : decode cX0_readCommand 4 = .ok (.istore_n 1, 1) := by decide +kernel
theorem dX0_readCommand_5 : decode cX0_readCommand 5 = .ok (.aload_n 0, 1) := by decide +kernel
theorem dX0_readCommand_6 : decode cX0_readCommand 6 = .ok (.invokevirtual 51, 3) := by decide +kernel
theorem dX0_readCommand_9 : decode cX0_readCommand 9 = .ok (.aload_n 0, 1) := by decide +kernel
theorem dX0_readCommand_10 : decode cX0_readCommand 10 = .ok (.iload_n 1, 1) := by decide +kernel
theorem dX0_readCommand_11 : decode cX0_readCommand 11 = .ok (.aload_n 0, 1) := by decide +kernel
theorem dX0_readCommand_12 : decode cX0_readCommand 12 = .ok (.getfield 24, 3) := by decide +kernel
theorem dX0_readCommand_15 : decode cX0_readCommand 15 = .ok (.invokevirtual 54, 3) := by decide +kernel
theorem dX0_readCommand_18 : decode cX0_readCommand 18 = .ok (.istore_n 2, 1) := by decide +kernel
theorem dX0_readCommand_19 : decode cX0_readCommand 19 = .ok (.iload_n 2, 1) := by decide +kernel
theorem dX0_readCommand_20 : decode cX0_readCommand 20 = .ok (.iconst (-1), 1) := by decide +kernel
theorem dX0_readCommand_21 : decode cX0_readCommand 21 = .ok (.if_icmp .ne 10, 3) := by decide +kernel
theorem dX0_readCommand_24 : decode cX0_readCommand 24 = .ok (.aload_n 0, 1) := by decide +kernel
theorem dX0_readCommand_25 : decode cX0_readCommand 25 = .ok (.iload_n 1, 1) := by decide +kernel
theorem dX0_readCommand_26 : decode cX0_readCommand 26 = .ok (.putfield 24, 3) := by decide +kernel
theorem dX0_readCommand_29 : decode cX0_readCommand 29 = .ok (.iconst 0, 1) := by decide +kernel
theorem dX0_readCommand_30 : decode cX0_readCommand 30 = .ok (.ireturn, 1) := by decide +kernel
theorem dX0_readCommand_31 : decode cX0_readCommand 31 = .ok (.aload_n 0, 1) := by decide +kernel
theorem dX0_readCommand_32 : decode cX0_readCommand 32 = .ok (.getfield 27, 3) := by decide +kernel
theorem dX0_readCommand_35 : decode cX0_readCommand 35 = .ok (.aload_n 0, 1) := by decide +kernel
theorem dX0_readCommand_36 : decode cX0_readCommand 36 = .ok (.getfield 33, 3) := by decide +kernel
theorem dX0_readCommand_39 : decode cX0_readCommand 39 = .ok (.iload_n 2, 1) := by decide +kernel
theorem dX0_readCommand_40 : decode cX0_readCommand 40 = .ok (.invokevirtual 36, 3) := by decide +kernel
theorem dX0_readCommand_43 : decode cX0_readCommand 43 = .ok (.iload_n 2, 1) := by decide +kernel
theorem dX0_readCommand_44 : decode cX0_readCommand 44 = .ok (.invokestatic 58, 3) := by decide +kernel
theorem dX0_readCommand_47 : decode cX0_readCommand 47 = .ok (.istore_n 3, 1) := by decide +kernel
theorem dX0_readCommand_48 : decode cX0_readCommand 48 = .ok (.iconst 0, 1) := by decide +kernel
theorem dX0_readCommand_49 : decode cX0_readCommand 49 = .ok (.istore 4, 2) := by decide +kernel
theorem dX0_readCommand_51 : decode cX0_readCommand 51 = .ok (.iload 4, 2) := by decide +kernel
theorem dX0_readCommand_53 : decode cX0_readCommand 53 = .ok (.iload_n 3, 1) := by decide +kernel
theorem dX0_readCommand_54 : decode cX0_readCommand 54 = .ok (.if_icmp .ge 20, 3) := by decide +kernel
theorem dX0_readCommand_57 : decode cX0_readCommand 57 = .ok (.aload_n 0, 1) := by decide +kernel
theorem dX0_readCommand_58 : decode cX0_readCommand 58 = .ok (.iload 4, 2) := by decide +kernel
theorem dX0_readCommand_60 : decode cX0_readCommand 60 = .ok (.invokevirtual 61, 3) := by decide +kernel
theorem dX0_readCommand_63 : decode cX0_readCommand 63 = .ok (.ifCond .ne 5, 3) := by decide +kernel
theorem dX0_readCommand_66 : decode cX0_readCommand 66 = .ok (.iconst 0, 1) := by decide +kernel
theorem dX0_readCommand_67 : decode cX0_readCommand 67 = .ok (.ireturn, 1) := by decide +kernel
theorem dX0_readCommand_68 : decode cX0_readCommand 68 = .ok (.iinc 4 1, 3) := by decide +kernel
theorem dX0_readCommand_71 : decode cX0_readCommand 71 = .ok (.goto (-20), 3) := by decide +kernel
theorem dX0_readCommand_74 : decode cX0_readCommand 74 = .ok (.aload_n 0, 1) := by decide +kernel
theorem dX0_readCommand_75 : decode cX0_readCommand 75 = .ok (.invokevirtual 44, 3) := by decide +kernel
theorem dX0_readCommand_78 : decode cX0_readCommand 78 = .ok (.aload_n 0, 1) := by decide +kernel
theorem dX0_readCommand_79 : decode cX0_readCommand 79 = .ok (.aload_n 0, 1) := by decide +kernel
theorem dX0_readCommand_80 : decode cX0_readCommand 80 = .ok (.getfield 24, 3) := by decide +kernel
theorem dX0_readCommand_83 : decode cX0_readCommand 83 = .ok (.invokevirtual 65, 3) := by decide +kernel
theorem dX0_readCommand_86 : decode cX0_readCommand 86 = .ok (.bipush 59, 2) := by decide +kernel
theorem dX0_readCommand_88 : decode cX0_readCommand 88 = .ok (.if_icmp .eq 5, 3) := by decide +kernel
theorem dX0_readCommand_91 : decode cX0_readCommand 91 = .ok (.iconst 0, 1) := by decide +kernel
theorem dX0_readCommand_92 : decode cX0_readCommand 92 = .ok (.ireturn, 1) := by decide +kernel
theorem dX0_readCommand_93 : decode cX0_readCommand 93 = .ok (.aload_n 0, 1) := by decide +kernel
theorem dX0_readCommand_94 : decode cX0_readCommand 94 = .ok (.dup, 1) := by decide +kernel
theorem dX0_readCommand_95 : decode cX0_readCommand 95 = .ok (.getfield 24, 3) := by decide +kernel
theorem dX0_readCommand_98 : decode cX0_readCommand 98 = .ok (.iconst 1, 1) := by decide +kernel
theorem dX0_readCommand_99 : decode cX0_readCommand 99 = .ok (.iadd, 1) := by decide +kernel
theorem dX0_readCommand_100 : decode cX0_readCommand 100 = .ok (.putfield 24, 3) := by decide +kernel
theorem dX0_readCommand_103 : decode cX0_readCommand 103 = .ok (.iconst 1, 1) := by decide +kernel
theorem dX0_readCommand_104 : decode cX0_readCommand 104 = .ok (.ireturn, 1) := by decide +kernel
set_option maxRecDepth 20000 in
theorem ggX0_readNumber_X0_byteAt : GoodIn wsX0_readNumber wsX0_byteAt := goodIn_r _ [8, 9, 10, 11, 12, 13, 14, 15, 16, 28, 29, 30, 31, 32, 33, 34] (by decide +kernel) (by decide +kernel)
set_option maxRecDepth 20000 in
theorem gX0_readNumber_X0_byteAt : GoodIn wsX0_readNumber (wsV RX0 65 RX0 yX0_byteAt wsX0_byteAt) := goodIn_app (goodIn_of _ (by decide +kernel)) ggX0_readNumber_X0_byteAt
set_option maxRecDepth 20000 in
theorem ggX0_readNumber_X0_skipSpaces : GoodIn wsX0_readNumber wsX0_skipSpaces := goodIn_r _ [20, 1, 9, 4, 5, 6, 7, 8, 10, 11, 12, 13, 14, 15, 16, 28, 29, 30, 31, 32, 33, 34] (by decide +kernel) (by decide +kernel)
set_option maxRecDepth 20000 in
theorem gX0_readNumber_X0_skipSpaces : GoodIn wsX0_readNumber (wsV RX0 44 RX0 yX0_skipSpaces wsX0_skipSpaces) := goodIn_app (goodIn_of _ (by decide +kernel)) ggX0_readNumber_X0_skipSpaces
set_option maxRecDepth 20000 in
theorem ggX0_readNumber_X0_isDigit : GoodIn wsX0_readNumber wsX0_isDigit := goodIn_r _ [23] (by decide +kernel) (by decide +kernel)
set_option maxRecDepth 20000 in
theorem gX0_readNumber_X0_isDigit : GoodIn wsX0_readNumber (va_wsS RX0 68 yX0_isDigit wsX0_isDigit) := goodIn_app (goodIn_of _ (by decide +kernel)) ggX0_readNumber_X0_isDigit
set_option maxRecDepth 20000 in
theorem ggX0_readNumber_X3_put : GoodIn wsX0_readNumber wsX3_put := goodIn_r _ [27, 16, 34] (by decide +kernel) (by decide +kernel)
set_option maxRecDepth 20000 in
theorem gX0_readNumber_X3_put : GoodIn wsX0_readNumber (wsV RX0 36 RX3 yX3_put wsX3_put) := goodIn_app (goodIn_of _ (by decide +kernel)) ggX0_readNumber_X3_put
theorem dX0_readNumber_0 : decode cX0_readNumber 0 = .ok (.aload_n 0, 1) := by decide +kernel
theorem dX0_readNumber_1 : decode cX0_readNumber 1 = .ok (.aload_n 0, 1) := by decide +kernel
theorem dX0_readNumber_2 : decode cX0_readNumber 2 = .ok (.getfield 24, 3) := by decide +kernel
theorem dX0_readNumber_5 : decode cX0_readNumber 5 = .ok (.invokevirtual 65, 3) := by decide +kernel
theorem dX0_readNumber_8 : decode cX0_readNumber 8 = .ok (.bipush 32, 2) := by decide +kernel
theorem dX0_readNumber_10 : decode cX0_readNumber 10 = .ok (.if_icmp .eq 5, 3) := by decide +kernel
theorem dX0_readNumber_13 : decode cX0_readNumber 13 = .ok (.iconst 0, 1) := by decide +kernel
theorem dX0_readNumber_14 : decode cX0_readNumber 14 = .ok (.ireturn, 1) := by decide +kernel
theorem dX0_readNumber_15 : decode cX0_readNumber 15 = .ok (.aload_n 0, 1) := by decide +kernel
theorem dX0_readNumber_16 : decode cX0_readNumber 16 = .ok (.invokevirtual 44, 3) := by decide +kernel
theorem dX0_readNumber_19 : decode cX0_readNumber 19 = .ok (.aload_n 0, 1) := by decide +kernel
theorem dX0_readNumber_20 : decode cX0_readNumber 20 = .ok (.aload_n 0, 1) := by decide +kernel
theorem dX0_readNumber_21 : decode cX0_readNumber 21 = .ok (.getfield 24, 3) := by decide +kernel
theorem dX0_readNumber_24 : decode cX0_readNumber 24 = .ok (.invokevirtual 65, 3) := by decide +kernel
theorem dX0_readNumber_27 : decode cX0_readNumber 27 = .ok (.invokestatic 68, 3) := by decide +kernel
theorem dX0_readNumber_30 : decode cX0_readNumber 30 = .ok (.ifCond .ne 5, 3) := by decide +kernel
theorem dX0_readNumber_33 : decode cX0_readNumber 33 = .ok (.iconst 0, 1) := by decide +kernel
theorem dX0_readNumber_34 : decode cX0_readNumber 34 = .ok (.ireturn, 1) := by decide +kernel
theorem dX0_readNumber_35 : decode cX0_readNumber 35 = .ok (.aload_n 0, 1) := by decide +kernel
theorem dX0_readNumber_36 : decode cX0_readNumber 36 = .ok (.aload_n 0, 1) := by decide +kernel
theorem dX0_readNumber_37 : decode cX0_readNumber 37 = .ok (.getfield 24, 3) := by decide +kernel
theorem dX0_readNumber_40 : decode cX0_readNumber 40 = .ok (.invokevirtual 65, 3) := by decide +kernel
theorem dX0_readNumber_43 : decode cX0_readNumber 43 = .ok (.bipush 48, 2) := by decide +kernel
theorem dX0_readNumber_45 : decode cX0_readNumber 45 = .ok (.isub, 1) := by decide +kernel
theorem dX0_readNumber_46 : decode cX0_readNumber 46 = .ok (.istore_n 2, 1) := by decide +kernel
theorem dX0_readNumber_47 : decode cX0_readNumber 47 = .ok (.aload_n 0, 1) := by decide +kernel
theorem dX0_readNumber_48 : decode cX0_readNumber 48 = .ok (.dup, 1) := by decide +kernel
theorem dX0_readNumber_49 : decode cX0_readNumber 49 = .ok (.getfield 24, 3) := by decide +kernel
theorem dX0_readNumber_52 : decode cX0_readNumber 52 = .ok (.iconst 1, 1) := by decide +kernel
theorem dX0_readNumber_53 : decode cX0_readNumber 53 = .ok (.iadd, 1) := by decide +kernel
theorem dX0_readNumber_54 : decode cX0_readNumber 54 = .ok (.putfield 24, 3) := by decide +kernel
theorem dX0_readNumber_57 : decode cX0_readNumber 57 = .ok (.aload_n 0, 1) := by decide +kernel
theorem dX0_readNumber_58 : decode cX0_readNumber 58 = .ok (.aload_n 0, 1) := by decide +kernel
theorem dX0_readNumber_59 : decode cX0_readNumber 59 = .ok (.getfield 24, 3) := by decide +kernel
theorem dX0_readNumber_62 : decode cX0_readNumber 62 = .ok (.invokevirtual 65, 3) := by decide +kernel
theorem dX0_readNumber_65 : decode cX0_readNumber 65 = .ok (.invokestatic 68, 3) := by decide +kernel
theorem dX0_readNumber_68 : decode cX0_readNumber 68 = .ok (.ifCond .eq 30, 3) := by decide +kernel
theorem dX0_readNumber_71 : decode cX0_readNumber 71 = .ok (.bipush 10, 2) := by decide +kernel
theorem dX0_readNumber_73 : decode cX0_readNumber 73 = .ok (.iload_n 2, 1) := by decide +kernel
theorem dX0_readNumber_74 : decode cX0_readNumber 74 = .ok (.imul, 1) := by decide +kernel
theorem dX0_readNumber_75 : decode cX0_readNumber 75 = .ok (.aload_n 0, 1) := by decide +kernel
theorem dX0_readNumber_76 : decode cX0_readNumber 76 = .ok (.aload_n 0, 1) := by decide +kernel
theorem dX0_readNumber_77 : decode cX0_readNumber 77 = .ok (.getfield 24, 3) := by decide +kernel
theorem dX0_readNumber_80 : decode cX0_readNumber 80 = .ok (.invokevirtual 65, 3) := by decide +kernel
theorem dX0_readNumber_83 : decode cX0_readNumber 83 = .ok (.iadd, 1) := by decide +kernel
theorem dX0_readNumber_84 : decode cX0_readNumber 84 = .ok (.bipush 48, 2) := by decide +kernel
theorem dX0_readNumber_86 : decode cX0_readNumber 86 = .ok (.isub, 1) := by decide +kernel
theorem dX0_readNumber_87 : decode cX0_readNumber 87 = .ok (.istore_n 2, 1) := by decide +kernel
theorem dX0_readNumber_88 : decode cX0_readNumber 88 = .ok (.aload_n 0, 1) := by decide +kernel
theorem dX0_readNumber_89 : decode cX0_readNumber 89 = .ok (.dup, 1) := by decide +kernel
theorem dX0_readNumber_90 : decode cX0_readNumber 90 = .ok (.getfield 24, 3) := by decide +kernel
theorem dX0_readNumber_93 : decode cX0_readNumber 93 = .ok (.iconst 1, 1) := by decide +kernel
theorem dX0_readNumber_94 : decode cX0_readNumber 94 = .ok (.iadd, 1) := by decide +kernel
theorem dX0_readNumber_95 : decode cX0_readNumber 95 = .ok (.putfield 24, 3) := by decide +kernel
theorem dX0_readNumber_98 : decode cX0_readNumber 98 = .ok (.aload_n 0, 1) := by decide +kernel
theorem dX0_readNumber_99 : decode cX0_readNumber 99 = .ok (.getfield 30, 3) := by decide +kernel
theorem dX0_readNumber_102 : decode cX0_readNumber 102 = .ok (.aload_n 0, 1) := by decide +kernel
theorem dX0_readNumber_103 : decode cX0_readNumber 103 = .ok (.getfield 33, 3) := by decide +kernel
theorem dX0_readNumber_106 : decode cX0_readNumber 106 = .ok (.iconst 3, 1) := by decide +kernel
theorem dX0_readNumber_107 : decode cX0_readNumber 107 = .ok (.imul, 1) := by decide +kernel
theorem dX0_readNumber_108 : decode cX0_readNumber 108 = .ok (.iload_n 1, 1) := by decide +kernel
theorem dX0_readNumber_109 : decode cX0_readNumber 109 = .ok (.iadd, 1) := by decide +kernel
theorem dX0_readNumber_110 : decode cX0_readNumber 110 = .ok (.iload_n 2, 1) := by decide +kernel
theorem dX0_readNumber_111 : decode cX0_readNumber 111 = .ok (.invokevirtual 36, 3) := by decide +kernel
theorem dX0_readNumber_114 : decode cX0_readNumber 114 = .ok (.iconst 1, 1) := by decide +kernel
theorem dX0_readNumber_115 : decode cX0_readNumber 115 = .ok (.ireturn, 1) := by decide +kernel
set_option maxRecDepth 20000 in
theorem ggX0_skipSpaces_X0_byteAt : GoodIn wsX0_skipSpaces wsX0_byteAt := goodIn_r _ [7, 2, 8, 9, 10, 11, 12, 13, 14, 15, 16, 17, 18, 19, 20, 21] (by decide +kernel) (by decide +kernel)
set_option maxRecDepth 20000 in
theorem gX0_skipSpaces_X0_byteAt : GoodIn wsX0_skipSpaces (wsV RX0 65 RX0 yX0_byteAt wsX0_byteAt) := goodIn_app (goodIn_of _ (by decide +kernel)) ggX0_skipSpaces_X0_byteAt
theorem dX0_skipSpaces_0 : decode cX0_skipSpaces 0 = .ok (.aload_n 0, 1) := by decide +kernel
theorem dX0_skipSpaces_1 : decode cX0_skipSpaces 1 = .ok (.getfield 24, 3) := by decide +kernel
theorem dX0_skipSpaces_4 : decode cX0_skipSpaces 4 = .ok (.aload_n 0, 1) := by decide +kernel
theorem dX0_skipSpaces_5 : decode cX0_skipSpaces 5 = .ok (.getfield 20, 3) := by decide +kernel
theorem dX0_skipSpaces_8 : decode cX0_skipSpaces 8 = .ok (.if_icmp .ge 29, 3) := by decide +kernel
theorem dX0_skipSpaces_11 : decode cX0_skipSpaces 11 = .ok (.aload_n 0, 1) := by decide +kernel
theorem dX0_skipSpaces_12 : decode cX0_skipSpaces 12 = .ok (.aload_n 0, 1) := by decide +kernel
theorem dX0_skipSpaces_13 : decode cX0_skipSpaces 13 = .ok (.getfield 24, 3) := by decide +kernel
theorem dX0_skipSpaces_16 : decode cX0_skipSpaces 16 = .ok (.invokevirtual 65, 3) := by decide +kernel
theorem dX0_skipSpaces_19 : decode cX0_skipSpaces 19 = .ok (.bipush 32, 2) := by decide +kernel
theorem dX0_skipSpaces_21 : decode cX0_skipSpaces 21 = .ok (.if_icmp .ne 16, 3) := by decide +kernel
theorem dX0_skipSpaces_24 : decode cX0_skipSpaces 24 = .ok (.aload_n 0, 1) := by decide +kernel
theorem dX0_skipSpaces_25 : decode cX0_skipSpaces 25 = .ok (.dup, 1) := by decide +kernel
theorem dX0_skipSpaces_26 : decode cX0_skipSpaces 26 = .ok (.getfield 24, 3) := by decide +kernel
theorem dX0_skipSpaces_29 : decode cX0_skipSpaces 29 = .ok (.iconst 1, 1) := by decide +kernel
theorem dX0_skipSpaces_30 : decode cX0_skipSpaces 30 = .ok (.iadd, 1) := by decide +kernel
theorem dX0_skipSpaces_31 : decode cX0_skipSpaces 31 = .ok (.putfield 24, 3) := by decide +kernel
theorem dX0_skipSpaces_34 : decode cX0_skipSpaces 34 = .ok (.goto (-34), 3) := by decide +kernel
theorem dX0_skipSpaces_37 : decode cX0_skipSpaces 37 = .ok (.return_, 1) := by decide +kernel
set_option maxRecDepth 20000 in
theorem ggX0_skipLetters_X0_byteAt : GoodIn wsX0_skipLetters wsX0_byteAt := goodIn_r _ [7, 2, 8, 9, 10, 11, 12, 13, 14, 18, 19, 20, 21, 22, 23, 24] (by decide +kernel) (by decide +kernel)
set_option maxRecDepth 20000 in
theorem gX0_skipLetters_X0_byteAt : GoodIn wsX0_skipLetters (wsV RX0 65 RX0 yX0_byteAt wsX0_byteAt) := goodIn_app (goodIn_of _ (by decide +kernel)) ggX0_skipLetters_X0_byteAt
set_option maxRecDepth 20000 in
theorem ggX0_skipLetters_X0_isLetter : GoodIn wsX0_skipLetters wsX0_isLetter := goodIn_r _ [17] (by decide +kernel) (by decide +kernel)
set_option maxRecDepth 20000 in
theorem gX0_skipLetters_X0_isLetter : GoodIn wsX0_skipLetters (va_wsS RX0 71 yX0_isLetter wsX0_isLetter) := goodIn_app (goodIn_of _ (by decide +kernel)) ggX0_skipLetters_X0_isLetter
theorem dX0_skipLetters_0 : decode cX0_skipLetters 0 = .ok (.aload_n 0, 1) := by decide +kernel
theorem dX0_skipLetters_1 : decode cX0_skipLetters 1 = .ok (.getfield 24, 3) := by decide +kernel
theorem dX0_skipLetters_4 : decode cX0_skipLetters 4 = .ok (.aload_n 0, 1) := by decide +kernel
theorem dX0_skipLetters_5 : decode cX0_skipLetters 5 = .ok (.getfield 20, 3) := by decide +kernel
theorem dX0_skipLetters_8 : decode cX0_skipLetters 8 = .ok (.if_icmp .ge 30, 3) := by decide +kernel
theorem dX0_skipLetters_11 : decode cX0_skipLetters 11 = .ok (.aload_n 0, 1) := by decide +kernel
theorem dX0_skipLetters_12 : decode cX0_skipLetters 12 = .ok (.aload_n 0, 1) := by decide +kernel
theorem dX0_skipLetters_13 : decode cX0_skipLetters 13 = .ok (.getfield 24, 3) := by decide +kernel
theorem dX0_skipLetters_16 : decode cX0_skipLetters 16 = .ok (.invokevirtual 65, 3) := by decide +kernel
theorem dX0_skipLetters_19 : decode cX0_skipLetters 19 = .ok (.invokestatic 71, 3) := by decide +kernel
theorem dX0_skipLetters_22 : decode cX0_skipLetters 22 = .ok (.ifCond .eq 16, 3) := by decide +kernel
theorem dX0_skipLetters_25 : decode cX0_skipLetters 25 = .ok (.aload_n 0, 1) := by decide +kernel
theorem dX0_skipLetters_26 : decode cX0_skipLetters 26 = .ok (.dup, 1) := by decide +kernel
theorem dX0_skipLetters_27 : decode cX0_skipLetters 27 = .ok (.getfield 24, 3) := by decide +kernel
theorem dX0_skipLetters_30 : decode cX0_skipLetters 30 = .ok (.iconst 1, 1) := by decide +kernel
theorem dX0_skipLetters_31 : decode cX0_skipLetters 31 = .ok (.iadd, 1) := by decide +kernel
theorem dX0_skipLetters_32 : decode cX0_skipLetters 32 = .ok (.putfield 24, 3) := by decide +kernel
theorem dX0_skipLetters_35 : decode cX0_skipLetters 35 = .ok (.goto (-35), 3) := by decide +kernel
theorem dX0_skipLetters_38 : decode cX0_skipLetters 38 = .ok (.return_, 1) := by decide +kernel
set_option maxRecDepth 20000 in
theorem ggX0_byteAt_X3_get : GoodIn wsX0_byteAt wsX3_get := goodIn_r _ [7, 8, 15] (by decide +kernel) (by decide +kernel)
set_option maxRecDepth 20000 in
theorem gX0_byteAt_X3_get : GoodIn wsX0_byteAt (wsV RX0 40 RX3 yX3_get wsX3_get) := goodIn_app (goodIn_of _ (by decide +kernel)) ggX0_byteAt_X3_get
theorem dX0_byteAt_0 : decode cX0_byteAt 0 = .ok (.iload_n 1, 1) := by decide +kernel
theorem dX0_byteAt_1 : decode cX0_byteAt 1 = .ok (.aload_n 0, 1) := by decide +kernel
theorem dX0_byteAt_2 : decode cX0_byteAt 2 = .ok (.getfield 20, 3) := by decide +kernel
theorem dX0_byteAt_5 : decode cX0_byteAt 5 = .ok (.if_icmp .ge 14, 3) := by decide +kernel
theorem dX0_byteAt_8 : decode cX0_byteAt 8 = .ok (.aload_n 0, 1) := by decide +kernel
theorem dX0_byteAt_9 : decode cX0_byteAt 9 = .ok (.getfield 14, 3) := by decide +kernel
theorem dX0_byteAt_12 : decode cX0_byteAt 12 = .ok (.iload_n 1, 1) := by decide +kernel
theorem dX0_byteAt_13 : decode cX0_byteAt 13 = .ok (.invokevirtual 40, 3) := by decide +kernel
theorem dX0_byteAt_16 : decode cX0_byteAt 16 = .ok (.goto 4, 3) := by decide +kernel
theorem dX0_byteAt_19 : decode cX0_byteAt 19 = .ok (.iconst (-1), 1) := by decide +kernel
theorem dX0_byteAt_20 : decode cX0_byteAt 20 = .ok (.ireturn, 1) := by decide +kernel
theorem dX0_isDigit_0 : decode cX0_isDigit 0 = .ok (.iload_n 0, 1) := by decide +kernel
theorem dX0_isDigit_1 : decode cX0_isDigit 1 = .ok (.bipush 48, 2) := by decide +kernel
theorem dX0_isDigit_3 : decode cX0_isDigit 3 = .ok (.if_icmp .lt 13, 3) := by decide +kernel
theorem dX0_isDigit_6 : decode cX0_isDigit 6 = .ok (.iload_n 0, 1) := by decide +kernel
theorem dX0_isDigit_7 : decode cX0_isDigit 7 = .ok (.bipush 57, 2) := by decide +kernel
theorem dX0_isDigit_9 : decode cX0_isDigit 9 = .ok (.if_icmp .gt 7, 3) := by decide +kernel
theorem dX0_isDigit_12 : decode cX0_isDigit 12 = .ok (.iconst 1, 1) := by decide +kernel
theorem dX0_isDigit_13 : decode cX0_isDigit 13 = .ok (.goto 4, 3) := by decide +kernel
theorem dX0_isDigit_16 : decode cX0_isDigit 16 = .ok (.iconst 0, 1) := by decide +kernel
theorem dX0_isDigit_17 : decode cX0_isDigit 17 = .ok (.ireturn, 1) := by decide +kernel
theorem dX0_isLetter_0 : decode cX0_isLetter 0 = .ok (.iload_n 0, 1) := by decide +kernel
theorem dX0_isLetter_1 : decode cX0_isLetter 1 = .ok (.bipush 97, 2) := by decide +kernel
theorem dX0_isLetter_3 : decode cX0_isLetter 3 = .ok (.if_icmp .lt 13, 3) := by decide +kernel
theorem dX0_isLetter_6 : decode cX0_isLetter 6 = .ok (.iload_n 0, 1) := by decide +kernel
theorem dX0_isLetter_7 : decode cX0_isLetter 7 = .ok (.bipush 122, 2) := by decide +kernel
theorem dX0_isLetter_9 : decode cX0_isLetter 9 = .ok (.if_icmp .gt 7, 3) := by decide +kernel
theorem dX0_isLetter_12 : decode cX0_isLetter 12 = .ok (.iconst 1, 1) := by decide +kernel
theorem dX0_isLetter_13 : decode cX0_isLetter 13 = .ok (.goto 4, 3) := by decide +kernel
theorem dX0_isLetter_16 : decode cX0_isLetter 16 = .ok (.iconst 0, 1) := by decide +kernel
theorem dX0_isLetter_17 : decode cX0_isLetter 17 = .ok (.ireturn, 1) := by decide +kernel
set_option maxRecDepth 20000 in
theorem ggX0_findWord_X0_spellingOf : GoodIn wsX0_findWord wsX0_spellingOf := goodIn_r _ [4] (by decide +kernel) (by decide +kernel)
set_option maxRecDepth 20000 in
theorem gX0_findWord_X0_spellingOf : GoodIn wsX0_findWord (va_wsS RX0 74 yX0_spellingOf wsX0_spellingOf) := goodIn_app (goodIn_of _ (by decide +kernel)) ggX0_findWord_X0_spellingOf
set_option maxRecDepth 20000 in
theorem ggX0_findWord_X0_isTextAt : GoodIn wsX0_findWord wsX0_isTextAt := goodIn_r _ [8, 9, 10, 11, 12, 13, 14, 15, 16, 17, 18, 19, 20, 21, 22, 23, 3, 24, 25, 26, 27, 28, 29, 30, 31, 32, 33, 34, 35, 36, 37, 38, 39, 40, 41, 42, 43, 44, 45, 46, 47, 48, 49, 50, 51, 52, 53, 54, 55, 56, 57, 58, 59, 60, 61, 62, 63, 64, 65, 66, 67, 68, 69, 70, 71, 72, 73, 74, 75, 76] (by decide +kernel) (by decide +kernel)
set_option maxRecDepth 20000 in
theorem gX0_findWord_X0_isTextAt : GoodIn wsX0_findWord (wsV RX0 78 RX0 yX0_isTextAt wsX0_isTextAt) := goodIn_app (goodIn_of _ (by decide +kernel)) ggX0_findWord_X0_isTextAt
theorem dX0_findWord_0 : decode cX0_findWord 0 = .ok (.iconst 0, 1) := by decide +kernel
theorem dX0_findWord_1 : decode cX0_findWord 1 = .ok (.istore_n 3, 1) := by decide +kernel
theorem dX0_findWord_2 : decode cX0_findWord 2 = .ok (.iload_n 3, 1) := by decide +kernel
theorem dX0_findWord_3 : decode cX0_findWord 3 = .ok (.bipush 6, 2) := by decide +kernel
theorem dX0_findWord_5 : decode cX0_findWord 5 = .ok (.if_icmp .ge 24, 3) := by decide +kernel
theorem dX0_findWord_8 : decode cX0_findWord 8 = .ok (.aload_n 0, 1) := by decide +kernel
theorem dX0_findWord_9 : decode cX0_findWord 9 = .ok (.iload_n 1, 1) := by decide +kernel
theorem dX0_findWord_10 : decode cX0_findWord 10 = .ok (.iload_n 2, 1) := by decide +kernel
theorem dX0_findWord_11 : decode cX0_findWord 11 = .ok (.iload_n 3, 1) := by decide +kernel
theorem dX0_findWord_12 : decode cX0_findWord 12 = .ok (.invokestatic 74, 3) := by decide +kernel
theorem dX0_findWord_15 : decode cX0_findWord 15 = .ok (.invokevirtual 78, 3) := by decide +kernel
theorem dX0_findWord_18 : decode cX0_findWord 18 = .ok (.ifCond .eq 5, 3) := by decide +kernel
theorem dX0_findWord_21 : decode cX0_findWord 21 = .ok (.iload_n 3, 1) := by decide +kernel
theorem dX0_findWord_22 : decode cX0_findWord 22 = .ok (.ireturn, 1) := by decide +kernel
theorem dX0_findWord_23 : decode cX0_findWord 23 = .ok (.iinc 3 1, 3) := by decide +kernel
theorem dX0_findWord_26 : decode cX0_findWord 26 = .ok (.goto (-24), 3) := by decide +kernel
theorem dX0_findWord_29 : decode cX0_findWord 29 = .ok (.iconst (-1), 1) := by decide +kernel
theorem dX0_findWord_30 : decode cX0_findWord 30 = .ok (.ireturn, 1) := by decide +kernel
set_option maxRecDepth 20000 in
theorem ggX0_isTextAt_J0_length_8abf5 : GoodIn wsX0_isTextAt wsJ0_length_8abf5 := goodIn_r _ [5, 6, 7, 8, 9, 4, 10, 11, 12] (by decide +kernel) (by decide +kernel)
set_option maxRecDepth 20000 in
theorem gX0_isTextAt_J0_length_8abf5 : GoodIn wsX0_isTextAt (wsV RX0 82 RJ0 yJ0_length_8abf5 wsJ0_length_8abf5) := goodIn_app (goodIn_of _ (by decide +kernel)) ggX0_isTextAt_J0_length_8abf5
set_option maxRecDepth 20000 in
theorem ggX0_isTextAt_X0_byteAt : GoodIn wsX0_isTextAt wsX0_byteAt := goodIn_r _ [17, 18, 19, 20, 21, 22, 23, 24, 25, 63, 64, 65, 66, 67, 68, 69] (by decide +kernel) (by decide +kernel)
set_option maxRecDepth 20000 in
theorem gX0_isTextAt_X0_byteAt : GoodIn wsX0_isTextAt (wsV RX0 65 RX0 yX0_byteAt wsX0_byteAt) := goodIn_app (goodIn_of _ (by decide +kernel)) ggX0_isTextAt_X0_byteAt
set_option maxRecDepth 20000 in
theorem ggX0_isTextAt_J0_charAt_5068e : GoodIn wsX0_isTextAt wsJ0_charAt_5068e := goodIn_r _ [29, 6, 30, 31, 32, 4, 33, 11, 12, 34, 35, 36, 37, 38, 39, 40, 41, 42, 43, 44, 45, 46, 47, 48, 49, 50, 51, 52, 53, 54, 55, 56, 57, 58, 59, 60, 61, 62] (by decide +kernel) (by decide +kernel)
set_option maxRecDepth 20000 in
theorem gX0_isTextAt_J0_charAt_5068e : GoodIn wsX0_isTextAt (wsV RX0 87 RJ0 yJ0_charAt_5068e wsJ0_charAt_5068e) := goodIn_app (goodIn_of _ (by decide +kernel)) ggX0_isTextAt_J0_charAt_5068e
theorem dX0_isTextAt_0 : decode cX0_isTextAt 0 = .ok (.iload_n 2, 1) := by decide +kernel
theorem dX0_isTextAt_1 : decode cX0_isTextAt 1 = .ok (.iload_n 1, 1) := by decide +kernel
theorem dX0_isTextAt_2 : decode cX0_isTextAt 2 = .ok (.isub, 1) := by decide +kernel
theorem dX0_isTextAt_3 : decode cX0_isTextAt 3 = .ok (.aload_n 3, 1) := by decide +kernel
theorem dX0_isTextAt_4 : decode cX0_isTextAt 4 = .ok (.invokevirtual 82, 3) := by decide +kernel
theorem dX0_isTextAt_7 : decode cX0_isTextAt 7 = .ok (.if_icmp .eq 5, 3) := by decide +kernel
theorem dX0_isTextAt_10 : decode cX0_isTextAt 10 = .ok (.iconst 0, 1) := by decide +kernel
theorem dX0_isTextAt_11 : decode cX0_isTextAt 11 = .ok (.ireturn, 1) := by decide +kernel
theorem dX0_isTextAt_12 : decode cX0_isTextAt 12 = .ok (.iconst 0, 1) := by decide +kernel
theorem dX0_isTextAt_13 : decode cX0_isTextAt 13 = .ok (.istore 4, 2) := by decide +kernel
theorem dX0_isTextAt_15 : decode cX0_isTextAt 15 = .ok (.iload 4, 2) := by decide +kernel
theorem dX0_isTextAt_17 : decode cX0_isTextAt 17 = .ok (.aload_n 3, 1) := by decide +kernel
theorem dX0_isTextAt_18 : decode cX0_isTextAt 18 = .ok (.invokevirtual 82, 3) := by decide +kernel
theorem dX0_isTextAt_21 : decode cX0_isTextAt 21 = .ok (.if_icmp .ge 28, 3) := by decide +kernel
theorem dX0_isTextAt_24 : decode cX0_isTextAt 24 = .ok (.aload_n 0, 1) := by decide +kernel
theorem dX0_isTextAt_25 : decode cX0_isTextAt 25 = .ok (.iload_n 1, 1) := by decide +kernel
theorem dX0_isTextAt_26 : decode cX0_isTextAt 26 = .ok (.iload 4, 2) := by decide +kernel
theorem dX0_isTextAt_28 : decode cX0_isTextAt 28 = .ok (.iadd, 1) := by decide +kernel
theorem dX0_isTextAt_29 : decode cX0_isTextAt 29 = .ok (.invokevirtual 65, 3) := by decide +kernel
theorem dX0_isTextAt_32 : decode cX0_isTextAt 32 = .ok (.aload_n 3, 1) := by decide +kernel
theorem dX0_isTextAt_33 : decode cX0_isTextAt 33 = .ok (.iload 4, 2) := by decide +kernel
theorem dX0_isTextAt_35 : decode cX0_isTextAt 35 = .ok (.invokevirtual 87, 3) := by decide +kernel
theorem dX0_isTextAt_38 : decode cX0_isTextAt 38 = .ok (.if_icmp .eq 5, 3) := by decide +kernel
theorem dX0_isTextAt_41 : decode cX0_isTextAt 41 = .ok (.iconst 0, 1) := by decide +kernel
theorem dX0_isTextAt_42 : decode cX0_isTextAt 42 = .ok (.ireturn, 1) := by decide +kernel
theorem dX0_isTextAt_43 : decode cX0_isTextAt 43 = .ok (.iinc 4 1, 3) := by decide +kernel
theorem dX0_isTextAt_46 : decode cX0_isTextAt 46 = .ok (.goto (-31), 3) := by decide +kernel
theorem dX0_isTextAt_49 : decode cX0_isTextAt 49 = .ok (.iconst 1, 1) := by decide +kernel
theorem dX0_isTextAt_50 : decode cX0_isTextAt 50 = .ok (.ireturn, 1) := by decide +kernel
theorem dX0_spellingOf_0 : decode cX0_spellingOf 0 = .ok (.iload_n 0, 1) := by decide +kernel
theorem dX0_spellingOf_1 : decode cX0_spellingOf 1 = .ok (.tableswitch 54 0 5 #[39, 42, 45, 48, 51, 54], 39) := by decide +kernel
theorem dX0_spellingOf_40 : decode cX0_spellingOf 40 = .ok (.ldc 91, 2) := by decide +kernel
theorem dX0_spellingOf_42 : decode cX0_spellingOf 42 = .ok (.areturn, 1) := by decide +kernel
theorem dX0_spellingOf_43 : decode cX0_spellingOf 43 = .ok (.ldc 93, 2) := by decide +kernel
theorem dX0_spellingOf_45 : decode cX0_spellingOf 45 = .ok (.areturn, 1) := by decide +kernel
theorem dX0_spellingOf_46 : decode cX0_spellingOf 46 = .ok (.ldc 95, 2) := by decide +kernel
theorem dX0_spellingOf_48 : decode cX0_spellingOf 48 = .ok (.areturn, 1) := by decide +kernel
theorem dX0_spellingOf_49 : decode cX0_spellingOf 49 = .ok (.ldc 97, 2) := by decide +kernel
theorem dX0_spellingOf_51 : decode cX0_spellingOf 51 = .ok (.areturn, 1) := by decide +kernel
theorem dX0_spellingOf_52 : decode cX0_spellingOf 52 = .ok (.ldc 99, 2) := by decide +kernel
theorem dX0_spellingOf_54 : decode cX0_spellingOf 54 = .ok (.areturn, 1) := by decide +kernel
theorem dX0_spellingOf_55 : decode cX0_spellingOf 55 = .ok (.ldc 101, 2) := by decide +kernel
theorem dX0_spellingOf_57 : decode cX0_spellingOf 57 = .ok (.areturn, 1) := by decide +kernel
theorem dX0_numbersAfter_0 : decode cX0_numbersAfter 0 = .ok (.iload_n 0, 1) := by decide +kernel
theorem dX0_numbersAfter_1 : decode cX0_numbersAfter 1 = .ok (.ifCond .eq 13, 3) := by decide +kernel
theorem dX0_numbersAfter_4 : decode cX0_numbersAfter 4 = .ok (.iload_n 0, 1) := by decide +kernel
theorem dX0_numbersAfter_5 : decode cX0_numbersAfter 5 = .ok (.iconst 1, 1) := by decide +kernel
theorem dX0_numbersAfter_6 : decode cX0_numbersAfter 6 = .ok (.if_icmp .eq 8, 3) := by decide +kernel
theorem dX0_numbersAfter_9 : decode cX0_numbersAfter 9 = .ok (.iload_n 0, 1) := by decide +kernel
theorem dX0_numbersAfter_10 : decode cX0_numbersAfter 10 = .ok (.iconst 2, 1) := by decide +kernel
theorem dX0_numbersAfter_11 : decode cX0_numbersAfter 11 = .ok (.if_icmp .ne 7, 3) := by decide +kernel
theorem dX0_numbersAfter_14 : decode cX0_numbersAfter 14 = .ok (.iconst 3, 1) := by decide +kernel
theorem dX0_numbersAfter_15 : decode cX0_numbersAfter 15 = .ok (.goto 4, 3) := by decide +kernel
theorem dX0_numbersAfter_18 : decode cX0_numbersAfter 18 = .ok (.iconst 0, 1) := by decide +kernel
theorem dX0_numbersAfter_19 : decode cX0_numbersAfter 19 = .ok (.ireturn, 1) := by decide +kernel
theorem dX1_isFree_0 : decode cX1_isFree 0 = .ok (.iload_n 0, 1) := by decide +kernel
theorem dX1_isFree_1 : decode cX1_isFree 1 = .ok (.iload_n 1, 1) := by decide +kernel
theorem dX1_isFree_2 : decode cX1_isFree 2 = .ok (.ishr, 1) := by decide +kernel
theorem dX1_isFree_3 : decode cX1_isFree 3 = .ok (.iconst 1, 1) := by decide +kernel
theorem dX1_isFree_4 : decode cX1_isFree 4 = .ok (.iand, 1) := by decide +kernel
theorem dX1_isFree_5 : decode cX1_isFree 5 = .ok (.ifCond .ne 7, 3) := by decide +kernel
theorem dX1_isFree_8 : decode cX1_isFree 8 = .ok (.iconst 1, 1) := by decide +kernel
theorem dX1_isFree_9 : decode cX1_isFree 9 = .ok (.goto 4, 3) := by decide +kernel
theorem dX1_isFree_12 : decode cX1_isFree 12 = .ok (.iconst 0, 1) := by decide +kernel
theorem dX1_isFree_13 : decode cX1_isFree 13 = .ok (.ireturn, 1) := by decide +kernel
set_option maxRecDepth 20000 in
theorem ggX1_count_X1_isFree : GoodIn wsX1_count wsX1_isFree := goodIn_r _ [4] (by decide +kernel) (by decide +kernel)
set_option maxRecDepth 20000 in
theorem gX1_count_X1_isFree : GoodIn wsX1_count (va_wsS RX1 9 yX1_isFree wsX1_isFree) := goodIn_app (goodIn_of _ (by decide +kernel)) ggX1_count_X1_isFree
theorem dX1_count_0 : decode cX1_count 0 = .ok (.iconst 0, 1) := by decide +kernel
theorem dX1_count_1 : decode cX1_count 1 = .ok (.istore_n 1, 1) := by decide +kernel
theorem dX1_count_2 : decode cX1_count 2 = .ok (.iconst 0, 1) := by decide +kernel
theorem dX1_count_3 : decode cX1_count 3 = .ok (.istore_n 2, 1) := by decide +kernel
theorem dX1_count_4 : decode cX1_count 4 = .ok (.iload_n 2, 1) := by decide +kernel
theorem dX1_count_5 : decode cX1_count 5 = .ok (.bipush 24, 2) := by decide +kernel
theorem dX1_count_7 : decode cX1_count 7 = .ok (.if_icmp .ge 34, 3) := by decide +kernel
theorem dX1_count_10 : decode cX1_count 10 = .ok (.iload_n 0, 1) := by decide +kernel
theorem dX1_count_11 : decode cX1_count 11 = .ok (.iload_n 2, 1) := by decide +kernel
theorem dX1_count_12 : decode cX1_count 12 = .ok (.invokestatic 9, 3) := by decide +kernel
theorem dX1_count_15 : decode cX1_count 15 = .ok (.ifCond .eq 20, 3) := by decide +kernel
theorem dX1_count_18 : decode cX1_count 18 = .ok (.iload_n 2, 1) := by decide +kernel
theorem dX1_count_19 : decode cX1_count 19 = .ok (.ifCond .eq 13, 3) := by decide +kernel
theorem dX1_count_22 : decode cX1_count 22 = .ok (.iload_n 0, 1) := by decide +kernel
theorem dX1_count_23 : decode cX1_count 23 = .ok (.iload_n 2, 1) := by decide +kernel
theorem dX1_count_24 : decode cX1_count 24 = .ok (.iconst 1, 1) := by decide +kernel
theorem dX1_count_25 : decode cX1_count 25 = .ok (.isub, 1) := by decide +kernel
theorem dX1_count_26 : decode cX1_count 26 = .ok (.invokestatic 9, 3) := by decide +kernel
theorem dX1_count_29 : decode cX1_count 29 = .ok (.ifCond .ne 6, 3) := by decide +kernel
theorem dX1_count_32 : decode cX1_count 32 = .ok (.iinc 1 1, 3) := by decide +kernel
theorem dX1_count_35 : decode cX1_count 35 = .ok (.iinc 2 1, 3) := by decide +kernel
theorem dX1_count_38 : decode cX1_count 38 = .ok (.goto (-34), 3) := by decide +kernel
theorem dX1_count_41 : decode cX1_count 41 = .ok (.iload_n 1, 1) := by decide +kernel
theorem dX1_count_42 : decode cX1_count 42 = .ok (.ireturn, 1) := by decide +kernel
set_option maxRecDepth 20000 in
theorem ggX1_widest_X1_isFree : GoodIn wsX1_widest wsX1_isFree := goodIn_r _ [8] (by decide +kernel) (by decide +kernel)
set_option maxRecDepth 20000 in
theorem gX1_widest_X1_isFree : GoodIn wsX1_widest (va_wsS RX1 9 yX1_isFree wsX1_isFree) := goodIn_app (goodIn_of _ (by decide +kernel)) ggX1_widest_X1_isFree
theorem dX1_widest_0 : decode cX1_widest 0 = .ok (.iconst 0, 1) := by decide +kernel
theorem dX1_widest_1 : decode cX1_widest 1 = .ok (.istore_n 1, 1) := by decide +kernel
theorem dX1_widest_2 : decode cX1_widest 2 = .ok (.iconst 0, 1) := by decide +kernel
theorem dX1_widest_3 : decode cX1_widest 3 = .ok (.istore_n 2, 1) := by decide +kernel
theorem dX1_widest_4 : decode cX1_widest 4 = .ok (.iconst 0, 1) := by decide +kernel
theorem dX1_widest_5 : decode cX1_widest 5 = .ok (.istore_n 3, 1) := by decide +kernel
theorem dX1_widest_6 : decode cX1_widest 6 = .ok (.iload_n 3, 1) := by decide +kernel
theorem dX1_widest_7 : decode cX1_widest 7 = .ok (.bipush 24, 2) := by decide +kernel
theorem dX1_widest_9 : decode cX1_widest 9 = .ok (.if_icmp .ge 31, 3) := by decide +kernel
theorem dX1_widest_12 : decode cX1_widest 12 = .ok (.iload_n 0, 1) := by decide +kernel
theorem dX1_widest_13 : decode cX1_widest 13 = .ok (.iload_n 3, 1) := by decide +kernel
theorem dX1_widest_14 : decode cX1_widest 14 = .ok (.invokestatic 9, 3) := by decide +kernel
theorem dX1_widest_17 : decode cX1_widest 17 = .ok (.ifCond .eq 9, 3) := by decide +kernel
theorem dX1_widest_20 : decode cX1_widest 20 = .ok (.iload_n 2, 1) := by decide +kernel
theorem dX1_widest_21 : decode cX1_widest 21 = .ok (.iconst 1, 1) := by decide +kernel
theorem dX1_widest_22 : decode cX1_widest 22 = .ok (.iadd, 1) := by decide +kernel
theorem dX1_widest_23 : decode cX1_widest 23 = .ok (.goto 4, 3) := by decide +kernel
theorem dX1_widest_26 : decode cX1_widest 26 = .ok (.iconst 0, 1) := by decide +kernel
theorem dX1_widest_27 : decode cX1_widest 27 = .ok (.istore_n 2, 1) := by decide +kernel
theorem dX1_widest_28 : decode cX1_widest 28 = .ok (.iload_n 1, 1) := by decide +kernel
theorem dX1_widest_29 : decode cX1_widest 29 = .ok (.iload_n 2, 1) := by decide +kernel
theorem dX1_widest_30 : decode cX1_widest 30 = .ok (.invokestatic 15, 3) := by decide +kernel
theorem dX1_widest_33 : decode cX1_widest 33 = .ok (.istore_n 1, 1) := by decide +kernel
theorem dX1_widest_34 : decode cX1_widest 34 = .ok (.iinc 3 1, 3) := by decide +kernel
theorem dX1_widest_37 : decode cX1_widest 37 = .ok (.goto (-31), 3) := by decide +kernel
theorem dX1_widest_40 : decode cX1_widest 40 = .ok (.iload_n 1, 1) := by decide +kernel
theorem dX1_widest_41 : decode cX1_widest 41 = .ok (.ireturn, 1) := by decide +kernel
set_option maxRecDepth 20000 in
theorem ggX1_leftmost_X1_isFree : GoodIn wsX1_leftmost wsX1_isFree := goodIn_r _ [4] (by decide +kernel) (by decide +kernel)
set_option maxRecDepth 20000 in
theorem gX1_leftmost_X1_isFree : GoodIn wsX1_leftmost (va_wsS RX1 9 yX1_isFree wsX1_isFree) := goodIn_app (goodIn_of _ (by decide +kernel)) ggX1_leftmost_X1_isFree
theorem dX1_leftmost_0 : decode cX1_leftmost 0 = .ok (.iconst 0, 1) := by decide +kernel
theorem dX1_leftmost_1 : decode cX1_leftmost 1 = .ok (.istore_n 2, 1) := by decide +kernel
theorem dX1_leftmost_2 : decode cX1_leftmost 2 = .ok (.iconst 0, 1) := by decide +kernel
theorem dX1_leftmost_3 : decode cX1_leftmost 3 = .ok (.istore_n 3, 1) := by decide +kernel
theorem dX1_leftmost_4 : decode cX1_leftmost 4 = .ok (.iload_n 3, 1) := by decide +kernel
theorem dX1_leftmost_5 : decode cX1_leftmost 5 = .ok (.bipush 24, 2) := by decide +kernel
theorem dX1_leftmost_7 : decode cX1_leftmost 7 = .ok (.if_icmp .ge 36, 3) := by decide +kernel
theorem dX1_leftmost_10 : decode cX1_leftmost 10 = .ok (.iload_n 0, 1) := by decide +kernel
theorem dX1_leftmost_11 : decode cX1_leftmost 11 = .ok (.iload_n 3, 1) := by decide +kernel
theorem dX1_leftmost_12 : decode cX1_leftmost 12 = .ok (.invokestatic 9, 3) := by decide +kernel
theorem dX1_leftmost_15 : decode cX1_leftmost 15 = .ok (.ifCond .eq 9, 3) := by decide +kernel
theorem dX1_leftmost_18 : decode cX1_leftmost 18 = .ok (.iload_n 2, 1) := by decide +kernel
theorem dX1_leftmost_19 : decode cX1_leftmost 19 = .ok (.iconst 1, 1) := by decide +kernel
theorem dX1_leftmost_20 : decode cX1_leftmost 20 = .ok (.iadd, 1) := by decide +kernel
theorem dX1_leftmost_21 : decode cX1_leftmost 21 = .ok (.goto 4, 3) := by decide +kernel
theorem dX1_leftmost_24 : decode cX1_leftmost 24 = .ok (.iconst 0, 1) := by decide +kernel
theorem dX1_leftmost_25 : decode cX1_leftmost 25 = .ok (.istore_n 2, 1) := by decide +kernel
theorem dX1_leftmost_26 : decode cX1_leftmost 26 = .ok (.iload_n 2, 1) := by decide +kernel
theorem dX1_leftmost_27 : decode cX1_leftmost 27 = .ok (.iload_n 1, 1) := by decide +kernel
theorem dX1_leftmost_28 : decode cX1_leftmost 28 = .ok (.if_icmp .lt 9, 3) := by decide +kernel
theorem dX1_leftmost_31 : decode cX1_leftmost 31 = .ok (.iload_n 3, 1) := by decide +kernel
theorem dX1_leftmost_32 : decode cX1_leftmost 32 = .ok (.iload_n 2, 1) := by decide +kernel
theorem dX1_leftmost_33 : decode cX1_leftmost 33 = .ok (.isub, 1) := by decide +kernel
theorem dX1_leftmost_34 : decode cX1_leftmost 34 = .ok (.iconst 1, 1) := by decide +kernel
theorem dX1_leftmost_35 : decode cX1_leftmost 35 = .ok (.iadd, 1) := by decide +kernel
theorem dX1_leftmost_36 : decode cX1_leftmost 36 = .ok (.ireturn, 1) := by decide +kernel
theorem dX1_leftmost_37 : decode cX1_leftmost 37 = .ok (.iinc 3 1, 3) := by decide +kernel
theorem dX1_leftmost_40 : decode cX1_leftmost 40 = .ok (.goto (-36), 3) := by decide +kernel
theorem dX1_leftmost_43 : decode cX1_leftmost 43 = .ok (.iconst (-1), 1) := by decide +kernel
theorem dX1_leftmost_44 : decode cX1_leftmost 44 = .ok (.ireturn, 1) := by decide +kernel
theorem dX2_init_0 : decode cX2_init 0 = .ok (.aload_n 0, 1) := by decide +kernel
theorem dX2_init_1 : decode cX2_init 1 = .ok (.invokespecial 3, 3) := by decide +kernel
theorem dX2_init_4 : decode cX2_init 4 = .ok (.aload_n 0, 1) := by decide +kernel
theorem dX2_init_5 : decode cX2_init 5 = .ok (.iconst (-1), 1) := by decide +kernel
theorem dX2_init_6 : decode cX2_init 6 = .ok (.putfield 9, 3) := by decide +kernel
theorem dX2_init_9 : decode cX2_init 9 = .ok (.aload_n 0, 1) := by decide +kernel
theorem dX2_init_10 : decode cX2_init 10 = .ok (.bipush (-2), 2) := by decide +kernel
theorem dX2_init_12 : decode cX2_init 12 = .ok (.putfield 15, 3) := by decide +kernel
theorem dX2_init_15 : decode cX2_init 15 = .ok (.aload_n 0, 1) := by decide +kernel
theorem dX2_init_16 : decode cX2_init 16 = .ok (.iconst (-1), 1) := by decide +kernel
theorem dX2_init_17 : decode cX2_init 17 = .ok (.putfield 18, 3) := by decide +kernel
theorem dX2_init_20 : decode cX2_init 20 = .ok (.aload_n 0, 1) := by decide +kernel
theorem dX2_init_21 : decode cX2_init 21 = .ok (.iconst 0, 1) := by decide +kernel
theorem dX2_init_22 : decode cX2_init 22 = .ok (.putfield 21, 3) := by decide +kernel
theorem dX2_init_25 : decode cX2_init 25 = .ok (.aload_n 0, 1) := by decide +kernel
theorem dX2_init_26 : decode cX2_init 26 = .ok (.iconst (-1), 1) := by decide +kernel
theorem dX2_init_27 : decode cX2_init 27 = .ok (.putfield 24, 3) := by decide +kernel
theorem dX2_init_30 : decode cX2_init 30 = .ok (.return_, 1) := by decide +kernel
set_option maxRecDepth 20000 in
theorem ggX2_find_X2_choose : GoodIn wsX2_find wsX2_choose := goodIn_r _ [8, 3, 9, 10, 123, 124, 125, 126, 127] (by decide +kernel) (by decide +kernel)
set_option maxRecDepth 20000 in
theorem gX2_find_X2_choose : GoodIn wsX2_find (wsV RX2 27 RX2 yX2_choose wsX2_choose) := goodIn_app (goodIn_of _ (by decide +kernel)) ggX2_find_X2_choose
set_option maxRecDepth 20000 in
theorem ggX2_find_X4_isThere : GoodIn wsX2_find wsX4_isThere := goodIn_r _ [15, 16, 17, 18, 19, 20, 21, 22, 128, 129, 130, 131, 132, 133, 134, 135, 136, 137, 138, 139, 140, 141, 142, 143, 144, 145, 146] (by decide +kernel) (by decide +kernel)
set_option maxRecDepth 20000 in
theorem gX2_find_X4_isThere : GoodIn wsX2_find (wsV RX2 31 RX4 yX4_isThere wsX4_isThere) := goodIn_app (goodIn_of _ (by decide +kernel)) ggX2_find_X4_isThere
set_option maxRecDepth 20000 in
theorem ggX2_find_X2_findGap : GoodIn wsX2_find wsX2_findGap := goodIn_r _ [26, 27, 28, 29, 14, 30, 31, 32, 33, 34, 17, 18, 19, 20, 21, 22, 35, 36, 37, 38, 39, 40, 41, 42, 43, 44, 45, 46, 47, 48, 49, 50, 51, 52, 53, 54, 16, 55, 56, 57, 58, 59, 60, 61, 62, 63, 4, 5, 6, 7, 8, 3, 9, 10, 128, 129, 130, 131, 132, 133, 134, 135, 136, 137, 138, 139, 140, 141, 142, 143, 144, 145, 146, 123, 124, 125, 126, 127] (by decide +kernel) (by decide +kernel)
set_option maxRecDepth 20000 in
theorem gX2_find_X2_findGap : GoodIn wsX2_find (wsV RX2 37 RX2 yX2_findGap wsX2_findGap) := goodIn_app (goodIn_of _ (by decide +kernel)) ggX2_find_X2_findGap
set_option maxRecDepth 20000 in
theorem ggX2_find_X2_findRoomForShelf : GoodIn wsX2_find wsX2_findRoomForShelf := goodIn_r _ [67, 39, 40, 41, 14, 42, 43, 32, 33, 34, 17, 18, 19, 20, 21, 22, 35, 36, 37, 38, 68, 69, 70, 71, 48, 72, 73, 74, 75, 4, 5, 6, 7, 8, 3, 9, 10, 128, 129, 130, 131, 132, 133, 134, 135, 136, 137, 138, 139, 140, 141, 142, 143, 144, 145, 146, 123, 124, 125, 126, 127] (by decide +kernel) (by decide +kernel)
set_option maxRecDepth 20000 in
theorem gX2_find_X2_findRoomForShelf : GoodIn wsX2_find (wsV RX2 41 RX2 yX2_findRoomForShelf wsX2_findRoomForShelf) := goodIn_app (goodIn_of _ (by decide +kernel)) ggX2_find_X2_findRoomForShelf
set_option maxRecDepth 20000 in
theorem ggX2_find_X2_findShelfToEmpty : GoodIn wsX2_find wsX2_findShelfToEmpty := goodIn_r _ [79, 3, 9, 1, 39, 40, 41, 14, 42, 43, 32, 33, 34, 17, 18, 19, 20, 21, 22, 35, 36, 37, 38, 44, 45, 46, 47, 48, 80, 81, 82, 83, 53, 54, 16, 84, 85, 86, 87, 88, 89, 90, 91, 92, 93, 94, 95, 96, 97, 98, 4, 5, 6, 7, 8, 10, 99, 100, 101, 102, 123, 124, 125, 126, 127, 128, 129, 130, 131, 132, 133, 134, 135, 136, 137, 138, 139, 140, 141, 142, 143, 144, 145, 146] (by decide +kernel) (by decide +kernel)
set_option maxRecDepth 20000 in
theorem gX2_find_X2_findShelfToEmpty : GoodIn wsX2_find (wsV RX2 44 RX2 yX2_findShelfToEmpty wsX2_findShelfToEmpty) := goodIn_app (goodIn_of _ (by decide +kernel)) ggX2_find_X2_findShelfToEmpty
set_option maxRecDepth 20000 in
theorem ggX2_find_X2_findRoomInStreet : GoodIn wsX2_find wsX2_findRoomInStreet := goodIn_r _ [106, 2, 1, 107, 108, 109, 14, 110, 53, 54, 17, 18, 19, 20, 21, 22, 111, 112, 113, 114, 16, 4, 5, 6, 7, 8, 3, 9, 10, 115, 116, 117, 118, 84, 85, 86, 87, 88, 89, 119, 120, 121, 122, 94, 123, 124, 125, 126, 127, 128, 129, 130, 131, 132, 133, 134, 135, 136, 137, 138, 139, 140, 141, 142, 143, 144, 145, 146] (by decide +kernel) (by decide +kernel)
set_option maxRecDepth 20000 in
theorem gX2_find_X2_findRoomInStreet : GoodIn wsX2_find (wsV RX2 47 RX2 yX2_findRoomInStreet wsX2_findRoomInStreet) := goodIn_app (goodIn_of _ (by decide +kernel)) ggX2_find_X2_findRoomInStreet
theorem dX2_find_0 : decode cX2_find 0 = .ok (.aload_n 0, 1) := by decide +kernel
theorem dX2_find_1 : decode cX2_find 1 = .ok (.iconst (-1), 1) := by decide +kernel
theorem dX2_find_2 : decode cX2_find 2 = .ok (.bipush (-2), 2) := by decide +kernel
theorem dX2_find_4 : decode cX2_find 4 = .ok (.iconst (-1), 1) := by decide +kernel
theorem dX2_find_5 : decode cX2_find 5 = .ok (.invokevirtual 27, 3) := by decide +kernel
theorem dX2_find_8 : decode cX2_find 8 = .ok (.aload_n 0, 1) := by decide +kernel
theorem dX2_find_9 : decode cX2_find 9 = .ok (.iconst 0, 1) := by decide +kernel
theorem dX2_find_10 : decode cX2_find 10 = .ok (.putfield 21, 3) := by decide +kernel
theorem dX2_find_13 : decode cX2_find 13 = .ok (.aload_n 0, 1) := by decide +kernel
theorem dX2_find_14 : decode cX2_find 14 = .ok (.iconst (-1), 1) := by decide +kernel
theorem dX2_find_15 : decode cX2_find 15 = .ok (.putfield 24, 3) := by decide +kernel
theorem dX2_find_18 : decode cX2_find 18 = .ok (.aload_n 1, 1) := by decide +kernel
theorem dX2_find_19 : decode cX2_find 19 = .ok (.iload_n 2, 1) := by decide +kernel
theorem dX2_find_20 : decode cX2_find 20 = .ok (.invokevirtual 31, 3) := by decide +kernel
theorem dX2_find_23 : decode cX2_find 23 = .ok (.ifCond .eq 9, 3) := by decide +kernel
theorem dX2_find_26 : decode cX2_find 26 = .ok (.aload_n 0, 1) := by decide +kernel
theorem dX2_find_27 : decode cX2_find 27 = .ok (.iconst 0, 1) := by decide +kernel
theorem dX2_find_28 : decode cX2_find 28 = .ok (.putfield 9, 3) := by decide +kernel
theorem dX2_find_31 : decode cX2_find 31 = .ok (.return_, 1) := by decide +kernel
theorem dX2_find_32 : decode cX2_find 32 = .ok (.aload_n 0, 1) := by decide +kernel
theorem dX2_find_33 : decode cX2_find 33 = .ok (.aload_n 1, 1) := by decide +kernel
theorem dX2_find_34 : decode cX2_find 34 = .ok (.iload_n 2, 1) := by decide +kernel
theorem dX2_find_35 : decode cX2_find 35 = .ok (.invokevirtual 37, 3) := by decide +kernel
theorem dX2_find_38 : decode cX2_find 38 = .ok (.aload_n 0, 1) := by decide +kernel
theorem dX2_find_39 : decode cX2_find 39 = .ok (.getfield 9, 3) := by decide +kernel
theorem dX2_find_42 : decode cX2_find 42 = .ok (.iconst (-1), 1) := by decide +kernel
theorem dX2_find_43 : decode cX2_find 43 = .ok (.if_icmp .ne 9, 3) := by decide +kernel
theorem dX2_find_46 : decode cX2_find 46 = .ok (.aload_n 0, 1) := by decide +kernel
theorem dX2_find_47 : decode cX2_find 47 = .ok (.aload_n 1, 1) := by decide +kernel
theorem dX2_find_48 : decode cX2_find 48 = .ok (.iload_n 2, 1) := by decide +kernel
theorem dX2_find_49 : decode cX2_find 49 = .ok (.invokevirtual 41, 3) := by decide +kernel
theorem dX2_find_52 : decode cX2_find 52 = .ok (.aload_n 0, 1) := by decide +kernel
theorem dX2_find_53 : decode cX2_find 53 = .ok (.getfield 9, 3) := by decide +kernel
theorem dX2_find_56 : decode cX2_find 56 = .ok (.iconst (-1), 1) := by decide +kernel
theorem dX2_find_57 : decode cX2_find 57 = .ok (.if_icmp .ne 9, 3) := by decide +kernel
theorem dX2_find_60 : decode cX2_find 60 = .ok (.aload_n 0, 1) := by decide +kernel
theorem dX2_find_61 : decode cX2_find 61 = .ok (.aload_n 1, 1) := by decide +kernel
theorem dX2_find_62 : decode cX2_find 62 = .ok (.iload_n 2, 1) := by decide +kernel
theorem dX2_find_63 : decode cX2_find 63 = .ok (.invokevirtual 44, 3) := by decide +kernel
theorem dX2_find_66 : decode cX2_find 66 = .ok (.aload_n 0, 1) := by decide +kernel
theorem dX2_find_67 : decode cX2_find 67 = .ok (.getfield 9, 3) := by decide +kernel
theorem dX2_find_70 : decode cX2_find 70 = .ok (.iconst (-1), 1) := by decide +kernel
theorem dX2_find_71 : decode cX2_find 71 = .ok (.if_icmp .ne 8, 3) := by decide +kernel
theorem dX2_find_74 : decode cX2_find 74 = .ok (.aload_n 0, 1) := by decide +kernel
theorem dX2_find_75 : decode cX2_find 75 = .ok (.aload_n 1, 1) := by decide +kernel
theorem dX2_find_76 : decode cX2_find 76 = .ok (.invokevirtual 47, 3) := by decide +kernel
theorem dX2_find_79 : decode cX2_find 79 = .ok (.return_, 1) := by decide +kernel
theorem dX2_choose_0 : decode cX2_choose 0 = .ok (.aload_n 0, 1) := by decide +kernel
theorem dX2_choose_1 : decode cX2_choose 1 = .ok (.iload_n 1, 1) := by decide +kernel
theorem dX2_choose_2 : decode cX2_choose 2 = .ok (.putfield 9, 3) := by decide +kernel
theorem dX2_choose_5 : decode cX2_choose 5 = .ok (.aload_n 0, 1) := by decide +kernel
theorem dX2_choose_6 : decode cX2_choose 6 = .ok (.iload_n 2, 1) := by decide +kernel
theorem dX2_choose_7 : decode cX2_choose 7 = .ok (.putfield 15, 3) := by decide +kernel
theorem dX2_choose_10 : decode cX2_choose 10 = .ok (.aload_n 0, 1) := by decide +kernel
theorem dX2_choose_11 : decode cX2_choose 11 = .ok (.iload_n 3, 1) := by decide +kernel
theorem dX2_choose_12 : decode cX2_choose 12 = .ok (.putfield 18, 3) := by decide +kernel
theorem dX2_choose_15 : decode cX2_choose 15 = .ok (.return_, 1) := by decide +kernel
set_option maxRecDepth 20000 in
theorem ggX2_findGap_X4_widthOf : GoodIn wsX2_findGap wsX4_widthOf := goodIn_r _ [5, 6, 7, 8, 9, 10, 11, 12, 13, 14, 15, 16, 17, 18, 19, 54, 55, 56, 57, 58, 59, 60, 61, 62, 63, 64, 65, 66, 67, 68, 69, 70, 71, 72] (by decide +kernel) (by decide +kernel)
set_option maxRecDepth 20000 in
theorem gX2_findGap_X4_widthOf : GoodIn wsX2_findGap (wsV RX2 51 RX4 yX4_widthOf wsX4_widthOf) := goodIn_app (goodIn_of _ (by decide +kernel)) ggX2_findGap_X4_widthOf
set_option maxRecDepth 20000 in
theorem ggX2_findGap_X4_heightOf : GoodIn wsX2_findGap wsX4_heightOf := goodIn_r _ [23, 24, 7, 8, 9, 10, 11, 12, 13, 14, 15, 16, 17, 18, 19, 54, 55, 56, 57, 58, 59, 60, 61, 62, 63, 64, 65, 66, 67, 68, 69, 70, 71, 72] (by decide +kernel) (by decide +kernel)
set_option maxRecDepth 20000 in
theorem gX2_findGap_X4_heightOf : GoodIn wsX2_findGap (wsV RX2 55 RX4 yX4_heightOf wsX4_heightOf) := goodIn_app (goodIn_of _ (by decide +kernel)) ggX2_findGap_X4_heightOf
set_option maxRecDepth 20000 in
theorem ggX2_findGap_X4_heightOfShelf : GoodIn wsX2_findGap wsX4_heightOfShelf := goodIn_r _ [28, 29, 10, 11, 12, 13, 14, 15, 54, 55, 56, 57, 58, 59, 60, 61, 62, 63, 64, 65, 66, 67, 68, 69, 70, 71, 72] (by decide +kernel) (by decide +kernel)
set_option maxRecDepth 20000 in
theorem gX2_findGap_X4_heightOfShelf : GoodIn wsX2_findGap (wsV RX2 58 RX4 yX4_heightOfShelf wsX4_heightOfShelf) := goodIn_app (goodIn_of _ (by decide +kernel)) ggX2_findGap_X4_heightOfShelf
set_option maxRecDepth 20000 in
theorem ggX2_findGap_X4_coverOf : GoodIn wsX2_findGap wsX4_coverOf := goodIn_r _ [33, 34, 35, 36, 37, 38, 10, 11, 12, 13, 14, 15, 54, 55, 56, 57, 58, 59, 60, 61, 62, 63, 64, 65, 66, 67, 68, 69, 70, 71, 72] (by decide +kernel) (by decide +kernel)
set_option maxRecDepth 20000 in
theorem gX2_findGap_X4_coverOf : GoodIn wsX2_findGap (wsV RX2 61 RX4 yX4_coverOf wsX4_coverOf) := goodIn_app (goodIn_of _ (by decide +kernel)) ggX2_findGap_X4_coverOf
set_option maxRecDepth 20000 in
theorem ggX2_findGap_X1_leftmost : GoodIn wsX2_findGap wsX1_leftmost := goodIn_r _ [42, 43, 44, 41, 45] (by decide +kernel) (by decide +kernel)
set_option maxRecDepth 20000 in
theorem gX2_findGap_X1_leftmost : GoodIn wsX2_findGap (va_wsS RX2 64 yX1_leftmost wsX1_leftmost) := goodIn_app (goodIn_of _ (by decide +kernel)) ggX2_findGap_X1_leftmost
set_option maxRecDepth 20000 in
theorem ggX2_findGap_X2_choose : GoodIn wsX2_findGap wsX2_choose := goodIn_r _ [50, 51, 52, 53, 73, 74, 75, 76, 77] (by decide +kernel) (by decide +kernel)
set_option maxRecDepth 20000 in
theorem gX2_findGap_X2_choose : GoodIn wsX2_findGap (wsV RX2 27 RX2 yX2_choose wsX2_choose) := goodIn_app (goodIn_of _ (by decide +kernel)) ggX2_findGap_X2_choose
theorem dX2_findGap_0 : decode cX2_findGap 0 = .ok (.aload_n 1, 1) := by decide +kernel
theorem dX2_findGap_1 : decode cX2_findGap 1 = .ok (.iload_n 2, 1) := by decide +kernel
theorem dX2_findGap_2 : decode cX2_findGap 2 = .ok (.invokevirtual 51, 3) := by decide +kernel
theorem dX2_findGap_5 : decode cX2_findGap 5 = .ok (.istore_n 3, 1) := by decide +kernel
theorem dX2_findGap_6 : decode cX2_findGap 6 = .ok (.aload_n 1, 1) := by decide +kernel
theorem dX2_findGap_7 : decode cX2_findGap 7 = .ok (.iload_n 2, 1) := by decide +kernel
theorem dX2_findGap_8 : decode cX2_findGap 8 = .ok (.invokevirtual 55, 3) := by decide +kernel
theorem dX2_findGap_11 : decode cX2_findGap 11 = .ok (.istore 4, 2) := by decide +kernel
theorem dX2_findGap_13 : decode cX2_findGap 13 = .ok (.bipush 24, 2) := by decide +kernel
theorem dX2_findGap_15 : decode cX2_findGap 15 = .ok (.istore 5, 2) := by decide +kernel
theorem dX2_findGap_17 : decode cX2_findGap 17 = .ok (.iconst 0, 1) := by decide +kernel
theorem dX2_findGap_18 : decode cX2_findGap 18 = .ok (.istore 6, 2) := by decide +kernel
theorem dX2_findGap_20 : decode cX2_findGap 20 = .ok (.iload 6, 2) := by decide +kernel
theorem dX2_findGap_22 : decode cX2_findGap 22 = .ok (.bipush 72, 2) := by decide +kernel
theorem dX2_findGap_24 : decode cX2_findGap 24 = .ok (.if_icmp .ge 63, 3) := by decide +kernel
theorem dX2_findGap_27 : decode cX2_findGap 27 = .ok (.aload_n 1, 1) := by decide +kernel
theorem dX2_findGap_28 : decode cX2_findGap 28 = .ok (.iload 6, 2) := by decide +kernel
theorem dX2_findGap_30 : decode cX2_findGap 30 = .ok (.invokevirtual 58, 3) := by decide +kernel
theorem dX2_findGap_33 : decode cX2_findGap 33 = .ok (.iload 4, 2) := by decide +kernel
theorem dX2_findGap_35 : decode cX2_findGap 35 = .ok (.isub, 1) := by decide +kernel
theorem dX2_findGap_36 : decode cX2_findGap 36 = .ok (.istore 7, 2) := by decide +kernel
theorem dX2_findGap_38 : decode cX2_findGap 38 = .ok (.iload 7, 2) := by decide +kernel
theorem dX2_findGap_40 : decode cX2_findGap 40 = .ok (.ifCond .lt 41, 3) := by decide +kernel
theorem dX2_findGap_43 : decode cX2_findGap 43 = .ok (.iload 7, 2) := by decide +kernel
theorem dX2_findGap_45 : decode cX2_findGap 45 = .ok (.iload 5, 2) := by decide +kernel
theorem dX2_findGap_47 : decode cX2_findGap 47 = .ok (.if_icmp .ge 34, 3) := by decide +kernel
theorem dX2_findGap_50 : decode cX2_findGap 50 = .ok (.aload_n 1, 1) := by decide +kernel
theorem dX2_findGap_51 : decode cX2_findGap 51 = .ok (.iload 6, 2) := by decide +kernel
theorem dX2_findGap_53 : decode cX2_findGap 53 = .ok (.invokevirtual 61, 3) := by decide +kernel
theorem dX2_findGap_56 : decode cX2_findGap 56 = .ok (.iload_n 3, 1) := by decide +kernel
theorem dX2_findGap_57 : decode cX2_findGap 57 = .ok (.invokestatic 64, 3) := by decide +kernel
theorem dX2_findGap_60 : decode cX2_findGap 60 = .ok (.istore 8, 2) := by decide +kernel
theorem dX2_findGap_62 : decode cX2_findGap 62 = .ok (.iload 8, 2) := by decide +kernel
theorem dX2_findGap_64 : decode cX2_findGap 64 = .ok (.iconst (-1), 1) := by decide +kernel
theorem dX2_findGap_65 : decode cX2_findGap 65 = .ok (.if_icmp .eq 16, 3) := by decide +kernel
theorem dX2_findGap_68 : decode cX2_findGap 68 = .ok (.aload_n 0, 1) := by decide +kernel
theorem dX2_findGap_69 : decode cX2_findGap 69 = .ok (.iconst 1, 1) := by decide +kernel
theorem dX2_findGap_70 : decode cX2_findGap 70 = .ok (.iload 6, 2) := by decide +kernel
theorem dX2_findGap_72 : decode cX2_findGap 72 = .ok (.iload 8, 2) := by decide +kernel
theorem dX2_findGap_74 : decode cX2_findGap 74 = .ok (.invokevirtual 27, 3) := by decide +kernel
theorem dX2_findGap_77 : decode cX2_findGap 77 = .ok (.iload 7, 2) := by decide +kernel
theorem dX2_findGap_79 : decode cX2_findGap 79 = .ok (.istore 5, 2) := by decide +kernel
theorem dX2_findGap_81 : decode cX2_findGap 81 = .ok (.iinc 6 1, 3) := by decide +kernel
theorem dX2_findGap_84 : decode cX2_findGap 84 = .ok (.goto (-64), 3) := by decide +kernel
theorem dX2_findGap_87 : decode cX2_findGap 87 = .ok (.return_, 1) := by decide +kernel
set_option maxRecDepth 20000 in
theorem ggX2_findRoomForShelf_X4_heightOf : GoodIn wsX2_findRoomForShelf wsX4_heightOf := goodIn_r _ [5, 6, 7, 8, 9, 10, 11, 12, 13, 14, 15, 16, 17, 18, 19, 37, 38, 39, 40, 41, 42, 43, 44, 45, 46, 47, 48, 49, 50, 51, 52, 53, 54, 55] (by decide +kernel) (by decide +kernel)
set_option maxRecDepth 20000 in
theorem gX2_findRoomForShelf_X4_heightOf : GoodIn wsX2_findRoomForShelf (wsV RX2 55 RX4 yX4_heightOf wsX4_heightOf) := goodIn_app (goodIn_of _ (by decide +kernel)) ggX2_findRoomForShelf_X4_heightOf
set_option maxRecDepth 20000 in
theorem ggX2_findRoomForShelf_X4_heightOfShelves : GoodIn wsX2_findRoomForShelf wsX4_heightOfShelves := goodIn_r _ [23, 24, 10, 11, 12, 13, 14, 15, 37, 38, 39, 40, 41, 42, 43, 44, 45, 46, 47, 48, 49, 50, 51, 52, 53, 54, 55] (by decide +kernel) (by decide +kernel)
set_option maxRecDepth 20000 in
theorem gX2_findRoomForShelf_X4_heightOfShelves : GoodIn wsX2_findRoomForShelf (wsV RX2 73 RX4 yX4_heightOfShelves wsX4_heightOfShelves) := goodIn_app (goodIn_of _ (by decide +kernel)) ggX2_findRoomForShelf_X4_heightOfShelves
set_option maxRecDepth 20000 in
theorem ggX2_findRoomForShelf_X4_countShelves : GoodIn wsX2_findRoomForShelf wsX4_countShelves := goodIn_r _ [28, 24, 10, 11, 12, 13, 14, 15, 37, 38, 39, 40, 41, 42, 43, 44, 45, 46, 47, 48, 49, 50, 51, 52, 53, 54, 55] (by decide +kernel) (by decide +kernel)
set_option maxRecDepth 20000 in
theorem gX2_findRoomForShelf_X4_countShelves : GoodIn wsX2_findRoomForShelf (wsV RX2 76 RX4 yX4_countShelves wsX4_countShelves) := goodIn_app (goodIn_of _ (by decide +kernel)) ggX2_findRoomForShelf_X4_countShelves
set_option maxRecDepth 20000 in
theorem ggX2_findRoomForShelf_X2_choose : GoodIn wsX2_findRoomForShelf wsX2_choose := goodIn_r _ [33, 34, 35, 36, 56, 57, 58, 59, 60] (by decide +kernel) (by decide +kernel)
set_option maxRecDepth 20000 in
theorem gX2_findRoomForShelf_X2_choose : GoodIn wsX2_findRoomForShelf (wsV RX2 27 RX2 yX2_choose wsX2_choose) := goodIn_app (goodIn_of _ (by decide +kernel)) ggX2_findRoomForShelf_X2_choose
theorem dX2_findRoomForShelf_0 : decode cX2_findRoomForShelf 0 = .ok (.aload_n 1, 1) := by decide +kernel
theorem dX2_findRoomForShelf_1 : decode cX2_findRoomForShelf 1 = .ok (.iload_n 2, 1) := by decide +kernel
theorem dX2_findRoomForShelf_2 : decode cX2_findRoomForShelf 2 = .ok (.invokevirtual 55, 3) := by decide +kernel
theorem dX2_findRoomForShelf_5 : decode cX2_findRoomForShelf 5 = .ok (.istore_n 3, 1) := by decide +kernel
theorem dX2_findRoomForShelf_6 : decode cX2_findRoomForShelf 6 = .ok (.iconst 0, 1) := by decide +kernel
theorem dX2_findRoomForShelf_7 : decode cX2_findRoomForShelf 7 = .ok (.istore 4, 2) := by decide +kernel
theorem dX2_findRoomForShelf_9 : decode cX2_findRoomForShelf 9 = .ok (.iload 4, 2) := by decide +kernel
theorem dX2_findRoomForShelf_11 : decode cX2_findRoomForShelf 11 = .ok (.aload_n 1, 1) := by decide +kernel
theorem dX2_findRoomForShelf_12 : decode cX2_findRoomForShelf 12 = .ok (.getfield 70, 3) := by decide +kernel
theorem dX2_findRoomForShelf_15 : decode cX2_findRoomForShelf 15 = .ok (.if_icmp .ge 41, 3) := by decide +kernel
theorem dX2_findRoomForShelf_18 : decode cX2_findRoomForShelf 18 = .ok (.aload_n 1, 1) := by decide +kernel
theorem dX2_findRoomForShelf_19 : decode cX2_findRoomForShelf 19 = .ok (.iload 4, 2) := by decide +kernel
theorem dX2_findRoomForShelf_21 : decode cX2_findRoomForShelf 21 = .ok (.invokevirtual 73, 3) := by decide +kernel
theorem dX2_findRoomForShelf_24 : decode cX2_findRoomForShelf 24 = .ok (.iload_n 3, 1) := by decide +kernel
theorem dX2_findRoomForShelf_25 : decode cX2_findRoomForShelf 25 = .ok (.iadd, 1) := by decide +kernel
theorem dX2_findRoomForShelf_26 : decode cX2_findRoomForShelf 26 = .ok (.bipush 24, 2) := by decide +kernel
theorem dX2_findRoomForShelf_28 : decode cX2_findRoomForShelf 28 = .ok (.if_icmp .gt 22, 3) := by decide +kernel
theorem dX2_findRoomForShelf_31 : decode cX2_findRoomForShelf 31 = .ok (.aload_n 0, 1) := by decide +kernel
theorem dX2_findRoomForShelf_32 : decode cX2_findRoomForShelf 32 = .ok (.iconst 2, 1) := by decide +kernel
theorem dX2_findRoomForShelf_33 : decode cX2_findRoomForShelf 33 = .ok (.iload 4, 2) := by decide +kernel
theorem dX2_findRoomForShelf_35 : decode cX2_findRoomForShelf 35 = .ok (.bipush 24, 2) := by decide +kernel
theorem dX2_findRoomForShelf_37 : decode cX2_findRoomForShelf 37 = .ok (.imul, 1) := by decide +kernel
theorem dX2_findRoomForShelf_38 : decode cX2_findRoomForShelf 38 = .ok (.aload_n 1, 1) := by decide +kernel
theorem dX2_findRoomForShelf_39 : decode cX2_findRoomForShelf 39 = .ok (.iload 4, 2) := by decide +kernel
theorem dX2_findRoomForShelf_41 : decode cX2_findRoomForShelf 41 = .ok (.invokevirtual 76, 3) := by decide +kernel
theorem dX2_findRoomForShelf_44 : decode cX2_findRoomForShelf 44 = .ok (.iadd, 1) := by decide +kernel
theorem dX2_findRoomForShelf_45 : decode cX2_findRoomForShelf 45 = .ok (.iconst 0, 1) := by decide +kernel
theorem dX2_findRoomForShelf_46 : decode cX2_findRoomForShelf 46 = .ok (.invokevirtual 27, 3) := by decide +kernel
theorem dX2_findRoomForShelf_49 : decode cX2_findRoomForShelf 49 = .ok (.return_, 1) := by decide +kernel
theorem dX2_findRoomForShelf_50 : decode cX2_findRoomForShelf 50 = .ok (.iinc 4 1, 3) := by decide +kernel
theorem dX2_findRoomForShelf_53 : decode cX2_findRoomForShelf 53 = .ok (.goto (-44), 3) := by decide +kernel
theorem dX2_findRoomForShelf_56 : decode cX2_findRoomForShelf 56 = .ok (.return_, 1) := by decide +kernel
set_option maxRecDepth 20000 in
theorem ggX2_findShelfToEmpty_X4_heightOf : GoodIn wsX2_findShelfToEmpty wsX4_heightOf := goodIn_r _ [8, 9, 10, 11, 12, 13, 14, 15, 16, 17, 18, 19, 20, 21, 22, 65, 66, 67, 68, 69, 70, 71, 72, 73, 74, 75, 76, 77, 78, 79, 80, 81, 82, 83] (by decide +kernel) (by decide +kernel)
set_option maxRecDepth 20000 in
theorem gX2_findShelfToEmpty_X4_heightOf : GoodIn wsX2_findShelfToEmpty (wsV RX2 55 RX4 yX4_heightOf wsX4_heightOf) := goodIn_app (goodIn_of _ (by decide +kernel)) ggX2_findShelfToEmpty_X4_heightOf
set_option maxRecDepth 20000 in
theorem ggX2_findShelfToEmpty_X4_heightOfShelf : GoodIn wsX2_findShelfToEmpty wsX4_heightOfShelf := goodIn_r _ [26, 27, 13, 14, 15, 16, 17, 18, 65, 66, 67, 68, 69, 70, 71, 72, 73, 74, 75, 76, 77, 78, 79, 80, 81, 82, 83] (by decide +kernel) (by decide +kernel)
set_option maxRecDepth 20000 in
theorem gX2_findShelfToEmpty_X4_heightOfShelf : GoodIn wsX2_findShelfToEmpty (wsV RX2 58 RX4 yX4_heightOfShelf wsX4_heightOfShelf) := goodIn_app (goodIn_of _ (by decide +kernel)) ggX2_findShelfToEmpty_X4_heightOfShelf
set_option maxRecDepth 20000 in
theorem ggX2_findShelfToEmpty_X4_hasLetterOfLine : GoodIn wsX2_findShelfToEmpty wsX4_hasLetterOfLine := goodIn_r _ [31, 32, 33, 34, 13, 14, 15, 16, 17, 18, 35, 36, 37, 7, 38, 39, 40, 65, 66, 67, 68, 69, 70, 71, 72, 73, 74, 75, 76, 77, 78, 79, 80, 81, 82, 83] (by decide +kernel) (by decide +kernel)
set_option maxRecDepth 20000 in
theorem gX2_findShelfToEmpty_X4_hasLetterOfLine : GoodIn wsX2_findShelfToEmpty (wsV RX2 79 RX4 yX4_hasLetterOfLine wsX4_hasLetterOfLine) := goodIn_app (goodIn_of _ (by decide +kernel)) ggX2_findShelfToEmpty_X4_hasLetterOfLine
set_option maxRecDepth 20000 in
theorem ggX2_findShelfToEmpty_X4_latestUseOnShelf : GoodIn wsX2_findShelfToEmpty wsX4_latestUseOnShelf := goodIn_r _ [44, 32, 33, 34, 45, 46, 47, 48, 49, 13, 14, 15, 16, 17, 18, 65, 66, 67, 68, 69, 70, 71, 72, 73, 74, 75, 76, 77, 78, 79, 80, 81, 82, 83] (by decide +kernel) (by decide +kernel)
set_option maxRecDepth 20000 in
theorem gX2_findShelfToEmpty_X4_latestUseOnShelf : GoodIn wsX2_findShelfToEmpty (wsV RX2 82 RX4 yX4_latestUseOnShelf wsX4_latestUseOnShelf) := goodIn_app (goodIn_of _ (by decide +kernel)) ggX2_findShelfToEmpty_X4_latestUseOnShelf
set_option maxRecDepth 20000 in
theorem ggX2_findShelfToEmpty_X2_choose : GoodIn wsX2_findShelfToEmpty wsX2_choose := goodIn_r _ [54, 1, 2, 55, 60, 61, 62, 63, 64] (by decide +kernel) (by decide +kernel)
set_option maxRecDepth 20000 in
theorem gX2_findShelfToEmpty_X2_choose : GoodIn wsX2_findShelfToEmpty (wsV RX2 27 RX2 yX2_choose wsX2_choose) := goodIn_app (goodIn_of _ (by decide +kernel)) ggX2_findShelfToEmpty_X2_choose
set_option maxRecDepth 20000 in
theorem ggX2_findShelfToEmpty_X4_countOnShelf : GoodIn wsX2_findShelfToEmpty wsX4_countOnShelf := goodIn_r _ [59, 32, 34, 33, 13, 14, 15, 16, 17, 18, 65, 66, 67, 68, 69, 70, 71, 72, 73, 74, 75, 76, 77, 78, 79, 80, 81, 82, 83] (by decide +kernel) (by decide +kernel)
set_option maxRecDepth 20000 in
theorem gX2_findShelfToEmpty_X4_countOnShelf : GoodIn wsX2_findShelfToEmpty (wsV RX2 85 RX4 yX4_countOnShelf wsX4_countOnShelf) := goodIn_app (goodIn_of _ (by decide +kernel)) ggX2_findShelfToEmpty_X4_countOnShelf
theorem dX2_findShelfToEmpty_0 : decode cX2_findShelfToEmpty 0 = .ok (.aload_n 1, 1) := by decide +kernel
theorem dX2_findShelfToEmpty_1 : decode cX2_findShelfToEmpty 1 = .ok (.iload_n 2, 1) := by decide +kernel
theorem dX2_findShelfToEmpty_2 : decode cX2_findShelfToEmpty 2 = .ok (.invokevirtual 55, 3) := by decide +kernel
theorem dX2_findShelfToEmpty_5 : decode cX2_findShelfToEmpty 5 = .ok (.istore_n 3, 1) := by decide +kernel
theorem dX2_findShelfToEmpty_6 : decode cX2_findShelfToEmpty 6 = .ok (.iconst (-1), 1) := by decide +kernel
theorem dX2_findShelfToEmpty_7 : decode cX2_findShelfToEmpty 7 = .ok (.istore 4, 2) := by decide +kernel
theorem dX2_findShelfToEmpty_9 : decode cX2_findShelfToEmpty 9 = .ok (.iconst 0, 1) := by decide +kernel
theorem dX2_findShelfToEmpty_10 : decode cX2_findShelfToEmpty 10 = .ok (.istore 5, 2) := by decide +kernel
theorem dX2_findShelfToEmpty_12 : decode cX2_findShelfToEmpty 12 = .ok (.iload 5, 2) := by decide +kernel
theorem dX2_findShelfToEmpty_14 : decode cX2_findShelfToEmpty 14 = .ok (.bipush 72, 2) := by decide +kernel
theorem dX2_findShelfToEmpty_16 : decode cX2_findShelfToEmpty 16 = .ok (.if_icmp .ge 63, 3) := by decide +kernel
theorem dX2_findShelfToEmpty_19 : decode cX2_findShelfToEmpty 19 = .ok (.aload_n 1, 1) := by decide +kernel
theorem dX2_findShelfToEmpty_20 : decode cX2_findShelfToEmpty 20 = .ok (.iload 5, 2) := by decide +kernel
theorem dX2_findShelfToEmpty_22 : decode cX2_findShelfToEmpty 22 = .ok (.invokevirtual 58, 3) := by decide +kernel
theorem dX2_findShelfToEmpty_25 : decode cX2_findShelfToEmpty 25 = .ok (.iload_n 3, 1) := by decide +kernel
theorem dX2_findShelfToEmpty_26 : decode cX2_findShelfToEmpty 26 = .ok (.if_icmp .lt 47, 3) := by decide +kernel
theorem dX2_findShelfToEmpty_29 : decode cX2_findShelfToEmpty 29 = .ok (.aload_n 1, 1) := by decide +kernel
theorem dX2_findShelfToEmpty_30 : decode cX2_findShelfToEmpty 30 = .ok (.iload 5, 2) := by decide +kernel
theorem dX2_findShelfToEmpty_32 : decode cX2_findShelfToEmpty 32 = .ok (.invokevirtual 79, 3) := by decide +kernel
theorem dX2_findShelfToEmpty_35 : decode cX2_findShelfToEmpty 35 = .ok (.ifCond .ne 38, 3) := by decide +kernel
theorem dX2_findShelfToEmpty_38 : decode cX2_findShelfToEmpty 38 = .ok (.aload_n 1, 1) := by decide +kernel
theorem dX2_findShelfToEmpty_39 : decode cX2_findShelfToEmpty 39 = .ok (.iload 5, 2) := by decide +kernel
theorem dX2_findShelfToEmpty_41 : decode cX2_findShelfToEmpty 41 = .ok (.invokevirtual 82, 3) := by decide +kernel
theorem dX2_findShelfToEmpty_44 : decode cX2_findShelfToEmpty 44 = .ok (.istore 6, 2) := by decide +kernel
theorem dX2_findShelfToEmpty_46 : decode cX2_findShelfToEmpty 46 = .ok (.aload_n 0, 1) := by decide +kernel
theorem dX2_findShelfToEmpty_47 : decode cX2_findShelfToEmpty 47 = .ok (.getfield 9, 3) := by decide +kernel
theorem dX2_findShelfToEmpty_50 : decode cX2_findShelfToEmpty 50 = .ok (.iconst (-1), 1) := by decide +kernel
theorem dX2_findShelfToEmpty_51 : decode cX2_findShelfToEmpty 51 = .ok (.if_icmp .eq 10, 3) := by decide +kernel
theorem dX2_findShelfToEmpty_54 : decode cX2_findShelfToEmpty 54 = .ok (.iload 6, 2) := by decide +kernel
theorem dX2_findShelfToEmpty_56 : decode cX2_findShelfToEmpty 56 = .ok (.iload 4, 2) := by decide +kernel
theorem dX2_findShelfToEmpty_58 : decode cX2_findShelfToEmpty 58 = .ok (.if_icmp .ge 15, 3) := by decide +kernel
theorem dX2_findShelfToEmpty_61 : decode cX2_findShelfToEmpty 61 = .ok (.aload_n 0, 1) := by decide +kernel
theorem dX2_findShelfToEmpty_62 : decode cX2_findShelfToEmpty 62 = .ok (.iconst 3, 1) := by decide +kernel
theorem dX2_findShelfToEmpty_63 : decode cX2_findShelfToEmpty 63 = .ok (.iload 5, 2) := by decide +kernel
theorem dX2_findShelfToEmpty_65 : decode cX2_findShelfToEmpty 65 = .ok (.iconst 0, 1) := by decide +kernel
theorem dX2_findShelfToEmpty_66 : decode cX2_findShelfToEmpty 66 = .ok (.invokevirtual 27, 3) := by decide +kernel
theorem dX2_findShelfToEmpty_69 : decode cX2_findShelfToEmpty 69 = .ok (.iload 6, 2) := by decide +kernel
theorem dX2_findShelfToEmpty_71 : decode cX2_findShelfToEmpty 71 = .ok (.istore 4, 2) := by decide +kernel
theorem dX2_findShelfToEmpty_73 : decode cX2_findShelfToEmpty 73 = .ok (.iinc 5 1, 3) := by decide +kernel
theorem dX2_findShelfToEmpty_76 : decode cX2_findShelfToEmpty 76 = .ok (.goto (-64), 3) := by decide +kernel
theorem dX2_findShelfToEmpty_79 : decode cX2_findShelfToEmpty 79 = .ok (.aload_n 0, 1) := by decide +kernel
theorem dX2_findShelfToEmpty_80 : decode cX2_findShelfToEmpty 80 = .ok (.getfield 9, 3) := by decide +kernel
theorem dX2_findShelfToEmpty_83 : decode cX2_findShelfToEmpty 83 = .ok (.iconst (-1), 1) := by decide +kernel
theorem dX2_findShelfToEmpty_84 : decode cX2_findShelfToEmpty 84 = .ok (.if_icmp .eq 15, 3) := by decide +kernel
theorem dX2_findShelfToEmpty_87 : decode cX2_findShelfToEmpty 87 = .ok (.aload_n 0, 1) := by decide +kernel
theorem dX2_findShelfToEmpty_88 : decode cX2_findShelfToEmpty 88 = .ok (.aload_n 1, 1) := by decide +kernel
theorem dX2_findShelfToEmpty_89 : decode cX2_findShelfToEmpty 89 = .ok (.aload_n 0, 1) := by decide +kernel
theorem dX2_findShelfToEmpty_90 : decode cX2_findShelfToEmpty 90 = .ok (.getfield 15, 3) := by decide +kernel
theorem dX2_findShelfToEmpty_93 : decode cX2_findShelfToEmpty 93 = .ok (.invokevirtual 85, 3) := by decide +kernel
theorem dX2_findShelfToEmpty_96 : decode cX2_findShelfToEmpty 96 = .ok (.putfield 21, 3) := by decide +kernel
theorem dX2_findShelfToEmpty_99 : decode cX2_findShelfToEmpty 99 = .ok (.return_, 1) := by decide +kernel
set_option maxRecDepth 20000 in
theorem ggX2_findRoomInStreet_X4_countInStreet : GoodIn wsX2_findRoomInStreet wsX4_countInStreet := goodIn_r _ [7, 8, 9, 10, 11, 12, 13, 14, 15, 16, 17, 18, 6, 19, 20, 49, 50, 51, 52, 53, 54, 55, 56, 57, 58, 59, 60, 61, 62, 63, 64, 65, 66, 67] (by decide +kernel) (by decide +kernel)
set_option maxRecDepth 20000 in
theorem gX2_findRoomInStreet_X4_countInStreet : GoodIn wsX2_findRoomInStreet (wsV RX2 88 RX4 yX4_countInStreet wsX4_countInStreet) := goodIn_app (goodIn_of _ (by decide +kernel)) ggX2_findRoomInStreet_X4_countInStreet
set_option maxRecDepth 20000 in
theorem ggX2_findRoomInStreet_X2_choose : GoodIn wsX2_findRoomInStreet wsX2_choose := goodIn_r _ [25, 26, 27, 28, 44, 45, 46, 47, 48] (by decide +kernel) (by decide +kernel)
set_option maxRecDepth 20000 in
theorem gX2_findRoomInStreet_X2_choose : GoodIn wsX2_findRoomInStreet (wsV RX2 27 RX2 yX2_choose wsX2_choose) := goodIn_app (goodIn_of _ (by decide +kernel)) ggX2_findRoomInStreet_X2_choose
set_option maxRecDepth 20000 in
theorem ggX2_findRoomInStreet_X4_oldestOfStreetThatMayGo : GoodIn wsX2_findRoomInStreet wsX4_oldestOfStreetThatMayGo := goodIn_r _ [32, 8, 9, 10, 11, 12, 13, 14, 15, 16, 17, 18, 6, 19, 20, 33, 34, 35, 36, 37, 38, 39, 40, 41, 42, 43, 49, 50, 51, 52, 53, 54, 55, 56, 57, 58, 59, 60, 61, 62, 63, 64, 65, 66, 67] (by decide +kernel) (by decide +kernel)
set_option maxRecDepth 20000 in
theorem gX2_findRoomInStreet_X4_oldestOfStreetThatMayGo : GoodIn wsX2_findRoomInStreet (wsV RX2 92 RX4 yX4_oldestOfStreetThatMayGo wsX4_oldestOfStreetThatMayGo) := goodIn_app (goodIn_of _ (by decide +kernel)) ggX2_findRoomInStreet_X4_oldestOfStreetThatMayGo
theorem dX2_findRoomInStreet_0 : decode cX2_findRoomInStreet 0 = .ok (.aload_n 1, 1) := by decide +kernel
theorem dX2_findRoomInStreet_1 : decode cX2_findRoomInStreet 1 = .ok (.invokevirtual 88, 3) := by decide +kernel
theorem dX2_findRoomInStreet_4 : decode cX2_findRoomInStreet 4 = .ok (.iconst 4, 1) := by decide +kernel
theorem dX2_findRoomInStreet_5 : decode cX2_findRoomInStreet 5 = .ok (.if_icmp .ge 11, 3) := by decide +kernel
theorem dX2_findRoomInStreet_8 : decode cX2_findRoomInStreet 8 = .ok (.aload_n 0, 1) := by decide +kernel
theorem dX2_findRoomInStreet_9 : decode cX2_findRoomInStreet 9 = .ok (.iconst 4, 1) := by decide +kernel
theorem dX2_findRoomInStreet_10 : decode cX2_findRoomInStreet 10 = .ok (.iconst (-1), 1) := by decide +kernel
theorem dX2_findRoomInStreet_11 : decode cX2_findRoomInStreet 11 = .ok (.iconst (-1), 1) := by decide +kernel
theorem dX2_findRoomInStreet_12 : decode cX2_findRoomInStreet 12 = .ok (.invokevirtual 27, 3) := by decide +kernel
theorem dX2_findRoomInStreet_15 : decode cX2_findRoomInStreet 15 = .ok (.return_, 1) := by decide +kernel
theorem dX2_findRoomInStreet_16 : decode cX2_findRoomInStreet 16 = .ok (.aload_n 0, 1) := by decide +kernel
theorem dX2_findRoomInStreet_17 : decode cX2_findRoomInStreet 17 = .ok (.aload_n 1, 1) := by decide +kernel
theorem dX2_findRoomInStreet_18 : decode cX2_findRoomInStreet 18 = .ok (.invokevirtual 92, 3) := by decide +kernel
theorem dX2_findRoomInStreet_21 : decode cX2_findRoomInStreet 21 = .ok (.putfield 24, 3) := by decide +kernel
theorem dX2_findRoomInStreet_24 : decode cX2_findRoomInStreet 24 = .ok (.aload_n 0, 1) := by decide +kernel
theorem dX2_findRoomInStreet_25 : decode cX2_findRoomInStreet 25 = .ok (.getfield 24, 3) := by decide +kernel
theorem dX2_findRoomInStreet_28 : decode cX2_findRoomInStreet 28 = .ok (.iconst (-1), 1) := by decide +kernel
theorem dX2_findRoomInStreet_29 : decode cX2_findRoomInStreet 29 = .ok (.if_icmp .eq 15, 3) := by decide +kernel
theorem dX2_findRoomInStreet_32 : decode cX2_findRoomInStreet 32 = .ok (.aload_n 0, 1) := by decide +kernel
theorem dX2_findRoomInStreet_33 : decode cX2_findRoomInStreet 33 = .ok (.iconst 4, 1) := by decide +kernel
theorem dX2_findRoomInStreet_34 : decode cX2_findRoomInStreet 34 = .ok (.iconst (-1), 1) := by decide +kernel
theorem dX2_findRoomInStreet_35 : decode cX2_findRoomInStreet 35 = .ok (.iconst (-1), 1) := by decide +kernel
theorem dX2_findRoomInStreet_36 : decode cX2_findRoomInStreet 36 = .ok (.invokevirtual 27, 3) := by decide +kernel
theorem dX2_findRoomInStreet_39 : decode cX2_findRoomInStreet 39 = .ok (.aload_n 0, 1) := by decide +kernel
theorem dX2_findRoomInStreet_40 : decode cX2_findRoomInStreet 40 = .ok (.iconst 1, 1) := by decide +kernel
theorem dX2_findRoomInStreet_41 : decode cX2_findRoomInStreet 41 = .ok (.putfield 21, 3) := by decide +kernel
theorem dX2_findRoomInStreet_44 : decode cX2_findRoomInStreet 44 = .ok (.return_, 1) := by decide +kernel
theorem dX3_init_0 : decode cX3_init 0 = .ok (.aload_n 0, 1) := by decide +kernel
theorem dX3_init_1 : decode cX3_init 1 = .ok (.invokespecial 1, 3) := by decide +kernel
theorem dX3_init_4 : decode cX3_init 4 = .ok (.aload_n 0, 1) := by decide +kernel
theorem dX3_init_5 : decode cX3_init 5 = .ok (.iload_n 1, 1) := by decide +kernel
theorem dX3_init_6 : decode cX3_init 6 = .ok (.ifCond .le 7, 3) := by decide +kernel
theorem dX3_init_9 : decode cX3_init 9 = .ok (.iload_n 1, 1) := by decide +kernel
theorem dX3_init_10 : decode cX3_init 10 = .ok (.goto 4, 3) := by decide +kernel
theorem dX3_init_13 : decode cX3_init 13 = .ok (.iconst 0, 1) := by decide +kernel
theorem dX3_init_14 : decode cX3_init 14 = .ok (.newarray .int, 2) := by decide +kernel
theorem dX3_init_16 : decode cX3_init 16 = .ok (.putfield 7, 3) := by decide +kernel
theorem dX3_init_19 : decode cX3_init 19 = .ok (.return_, 1) := by decide +kernel
theorem dX3_get_0 : decode cX3_get 0 = .ok (.iload_n 1, 1) := by decide +kernel
theorem dX3_get_1 : decode cX3_get 1 = .ok (.ifCond .lt 21, 3) := by decide +kernel
theorem dX3_get_4 : decode cX3_get 4 = .ok (.iload_n 1, 1) := by decide +kernel
theorem dX3_get_5 : decode cX3_get 5 = .ok (.aload_n 0, 1) := by decide +kernel
theorem dX3_get_6 : decode cX3_get 6 = .ok (.getfield 7, 3) := by decide +kernel
theorem dX3_get_9 : decode cX3_get 9 = .ok (.arraylength, 1) := by decide +kernel
theorem dX3_get_10 : decode cX3_get 10 = .ok (.if_icmp .ge 12, 3) := by decide +kernel
theorem dX3_get_13 : decode cX3_get 13 = .ok (.aload_n 0, 1) := by decide +kernel
theorem dX3_get_14 : decode cX3_get 14 = .ok (.getfield 7, 3) := by decide +kernel
theorem dX3_get_17 : decode cX3_get 17 = .ok (.iload_n 1, 1) := by decide +kernel
theorem dX3_get_18 : decode cX3_get 18 = .ok (.iaload, 1) := by decide +kernel
theorem dX3_get_19 : decode cX3_get 19 = .ok (.goto 4, 3) := by decide +kernel
theorem dX3_get_22 : decode cX3_get 22 = .ok (.iconst 0, 1) := by decide +kernel
theorem dX3_get_23 : decode cX3_get 23 = .ok (.ireturn, 1) := by decide +kernel
theorem dX3_put_0 : decode cX3_put 0 = .ok (.iload_n 1, 1) := by decide +kernel
theorem dX3_put_1 : decode cX3_put 1 = .ok (.ifCond .lt 19, 3) := by decide +kernel
theorem dX3_put_4 : decode cX3_put 4 = .ok (.iload_n 1, 1) := by decide +kernel
theorem dX3_put_5 : decode cX3_put 5 = .ok (.aload_n 0, 1) := by decide +kernel
theorem dX3_put_6 : decode cX3_put 6 = .ok (.getfield 7, 3) := by decide +kernel
theorem dX3_put_9 : decode cX3_put 9 = .ok (.arraylength, 1) := by decide +kernel
theorem dX3_put_10 : decode cX3_put 10 = .ok (.if_icmp .ge 10, 3) := by decide +kernel
theorem dX3_put_13 : decode cX3_put 13 = .ok (.aload_n 0, 1) := by decide +kernel
theorem dX3_put_14 : decode cX3_put 14 = .ok (.getfield 7, 3) := by decide +kernel
theorem dX3_put_17 : decode cX3_put 17 = .ok (.iload_n 1, 1) := by decide +kernel
theorem dX3_put_18 : decode cX3_put 18 = .ok (.iload_n 2, 1) := by decide +kernel
theorem dX3_put_19 : decode cX3_put 19 = .ok (.iastore, 1) := by decide +kernel
theorem dX3_put_20 : decode cX3_put 20 = .ok (.return_, 1) := by decide +kernel
theorem dX3_fill_0 : decode cX3_fill 0 = .ok (.iconst 0, 1) := by decide +kernel
theorem dX3_fill_1 : decode cX3_fill 1 = .ok (.istore_n 2, 1) := by decide +kernel
theorem dX3_fill_2 : decode cX3_fill 2 = .ok (.iload_n 2, 1) := by decide +kernel
theorem dX3_fill_3 : decode cX3_fill 3 = .ok (.aload_n 0, 1) := by decide +kernel
theorem dX3_fill_4 : decode cX3_fill 4 = .ok (.getfield 7, 3) := by decide +kernel
theorem dX3_fill_7 : decode cX3_fill 7 = .ok (.arraylength, 1) := by decide +kernel
theorem dX3_fill_8 : decode cX3_fill 8 = .ok (.if_icmp .ge 16, 3) := by decide +kernel
theorem dX3_fill_11 : decode cX3_fill 11 = .ok (.aload_n 0, 1) := by decide +kernel
theorem dX3_fill_12 : decode cX3_fill 12 = .ok (.getfield 7, 3) := by decide +kernel
theorem dX3_fill_15 : decode cX3_fill 15 = .ok (.iload_n 2, 1) := by decide +kernel
theorem dX3_fill_16 : decode cX3_fill 16 = .ok (.iload_n 1, 1) := by decide +kernel
theorem dX3_fill_17 : decode cX3_fill 17 = .ok (.iastore, 1) := by decide +kernel
theorem dX3_fill_18 : decode cX3_fill 18 = .ok (.iinc 2 1, 3) := by decide +kernel
theorem dX3_fill_21 : decode cX3_fill 21 = .ok (.goto (-19), 3) := by decide +kernel
theorem dX3_fill_24 : decode cX3_fill 24 = .ok (.return_, 1) := by decide +kernel
theorem dX3_copyFrom_0 : decode cX3_copyFrom 0 = .ok (.aload_n 1, 1) := by decide +kernel
theorem dX3_copyFrom_1 : decode cX3_copyFrom 1 = .ok (.getfield 7, 3) := by decide +kernel
theorem dX3_copyFrom_4 : decode cX3_copyFrom 4 = .ok (.iconst 0, 1) := by decide +kernel
theorem dX3_copyFrom_5 : decode cX3_copyFrom 5 = .ok (.aload_n 0, 1) := by decide +kernel
theorem dX3_copyFrom_6 : decode cX3_copyFrom 6 = .ok (.getfield 7, 3) := by decide +kernel
theorem dX3_copyFrom_9 : decode cX3_copyFrom 9 = .ok (.iconst 0, 1) := by decide +kernel
theorem dX3_copyFrom_10 : decode cX3_copyFrom 10 = .ok (.aload_n 0, 1) := by decide +kernel
theorem dX3_copyFrom_11 : decode cX3_copyFrom 11 = .ok (.getfield 7, 3) := by decide +kernel
theorem dX3_copyFrom_14 : decode cX3_copyFrom 14 = .ok (.arraylength, 1) := by decide +kernel
theorem dX3_copyFrom_15 : decode cX3_copyFrom 15 = .ok (.aload_n 1, 1) := by decide +kernel
theorem dX3_copyFrom_16 : decode cX3_copyFrom 16 = .ok (.getfield 7, 3) := by decide +kernel
theorem dX3_copyFrom_19 : decode cX3_copyFrom 19 = .ok (.arraylength, 1) := by decide +kernel
theorem dX3_copyFrom_20 : decode cX3_copyFrom 20 = .ok (.invokestatic 13, 3) := by decide +kernel
theorem dX3_copyFrom_23 : decode cX3_copyFrom 23 = .ok (.invokestatic 19, 3) := by decide +kernel
theorem dX3_copyFrom_26 : decode cX3_copyFrom 26 = .ok (.return_, 1) := by decide +kernel
set_option maxRecDepth 20000 in
theorem ggX4_init_X3_init : GoodIn wsX4_init wsX3_init := goodIn_r _ [27, 28, 2, 3, 29, 30, 35] (by decide +kernel) (by decide +kernel)
set_option maxRecDepth 20000 in
theorem gX4_init_X3_init : GoodIn wsX4_init (wsX3_init) := ggX4_init_X3_init
set_option maxRecDepth 20000 in
theorem ggX4_init_X3_fill : GoodIn wsX4_init wsX3_fill := goodIn_r _ [34, 30, 35] (by decide +kernel) (by decide +kernel)
set_option maxRecDepth 20000 in
theorem gX4_init_X3_fill : GoodIn wsX4_init (wsV RX4 72 RX3 yX3_fill wsX3_fill) := goodIn_app (goodIn_of _ (by decide +kernel)) ggX4_init_X3_fill
theorem dX4_init_0 : decode cX4_init 0 = .ok (.aload_n 0, 1) := by decide +kernel
theorem dX4_init_1 : decode cX4_init 1 = .ok (.invokespecial 3, 3) := by decide +kernel
theorem dX4_init_4 : decode cX4_init 4 = .ok (.aload_n 0, 1) := by decide +kernel
theorem dX4_init_5 : decode cX4_init 5 = .ok (.new 9, 3) := by decide +kernel
theorem dX4_init_8 : decode cX4_init 8 = .ok (.dup, 1) := by decide +kernel
theorem dX4_init_9 : decode cX4_init 9 = .ok (.bipush 16, 2) := by decide +kernel
theorem dX4_init_11 : decode cX4_init 11 = .ok (.invokespecial 11, 3) := by decide +kernel
theorem dX4_init_14 : decode cX4_init 14 = .ok (.putfield 14, 3) := by decide +kernel
theorem dX4_init_17 : decode cX4_init 17 = .ok (.aload_n 0, 1) := by decide +kernel
theorem dX4_init_18 : decode cX4_init 18 = .ok (.new 9, 3) := by decide +kernel
theorem dX4_init_21 : decode cX4_init 21 = .ok (.dup, 1) := by decide +kernel
theorem dX4_init_22 : decode cX4_init 22 = .ok (.bipush 16, 2) := by decide +kernel
theorem dX4_init_24 : decode cX4_init 24 = .ok (.invokespecial 11, 3) := by decide +kernel
theorem dX4_init_27 : decode cX4_init 27 = .ok (.putfield 20, 3) := by decide +kernel
theorem dX4_init_30 : decode cX4_init 30 = .ok (.aload_n 0, 1) := by decide +kernel
theorem dX4_init_31 : decode cX4_init 31 = .ok (.new 9, 3) := by decide +kernel
theorem dX4_init_34 : decode cX4_init 34 = .ok (.dup, 1) := by decide +kernel
theorem dX4_init_35 : decode cX4_init 35 = .ok (.bipush 72, 2) := by decide +kernel
theorem dX4_init_37 : decode cX4_init 37 = .ok (.invokespecial 11, 3) := by decide +kernel
theorem dX4_init_40 : decode cX4_init 40 = .ok (.putfield 23, 3) := by decide +kernel
theorem dX4_init_43 : decode cX4_init 43 = .ok (.aload_n 0, 1) := by decide +kernel
theorem dX4_init_44 : decode cX4_init 44 = .ok (.new 9, 3) := by decide +kernel
theorem dX4_init_47 : decode cX4_init 47 = .ok (.dup, 1) := by decide +kernel
theorem dX4_init_48 : decode cX4_init 48 = .ok (.sipush 144, 3) := by decide +kernel
theorem dX4_init_51 : decode cX4_init 51 = .ok (.invokespecial 11, 3) := by decide +kernel
theorem dX4_init_54 : decode cX4_init 54 = .ok (.putfield 26, 3) := by decide +kernel
theorem dX4_init_57 : decode cX4_init 57 = .ok (.aload_n 0, 1) := by decide +kernel
theorem dX4_init_58 : decode cX4_init 58 = .ok (.new 9, 3) := by decide +kernel
theorem dX4_init_61 : decode cX4_init 61 = .ok (.dup, 1) := by decide +kernel
theorem dX4_init_62 : decode cX4_init 62 = .ok (.sipush 144, 3) := by decide +kernel
theorem dX4_init_65 : decode cX4_init 65 = .ok (.invokespecial 11, 3) := by decide +kernel
theorem dX4_init_68 : decode cX4_init 68 = .ok (.putfield 29, 3) := by decide +kernel
theorem dX4_init_71 : decode cX4_init 71 = .ok (.aload_n 0, 1) := by decide +kernel
theorem dX4_init_72 : decode cX4_init 72 = .ok (.new 9, 3) := by decide +kernel
theorem dX4_init_75 : decode cX4_init 75 = .ok (.dup, 1) := by decide +kernel
theorem dX4_init_76 : decode cX4_init 76 = .ok (.sipush 144, 3) := by decide +kernel
theorem dX4_init_79 : decode cX4_init 79 = .ok (.invokespecial 11, 3) := by decide +kernel
theorem dX4_init_82 : decode cX4_init 82 = .ok (.putfield 32, 3) := by decide +kernel
theorem dX4_init_85 : decode cX4_init 85 = .ok (.aload_n 0, 1) := by decide +kernel
theorem dX4_init_86 : decode cX4_init 86 = .ok (.new 9, 3) := by decide +kernel
theorem dX4_init_89 : decode cX4_init 89 = .ok (.dup, 1) := by decide +kernel
theorem dX4_init_90 : decode cX4_init 90 = .ok (.sipush 144, 3) := by decide +kernel
theorem dX4_init_93 : decode cX4_init 93 = .ok (.invokespecial 11, 3) := by decide +kernel
theorem dX4_init_96 : decode cX4_init 96 = .ok (.putfield 35, 3) := by decide +kernel
theorem dX4_init_99 : decode cX4_init 99 = .ok (.aload_n 0, 1) := by decide +kernel
theorem dX4_init_100 : decode cX4_init 100 = .ok (.new 9, 3) := by decide +kernel
theorem dX4_init_103 : decode cX4_init 103 = .ok (.dup, 1) := by decide +kernel
theorem dX4_init_104 : decode cX4_init 104 = .ok (.sipush 144, 3) := by decide +kernel
theorem dX4_init_107 : decode cX4_init 107 = .ok (.invokespecial 11, 3) := by decide +kernel
theorem dX4_init_110 : decode cX4_init 110 = .ok (.putfield 38, 3) := by decide +kernel
theorem dX4_init_113 : decode cX4_init 113 = .ok (.aload_n 0, 1) := by decide +kernel
theorem dX4_init_114 : decode cX4_init 114 = .ok (.new 9, 3) := by decide +kernel
theorem dX4_init_117 : decode cX4_init 117 = .ok (.dup, 1) := by decide +kernel
theorem dX4_init_118 : decode cX4_init 118 = .ok (.sipush 144, 3) := by decide +kernel
theorem dX4_init_121 : decode cX4_init 121 = .ok (.invokespecial 11, 3) := by decide +kernel
theorem dX4_init_124 : decode cX4_init 124 = .ok (.putfield 41, 3) := by decide +kernel
theorem dX4_init_127 : decode cX4_init 127 = .ok (.aload_n 0, 1) := by decide +kernel
theorem dX4_init_128 : decode cX4_init 128 = .ok (.new 9, 3) := by decide +kernel
theorem dX4_init_131 : decode cX4_init 131 = .ok (.dup, 1) := by decide +kernel
theorem dX4_init_132 : decode cX4_init 132 = .ok (.sipush 144, 3) := by decide +kernel
theorem dX4_init_135 : decode cX4_init 135 = .ok (.invokespecial 11, 3) := by decide +kernel
theorem dX4_init_138 : decode cX4_init 138 = .ok (.putfield 44, 3) := by decide +kernel
theorem dX4_init_141 : decode cX4_init 141 = .ok (.aload_n 0, 1) := by decide +kernel
theorem dX4_init_142 : decode cX4_init 142 = .ok (.iconst 0, 1) := by decide +kernel
theorem dX4_init_143 : decode cX4_init 143 = .ok (.putfield 47, 3) := by decide +kernel
theorem dX4_init_146 : decode cX4_init 146 = .ok (.aload_n 0, 1) := by decide +kernel
theorem dX4_init_147 : decode cX4_init 147 = .ok (.iconst 1, 1) := by decide +kernel
theorem dX4_init_148 : decode cX4_init 148 = .ok (.putfield 51, 3) := by decide +kernel
theorem dX4_init_151 : decode cX4_init 151 = .ok (.aload_n 0, 1) := by decide +kernel
theorem dX4_init_152 : decode cX4_init 152 = .ok (.iconst 0, 1) := by decide +kernel
theorem dX4_init_153 : decode cX4_init 153 = .ok (.putfield 54, 3) := by decide +kernel
theorem dX4_init_156 : decode cX4_init 156 = .ok (.aload_n 0, 1) := by decide +kernel
theorem dX4_init_157 : decode cX4_init 157 = .ok (.iconst 0, 1) := by decide +kernel
theorem dX4_init_158 : decode cX4_init 158 = .ok (.putfield 57, 3) := by decide +kernel
theorem dX4_init_161 : decode cX4_init 161 = .ok (.aload_n 0, 1) := by decide +kernel
theorem dX4_init_162 : decode cX4_init 162 = .ok (.iconst 0, 1) := by decide +kernel
theorem dX4_init_163 : decode cX4_init 163 = .ok (.putfield 60, 3) := by decide +kernel
theorem dX4_init_166 : decode cX4_init 166 = .ok (.aload_n 0, 1) := by decide +kernel
theorem dX4_init_167 : decode cX4_init 167 = .ok (.iconst 0, 1) := by decide +kernel
theorem dX4_init_168 : decode cX4_init 168 = .ok (.putfield 63, 3) := by decide +kernel
theorem dX4_init_171 : decode cX4_init 171 = .ok (.aload_n 0, 1) := by decide +kernel
theorem dX4_init_172 : decode cX4_init 172 = .ok (.iconst 0, 1) := by decide +kernel
theorem dX4_init_173 : decode cX4_init 173 = .ok (.putfield 66, 3) := by decide +kernel
theorem dX4_init_176 : decode cX4_init 176 = .ok (.aload_n 0, 1) := by decide +kernel
theorem dX4_init_177 : decode cX4_init 177 = .ok (.iconst 0, 1) := by decide +kernel
theorem dX4_init_178 : decode cX4_init 178 = .ok (.putfield 69, 3) := by decide +kernel
theorem dX4_init_181 : decode cX4_init 181 = .ok (.aload_n 0, 1) := by decide +kernel
theorem dX4_init_182 : decode cX4_init 182 = .ok (.getfield 14, 3) := by decide +kernel
theorem dX4_init_185 : decode cX4_init 185 = .ok (.iconst 2, 1) := by decide +kernel
theorem dX4_init_186 : decode cX4_init 186 = .ok (.invokevirtual 72, 3) := by decide +kernel
theorem dX4_init_189 : decode cX4_init 189 = .ok (.aload_n 0, 1) := by decide +kernel
theorem dX4_init_190 : decode cX4_init 190 = .ok (.getfield 20, 3) := by decide +kernel
theorem dX4_init_193 : decode cX4_init 193 = .ok (.iconst 2, 1) := by decide +kernel
theorem dX4_init_194 : decode cX4_init 194 = .ok (.invokevirtual 72, 3) := by decide +kernel
theorem dX4_init_197 : decode cX4_init 197 = .ok (.aload_n 0, 1) := by decide +kernel
theorem dX4_init_198 : decode cX4_init 198 = .ok (.getfield 26, 3) := by decide +kernel
theorem dX4_init_201 : decode cX4_init 201 = .ok (.bipush (-2), 2) := by decide +kernel
theorem dX4_init_203 : decode cX4_init 203 = .ok (.invokevirtual 72, 3) := by decide +kernel
theorem dX4_init_206 : decode cX4_init 206 = .ok (.return_, 1) := by decide +kernel
set_option maxRecDepth 20000 in
theorem ggX4_copyFrom_X3_copyFrom : GoodIn wsX4_copyFrom wsX3_copyFrom := goodIn_r _ [23, 24, 25, 26, 27, 28, 29, 30, 31, 32, 51] (by decide +kernel) (by decide +kernel)
set_option maxRecDepth 20000 in
theorem gX4_copyFrom_X3_copyFrom : GoodIn wsX4_copyFrom (wsV RX4 75 RX3 yX3_copyFrom wsX3_copyFrom) := goodIn_app (goodIn_of _ (by decide +kernel)) ggX4_copyFrom_X3_copyFrom
