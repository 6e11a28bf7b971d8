set_option maxRecDepth 20000 in
theorem ggX6_init_X7_init : GoodIn wsX6_init wsX7_init := goodIn_r _ [26, 27, 2, 3, 28, 29, 30, 31, 32, 33, 56, 57, 58, 59, 60] rfl (by decide +kernel)
set_option maxRecDepth 20000 in
theorem gX6_init_X7_init_n11 : GoodIn wsX6_init (wsX7_init) := ggX6_init_X7_init
set_option maxRecDepth 20000 in
theorem ggX6_init_X0_init : GoodIn wsX6_init wsX0_init := goodIn_r _ [35, 36, 2, 3, 37, 38, 39, 40, 41, 42, 43, 44, 45, 70, 71, 72, 73, 74, 75, 76, 77] rfl (by decide +kernel)
set_option maxRecDepth 20000 in
theorem gX6_init_X0_init_n20 : GoodIn wsX6_init (wsX0_init) := ggX6_init_X0_init
set_option maxRecDepth 20000 in
theorem ggX6_init_X5_init : GoodIn wsX6_init wsX5_init := goodIn_r _ [47, 48, 2, 3, 49, 50, 78, 79] rfl (by decide +kernel)
set_option maxRecDepth 20000 in
theorem gX6_init_X5_init_n27 : GoodIn wsX6_init (wsX5_init) := ggX6_init_X5_init
set_option maxRecDepth 20000 in
theorem ggX6_init_X4_init : GoodIn wsX6_init wsX4_init := goodIn_r _ [52, 53, 2, 3, 54, 55, 80, 81] rfl (by decide +kernel)
set_option maxRecDepth 20000 in
theorem gX6_init_X4_init_n34 : GoodIn wsX6_init (wsX4_init) := ggX6_init_X4_init
theorem dX6_init_0 : decode cX6_init 0 = .ok (.aload_n 0, 1) := by decide +kernel
theorem dX6_init_1 : decode cX6_init 1 = .ok (.invokespecial 3, 3) := by decide +kernel
theorem dX6_init_4 : decode cX6_init 4 = .ok (.aload_n 0, 1) := by decide +kernel
theorem dX6_init_5 : decode cX6_init 5 = .ok (.new 9, 3) := by decide +kernel
theorem dX6_init_8 : decode cX6_init 8 = .ok (.dup, 1) := by decide +kernel
theorem dX6_init_9 : decode cX6_init 9 = .ok (.invokespecial 11, 3) := by decide +kernel
theorem dX6_init_12 : decode cX6_init 12 = .ok (.putfield 12, 3) := by decide +kernel
theorem dX6_init_15 : decode cX6_init 15 = .ok (.aload_n 0, 1) := by decide +kernel
theorem dX6_init_16 : decode cX6_init 16 = .ok (.new 18, 3) := by decide +kernel
theorem dX6_init_19 : decode cX6_init 19 = .ok (.dup, 1) := by decide +kernel
theorem dX6_init_20 : decode cX6_init 20 = .ok (.invokespecial 20, 3) := by decide +kernel
theorem dX6_init_23 : decode cX6_init 23 = .ok (.putfield 21, 3) := by decide +kernel
theorem dX6_init_26 : decode cX6_init 26 = .ok (.aload_n 0, 1) := by decide +kernel
theorem dX6_init_27 : decode cX6_init 27 = .ok (.new 25, 3) := by decide +kernel
theorem dX6_init_30 : decode cX6_init 30 = .ok (.dup, 1) := by decide +kernel
theorem dX6_init_31 : decode cX6_init 31 = .ok (.invokespecial 27, 3) := by decide +kernel
theorem dX6_init_34 : decode cX6_init 34 = .ok (.putfield 28, 3) := by decide +kernel
theorem dX6_init_37 : decode cX6_init 37 = .ok (.aload_n 0, 1) := by decide +kernel
theorem dX6_init_38 : decode cX6_init 38 = .ok (.new 32, 3) := by decide +kernel
theorem dX6_init_41 : decode cX6_init 41 = .ok (.dup, 1) := by decide +kernel
theorem dX6_init_42 : decode cX6_init 42 = .ok (.invokespecial 34, 3) := by decide +kernel
theorem dX6_init_45 : decode cX6_init 45 = .ok (.putfield 35, 3) := by decide +kernel
theorem dX6_init_48 : decode cX6_init 48 = .ok (.aload_n 0, 1) := by decide +kernel
theorem dX6_init_49 : decode cX6_init 49 = .ok (.iconst 0, 1) := by decide +kernel
theorem dX6_init_50 : decode cX6_init 50 = .ok (.putfield 39, 3) := by decide +kernel
theorem dX6_init_53 : decode cX6_init 53 = .ok (.aload_n 0, 1) := by decide +kernel
theorem dX6_init_54 : decode cX6_init 54 = .ok (.iconst (-1), 1) := by decide +kernel
theorem dX6_init_55 : decode cX6_init 55 = .ok (.putfield 43, 3) := by decide +kernel
theorem dX6_init_58 : decode cX6_init 58 = .ok (.aload_n 0, 1) := by decide +kernel
theorem dX6_init_59 : decode cX6_init 59 = .ok (.iconst 0, 1) := by decide +kernel
theorem dX6_init_60 : decode cX6_init 60 = .ok (.putfield 46, 3) := by decide +kernel
theorem dX6_init_63 : decode cX6_init 63 = .ok (.aload_n 0, 1) := by decide +kernel
theorem dX6_init_64 : decode cX6_init 64 = .ok (.iconst 0, 1) := by decide +kernel
theorem dX6_init_65 : decode cX6_init 65 = .ok (.putfield 49, 3) := by decide +kernel
theorem dX6_init_68 : decode cX6_init 68 = .ok (.aload_n 0, 1) := by decide +kernel
theorem dX6_init_69 : decode cX6_init 69 = .ok (.iconst 0, 1) := by decide +kernel
theorem dX6_init_70 : decode cX6_init 70 = .ok (.putfield 52, 3) := by decide +kernel
theorem dX6_init_73 : decode cX6_init 73 = .ok (.return_, 1) := by decide +kernel
set_option maxRecDepth 20000 in
theorem ggX6_begin_X7_begin : GoodIn wsX6_begin wsX7_begin := goodIn_r _ [9, 10, 11, 12, 13, 8, 14, 15, 16, 17, 18, 28, 29, 30, 31, 32] rfl (by decide +kernel)
set_option maxRecDepth 20000 in
theorem gX6_begin_X7_begin : GoodIn wsX6_begin (wsV RX6 55 RX7 yX7_begin wsX7_begin) := goodIn_app (goodIn_r _ [5, 6, 7, 8] rfl (by decide +kernel)) ggX6_begin_X7_begin
theorem dX6_begin_0 : decode cX6_begin 0 = .ok (.aload_n 0, 1) := by decide +kernel
theorem dX6_begin_1 : decode cX6_begin 1 = .ok (.iconst 0, 1) := by decide +kernel
theorem dX6_begin_2 : decode cX6_begin 2 = .ok (.putfield 39, 3) := by decide +kernel
theorem dX6_begin_5 : decode cX6_begin 5 = .ok (.aload_n 0, 1) := by decide +kernel
theorem dX6_begin_6 : decode cX6_begin 6 = .ok (.iconst (-1), 1) := by decide +kernel
theorem dX6_begin_7 : decode cX6_begin 7 = .ok (.putfield 43, 3) := by decide +kernel
theorem dX6_begin_10 : decode cX6_begin 10 = .ok (.aload_n 0, 1) := by decide +kernel
theorem dX6_begin_11 : decode cX6_begin 11 = .ok (.iconst 0, 1) := by decide +kernel
theorem dX6_begin_12 : decode cX6_begin 12 = .ok (.putfield 46, 3) := by decide +kernel
theorem dX6_begin_15 : decode cX6_begin 15 = .ok (.aload_n 0, 1) := by decide +kernel
theorem dX6_begin_16 : decode cX6_begin 16 = .ok (.getfield 12, 3) := by decide +kernel
theorem dX6_begin_19 : decode cX6_begin 19 = .ok (.invokevirtual 55, 3) := by decide +kernel
theorem dX6_begin_22 : decode cX6_begin 22 = .ok (.return_, 1) := by decide +kernel
theorem dX6_end_0 : decode cX6_end 0 = .ok (.aload_n 0, 1) := by decide +kernel
theorem dX6_end_1 : decode cX6_end 1 = .ok (.getfield 12, 3) := by decide +kernel
theorem dX6_end_4 : decode cX6_end 4 = .ok (.iconst 0, 1) := by decide +kernel
theorem dX6_end_5 : decode cX6_end 5 = .ok (.putfield 58, 3) := by decide +kernel
theorem dX6_end_8 : decode cX6_end 8 = .ok (.return_, 1) := by decide +kernel
theorem dX6_isFailed_0 : decode cX6_isFailed 0 = .ok (.aload_n 0, 1) := by decide +kernel
theorem dX6_isFailed_1 : decode cX6_isFailed 1 = .ok (.getfield 39, 3) := by decide +kernel
theorem dX6_isFailed_4 : decode cX6_isFailed 4 = .ok (.ifCond .eq 7, 3) := by decide +kernel
theorem dX6_isFailed_7 : decode cX6_isFailed 7 = .ok (.iconst 1, 1) := by decide +kernel
theorem dX6_isFailed_8 : decode cX6_isFailed 8 = .ok (.goto 4, 3) := by decide +kernel
theorem dX6_isFailed_11 : decode cX6_isFailed 11 = .ok (.iconst 0, 1) := by decide +kernel
theorem dX6_isFailed_12 : decode cX6_isFailed 12 = .ok (.ireturn, 1) := by decide +kernel
theorem dX6_fail_0 : decode cX6_fail 0 = .ok (.aload_n 0, 1) := by decide +kernel
theorem dX6_fail_1 : decode cX6_fail 1 = .ok (.getfield 39, 3) := by decide +kernel
theorem dX6_fail_4 : decode cX6_fail 4 = .ok (.ifCond .ne 13, 3) := by decide +kernel
theorem dX6_fail_7 : decode cX6_fail 7 = .ok (.aload_n 0, 1) := by decide +kernel
theorem dX6_fail_8 : decode cX6_fail 8 = .ok (.iload_n 1, 1) := by decide +kernel
theorem dX6_fail_9 : decode cX6_fail 9 = .ok (.putfield 39, 3) := by decide +kernel
theorem dX6_fail_12 : decode cX6_fail 12 = .ok (.aload_n 0, 1) := by decide +kernel
theorem dX6_fail_13 : decode cX6_fail 13 = .ok (.iload_n 2, 1) := by decide +kernel
theorem dX6_fail_14 : decode cX6_fail 14 = .ok (.putfield 43, 3) := by decide +kernel
theorem dX6_fail_17 : decode cX6_fail 17 = .ok (.return_, 1) := by decide +kernel
set_option maxRecDepth 20000 in
theorem ggX6_readHeader_X7_isWord : GoodIn wsX6_readHeader wsX7_isWord := goodIn_r _ [8, 9, 10, 11, 12, 13, 14, 15, 16, 17, 18, 19, 20, 21, 22, 23, 24, 25, 26, 27, 28, 29, 30, 31, 32, 33, 34, 35, 36, 37, 38, 39, 40, 41, 42, 43, 44, 45, 46, 47, 48, 49, 50, 51, 52, 53, 54, 55, 56, 57, 58, 59, 60, 61, 62, 107, 108, 109, 110, 111] rfl (by decide +kernel)
set_option maxRecDepth 20000 in
theorem gX6_readHeader_X7_isWord : GoodIn wsX6_readHeader (wsV RX6 63 RX7 yX7_isWord wsX7_isWord) := goodIn_app (goodIn_r _ [4, 5, 6, 7] rfl (by decide +kernel)) ggX6_readHeader_X7_isWord
set_option maxRecDepth 20000 in
theorem ggX6_readHeader_X6_fail : GoodIn wsX6_readHeader wsX6_fail := goodIn_r _ [67, 68, 69, 98, 99, 100, 101, 102, 103, 104, 105, 106] rfl (by decide +kernel)
set_option maxRecDepth 20000 in
theorem gX6_readHeader_X6_fail : GoodIn wsX6_readHeader (wsV RX6 70 RX6 yX6_fail wsX6_fail) := goodIn_app (goodIn_r _ [63, 64, 65, 66] rfl (by decide +kernel)) ggX6_readHeader_X6_fail
set_option maxRecDepth 20000 in
theorem ggX6_readHeader_X7_advance : GoodIn wsX6_readHeader wsX7_advance := goodIn_r _ [73, 10, 11, 12, 13, 9, 107, 108, 109, 110, 111] rfl (by decide +kernel)
set_option maxRecDepth 20000 in
theorem gX6_readHeader_X7_advance : GoodIn wsX6_readHeader (wsV RX6 74 RX7 yX7_advance wsX7_advance) := goodIn_app (goodIn_r _ [70, 71, 72, 7] rfl (by decide +kernel)) ggX6_readHeader_X7_advance
set_option maxRecDepth 20000 in
theorem ggX6_readHeader_X6_readNumber : GoodIn wsX6_readHeader wsX6_readNumber := goodIn_r _ [77, 1, 78, 2, 79, 80, 81, 66, 82, 68, 63, 64, 65, 67, 69, 83, 84, 85, 7, 86, 10, 11, 12, 13, 70, 71, 72, 73, 9, 98, 99, 100, 101, 102, 103, 104, 105, 106, 107, 108, 109, 110, 111] rfl (by decide +kernel)
set_option maxRecDepth 20000 in
theorem gX6_readHeader_X6_readNumber : GoodIn wsX6_readHeader (wsV RX6 77 RX6 yX6_readNumber wsX6_readNumber) := goodIn_app (goodIn_r _ [74, 75, 76, 66] rfl (by decide +kernel)) ggX6_readHeader_X6_readNumber
set_option maxRecDepth 20000 in
theorem ggX6_readHeader_X6_readSemicolon : GoodIn wsX6_readHeader wsX6_readSemicolon := goodIn_r _ [90, 1, 78, 2, 79, 80, 81, 66, 82, 68, 63, 64, 65, 67, 69, 70, 71, 72, 7, 73, 10, 11, 12, 13, 9, 98, 99, 100, 101, 102, 103, 104, 105, 106, 107, 108, 109, 110, 111] rfl (by decide +kernel)
set_option maxRecDepth 20000 in
theorem gX6_readHeader_X6_readSemicolon : GoodIn wsX6_readHeader (wsV RX6 81 RX6 yX6_readSemicolon wsX6_readSemicolon) := goodIn_app (goodIn_r _ [87, 88, 89, 66] rfl (by decide +kernel)) ggX6_readHeader_X6_readSemicolon
set_option maxRecDepth 20000 in
theorem ggX6_readHeader_X6_isFailed : GoodIn wsX6_readHeader wsX6_isFailed := goodIn_r _ [82, 68, 98, 99, 100, 101, 102, 103, 104, 105, 106] rfl (by decide +kernel)
set_option maxRecDepth 20000 in
theorem gX6_readHeader_X6_isFailed : GoodIn wsX6_readHeader (wsV RX6 84 RX6 yX6_isFailed wsX6_isFailed) := goodIn_app (goodIn_r _ [79, 80, 81, 66] rfl (by decide +kernel)) ggX6_readHeader_X6_isFailed
set_option maxRecDepth 20000 in
theorem ggX6_readHeader_X0_begin : GoodIn wsX6_readHeader wsX0_begin := goodIn_r _ [95, 96, 97, 112, 113, 114, 115, 116, 117, 118, 119] rfl (by decide +kernel)
set_option maxRecDepth 20000 in
theorem gX6_readHeader_X0_begin : GoodIn wsX6_readHeader (wsV RX6 88 RX0 yX0_begin wsX0_begin) := goodIn_app (goodIn_r _ [91, 92, 93, 94] rfl (by decide +kernel)) ggX6_readHeader_X0_begin
theorem dX6_readHeader_0 : decode cX6_readHeader 0 = .ok (.aload_n 0, 1) := by decide +kernel
theorem dX6_readHeader_1 : decode cX6_readHeader 1 = .ok (.getfield 12, 3) := by decide +kernel
theorem dX6_readHeader_4 : decode cX6_readHeader 4 = .ok (.ldc 61, 2) := by decide +kernel
theorem dX6_readHeader_6 : decode cX6_readHeader 6 = .ok (.invokevirtual 63, 3) := by decide +kernel
theorem dX6_readHeader_9 : decode cX6_readHeader 9 = .ok (.ifCond .ne 16, 3) := by decide +kernel
theorem dX6_readHeader_12 : decode cX6_readHeader 12 = .ok (.aload_n 0, 1) := by decide +kernel
theorem dX6_readHeader_13 : decode cX6_readHeader 13 = .ok (.iconst 1, 1) := by decide +kernel
theorem dX6_readHeader_14 : decode cX6_readHeader 14 = .ok (.aload_n 0, 1) := by decide +kernel
theorem dX6_readHeader_15 : decode cX6_readHeader 15 = .ok (.getfield 12, 3) := by decide +kernel
theorem dX6_readHeader_18 : decode cX6_readHeader 18 = .ok (.getfield 67, 3) := by decide +kernel
theorem dX6_readHeader_21 : decode cX6_readHeader 21 = .ok (.invokevirtual 70, 3) := by decide +kernel
theorem dX6_readHeader_24 : decode cX6_readHeader 24 = .ok (.return_, 1) := by decide +kernel
theorem dX6_readHeader_25 : decode cX6_readHeader 25 = .ok (.aload_n 0, 1) := by decide +kernel
theorem dX6_readHeader_26 : decode cX6_readHeader 26 = .ok (.getfield 12, 3) := by decide +kernel
theorem dX6_readHeader_29 : decode cX6_readHeader 29 = .ok (.invokevirtual 74, 3) := by decide +kernel
theorem dX6_readHeader_32 : decode cX6_readHeader 32 = .ok (.aload_n 0, 1) := by decide +kernel
theorem dX6_readHeader_33 : decode cX6_readHeader 33 = .ok (.iconst 1, 1) := by decide +kernel
theorem dX6_readHeader_34 : decode cX6_readHeader 34 = .ok (.bipush 12, 2) := by decide +kernel
theorem dX6_readHeader_36 : decode cX6_readHeader 36 = .ok (.invokevirtual 77, 3) := by decide +kernel
theorem dX6_readHeader_39 : decode cX6_readHeader 39 = .ok (.istore_n 1, 1) := by decide +kernel
theorem dX6_readHeader_40 : decode cX6_readHeader 40 = .ok (.aload_n 0, 1) := by decide +kernel
theorem dX6_readHeader_41 : decode cX6_readHeader 41 = .ok (.invokevirtual 81, 3) := by decide +kernel
theorem dX6_readHeader_44 : decode cX6_readHeader 44 = .ok (.aload_n 0, 1) := by decide +kernel
theorem dX6_readHeader_45 : decode cX6_readHeader 45 = .ok (.invokevirtual 84, 3) := by decide +kernel
theorem dX6_readHeader_48 : decode cX6_readHeader 48 = .ok (.ifCond .ne 11, 3) := by decide +kernel
theorem dX6_readHeader_51 : decode cX6_readHeader 51 = .ok (.aload_n 0, 1) := by decide +kernel
theorem dX6_readHeader_52 : decode cX6_readHeader 52 = .ok (.getfield 21, 3) := by decide +kernel
theorem dX6_readHeader_55 : decode cX6_readHeader 55 = .ok (.iload_n 1, 1) := by decide +kernel
theorem dX6_readHeader_56 : decode cX6_readHeader 56 = .ok (.invokevirtual 88, 3) := by decide +kernel
theorem dX6_readHeader_59 : decode cX6_readHeader 59 = .ok (.return_, 1) := by decide +kernel
set_option maxRecDepth 20000 in
theorem ggX6_readCommands_X6_isFailed : GoodIn wsX6_readCommands wsX6_isFailed := goodIn_r _ [9, 10, 327, 328, 329, 330, 331, 332, 333, 334, 335] rfl (by decide +kernel)
set_option maxRecDepth 20000 in
theorem gX6_readCommands_X6_isFailed : GoodIn wsX6_readCommands (wsV RX6 84 RX6 yX6_isFailed wsX6_isFailed) := goodIn_app (goodIn_r _ [5, 6, 7, 8] rfl (by decide +kernel)) ggX6_readCommands_X6_isFailed
set_option maxRecDepth 20000 in
theorem ggX6_readCommands_X7_isWord : GoodIn wsX6_readCommands wsX7_isWord := goodIn_r _ [15, 16, 17, 18, 19, 20, 21, 22, 23, 24, 25, 26, 27, 28, 29, 30, 31, 32, 33, 34, 35, 36, 37, 38, 39, 40, 41, 42, 43, 44, 45, 46, 47, 48, 49, 50, 51, 52, 53, 54, 55, 56, 57, 58, 59, 60, 61, 62, 63, 64, 65, 66, 67, 68, 69, 336, 337, 338, 339, 340] rfl (by decide +kernel)
set_option maxRecDepth 20000 in
theorem gX6_readCommands_X7_isWord : GoodIn wsX6_readCommands (wsV RX6 63 RX7 yX7_isWord wsX7_isWord) := goodIn_app (goodIn_r _ [11, 12, 13, 14] rfl (by decide +kernel)) ggX6_readCommands_X7_isWord
set_option maxRecDepth 20000 in
theorem ggX6_readCommands_X6_readClause : GoodIn wsX6_readCommands wsX6_readClause := goodIn_r _ [73, 1, 3, 74, 75, 76, 77, 78, 79, 80, 81, 82, 83, 84, 85, 8, 86, 10, 87, 88, 89, 90, 14, 91, 17, 18, 19, 20, 16, 92, 93, 94, 95, 2, 5, 6, 7, 9, 96, 97, 98, 99, 100, 101, 102, 103, 104, 105, 106, 107, 108, 109, 110, 111, 112, 113, 114, 115, 116, 117, 118, 119, 120, 121, 122, 123, 327, 328, 329, 330, 331, 332, 333, 334, 335, 336, 337, 338, 339, 340, 341, 342, 343, 344, 345, 346, 347, 348] rfl (by decide +kernel)
set_option maxRecDepth 20000 in
theorem gX6_readCommands_X6_readClause : GoodIn wsX6_readCommands (wsV RX6 96 RX6 yX6_readClause wsX6_readClause) := goodIn_app (goodIn_r _ [70, 71, 72, 8] rfl (by decide +kernel)) ggX6_readCommands_X6_readClause
set_option maxRecDepth 20000 in
theorem ggX6_readCommands_X6_readResolve : GoodIn wsX6_readCommands wsX6_readResolve := goodIn_r _ [127, 1, 3, 74, 88, 89, 90, 14, 91, 17, 18, 19, 20, 16, 128, 129, 130, 8, 131, 132, 133, 134, 135, 136, 2, 5, 6, 7, 9, 10, 83, 84, 85, 86, 87, 137, 138, 139, 140, 141, 142, 143, 80, 144, 145, 146, 147, 148, 113, 114, 149, 150, 151, 152, 153, 154, 155, 156, 157, 158, 159, 160, 161, 162, 163, 164, 165, 166, 167, 123, 78, 79, 81, 82, 168, 110, 111, 112, 169, 170, 171, 172, 122, 173, 174, 175, 176, 119, 120, 121, 177, 116, 117, 118, 178, 179, 180, 181, 327, 328, 329, 330, 331, 332, 333, 334, 335, 336, 337, 338, 339, 340, 341, 342, 343, 344, 345, 346, 347, 348] rfl (by decide +kernel)
set_option maxRecDepth 20000 in
theorem gX6_readCommands_X6_readResolve : GoodIn wsX6_readCommands (wsV RX6 101 RX6 yX6_readResolve wsX6_readResolve) := goodIn_app (goodIn_r _ [124, 125, 126, 8] rfl (by decide +kernel)) ggX6_readCommands_X6_readResolve
set_option maxRecDepth 20000 in
theorem ggX6_readCommands_X6_readSaturate : GoodIn wsX6_readCommands wsX6_readSaturate := goodIn_r _ [185, 1, 186, 74, 88, 89, 90, 14, 91, 17, 18, 19, 20, 16, 133, 134, 135, 8, 136, 2, 3, 5, 6, 7, 9, 10, 83, 84, 85, 86, 87, 137, 138, 139, 140, 187, 188, 189, 190, 191, 192, 193, 194, 195, 196, 197, 198, 199, 200, 201, 202, 203, 78, 79, 80, 81, 82, 204, 110, 111, 112, 113, 114, 205, 142, 143, 144, 145, 146, 147, 148, 149, 150, 151, 152, 153, 154, 155, 206, 161, 162, 163, 207, 165, 166, 167, 208, 209, 210, 211, 212, 213, 214, 215, 216, 170, 171, 172, 122, 173, 174, 175, 176, 119, 120, 121, 160, 164, 177, 116, 117, 118, 123, 178, 179, 180, 181, 327, 328, 329, 330, 331, 332, 333, 334, 335, 336, 337, 338, 339, 340, 349, 350, 341, 342, 343, 344, 345, 346, 347, 348] rfl (by decide +kernel)
set_option maxRecDepth 20000 in
theorem gX6_readCommands_X6_readSaturate : GoodIn wsX6_readCommands (wsV RX6 106 RX6 yX6_readSaturate wsX6_readSaturate) := goodIn_app (goodIn_r _ [182, 183, 184, 8] rfl (by decide +kernel)) ggX6_readCommands_X6_readSaturate
set_option maxRecDepth 20000 in
theorem ggX6_readCommands_X6_readDrop : GoodIn wsX6_readCommands wsX6_readDrop := goodIn_r _ [220, 1, 3, 74, 88, 89, 90, 14, 91, 17, 18, 19, 20, 16, 128, 129, 130, 8, 131, 132, 133, 134, 135, 136, 2, 5, 6, 7, 9, 10, 83, 84, 85, 86, 87, 137, 138, 139, 140, 221, 222, 223, 80, 224, 82, 119, 120, 225, 226, 227, 228, 113, 114, 121, 122, 327, 328, 329, 330, 331, 332, 333, 334, 335, 336, 337, 338, 339, 340, 341, 342, 343, 344, 345, 346, 347, 348] rfl (by decide +kernel)
set_option maxRecDepth 20000 in
theorem gX6_readCommands_X6_readDrop : GoodIn wsX6_readCommands (wsV RX6 111 RX6 yX6_readDrop wsX6_readDrop) := goodIn_app (goodIn_r _ [217, 218, 219, 8] rfl (by decide +kernel)) ggX6_readCommands_X6_readDrop
set_option maxRecDepth 20000 in
theorem ggX6_readCommands_X6_readNegate : GoodIn wsX6_readCommands wsX6_readNegate := goodIn_r _ [232, 1, 74, 88, 89, 90, 14, 91, 17, 18, 19, 20, 16, 100, 101, 102, 8, 103, 3, 104, 105, 106, 107, 108, 83, 84, 85, 86, 10, 87, 233, 234, 235, 80, 236, 82, 113, 114, 121, 119, 120, 327, 328, 329, 330, 331, 332, 333, 334, 335, 336, 337, 338, 339, 340, 341, 342, 343, 344, 345, 346, 347, 348] rfl (by decide +kernel)
set_option maxRecDepth 20000 in
theorem gX6_readCommands_X6_readNegate : GoodIn wsX6_readCommands (wsV RX6 116 RX6 yX6_readNegate wsX6_readNegate) := goodIn_app (goodIn_r _ [229, 230, 231, 8] rfl (by decide +kernel)) ggX6_readCommands_X6_readNegate
set_option maxRecDepth 20000 in
theorem ggX6_readCommands_X6_readInvert : GoodIn wsX6_readCommands wsX6_readInvert := goodIn_r _ [240, 1, 74, 104, 88, 89, 90, 14, 91, 17, 18, 19, 20, 16, 233, 234, 235, 80, 236, 82, 113, 114, 121, 119, 120, 327, 328, 329, 330, 331, 332, 333, 334, 335, 341, 342, 343, 344, 345, 346, 347, 348, 336, 337, 338, 339, 340] rfl (by decide +kernel)
set_option maxRecDepth 20000 in
theorem gX6_readCommands_X6_readInvert : GoodIn wsX6_readCommands (wsV RX6 121 RX6 yX6_readInvert wsX6_readInvert) := goodIn_app (goodIn_r _ [237, 238, 239, 8] rfl (by decide +kernel)) ggX6_readCommands_X6_readInvert
set_option maxRecDepth 20000 in
theorem ggX6_readCommands_X6_readReduce : GoodIn wsX6_readCommands wsX6_readReduce := goodIn_r _ [244, 1, 74, 88, 89, 90, 14, 91, 17, 18, 19, 20, 16, 245, 246, 247, 80, 248, 249, 250, 251, 252, 82, 253, 222, 223, 224, 119, 120, 254, 255, 256, 257, 113, 114, 212, 213, 214, 215, 258, 226, 227, 228, 121, 122, 327, 328, 329, 330, 331, 332, 333, 334, 335, 336, 337, 338, 339, 340, 341, 342, 343, 344, 345, 346, 347, 348] rfl (by decide +kernel)
set_option maxRecDepth 20000 in
theorem gX6_readCommands_X6_readReduce : GoodIn wsX6_readCommands (wsV RX6 126 RX6 yX6_readReduce wsX6_readReduce) := goodIn_app (goodIn_r _ [241, 242, 243, 8] rfl (by decide +kernel)) ggX6_readCommands_X6_readReduce
set_option maxRecDepth 20000 in
theorem ggX6_readCommands_X7_advance : GoodIn wsX6_readCommands wsX7_advance := goodIn_r _ [91, 17, 18, 19, 20, 16, 336, 337, 338, 339, 340] rfl (by decide +kernel)
set_option maxRecDepth 20000 in
theorem gX6_readCommands_X7_advance : GoodIn wsX6_readCommands (wsV RX6 74 RX7 yX7_advance wsX7_advance) := goodIn_app (goodIn_r _ [88, 89, 90, 14] rfl (by decide +kernel)) ggX6_readCommands_X7_advance
set_option maxRecDepth 20000 in
theorem ggX6_readCommands_X6_readCondition : GoodIn wsX6_readCommands wsX6_readCondition := goodIn_r _ [262, 74, 132, 75, 76, 263, 1, 3, 264, 265, 266, 8, 267, 11, 12, 13, 14, 15, 16, 17, 18, 19, 20, 21, 22, 23, 24, 25, 26, 27, 28, 29, 30, 31, 32, 33, 34, 35, 36, 37, 38, 39, 40, 41, 42, 43, 44, 45, 46, 47, 48, 49, 50, 51, 52, 53, 54, 55, 56, 57, 58, 59, 60, 61, 62, 63, 64, 65, 66, 67, 68, 69, 88, 89, 90, 91, 268, 269, 270, 271, 133, 134, 135, 136, 2, 5, 6, 7, 9, 10, 83, 84, 85, 86, 87, 137, 138, 139, 140, 272, 273, 274, 275, 276, 277, 278, 80, 279, 280, 281, 282, 283, 284, 285, 286, 287, 288, 113, 114, 109, 110, 111, 112, 82, 92, 93, 94, 95, 96, 97, 98, 99, 100, 101, 102, 103, 104, 105, 106, 107, 108, 289, 290, 291, 292, 293, 294, 295, 296, 297, 298, 299, 300, 301, 302, 303, 304, 305, 306, 307, 308, 309, 310, 311, 312, 313, 314, 315, 316, 149, 150, 151, 152, 153, 154, 155, 317, 318, 319, 320, 321, 254, 255, 256, 257, 212, 213, 214, 215, 128, 129, 130, 131, 322, 327, 328, 329, 330, 331, 332, 333, 334, 335, 341, 342, 343, 344, 345, 346, 347, 348, 336, 337, 338, 339, 340, 351, 352] rfl (by decide +kernel)
set_option maxRecDepth 20000 in
theorem gX6_readCommands_X6_readCondition : GoodIn wsX6_readCommands (wsV RX6 131 RX6 yX6_readCondition wsX6_readCondition) := goodIn_app (goodIn_r _ [259, 260, 261, 8] rfl (by decide +kernel)) ggX6_readCommands_X6_readCondition
set_option maxRecDepth 20000 in
theorem ggX6_readCommands_X6_fail : GoodIn wsX6_readCommands wsX6_fail := goodIn_r _ [86, 10, 87, 327, 328, 329, 330, 331, 332, 333, 334, 335] rfl (by decide +kernel)
set_option maxRecDepth 20000 in
theorem gX6_readCommands_X6_fail : GoodIn wsX6_readCommands (wsV RX6 70 RX6 yX6_fail wsX6_fail) := goodIn_app (goodIn_r _ [83, 84, 85, 8] rfl (by decide +kernel)) ggX6_readCommands_X6_fail
set_option maxRecDepth 20000 in
theorem ggX6_readCommands_X6_readSemicolon : GoodIn wsX6_readCommands wsX6_readSemicolon := goodIn_r _ [326, 1, 2, 3, 5, 6, 7, 8, 9, 10, 83, 84, 85, 86, 87, 88, 89, 90, 14, 91, 17, 18, 19, 20, 16, 327, 328, 329, 330, 331, 332, 333, 334, 335, 336, 337, 338, 339, 340] rfl (by decide +kernel)
set_option maxRecDepth 20000 in
theorem gX6_readCommands_X6_readSemicolon : GoodIn wsX6_readCommands (wsV RX6 81 RX6 yX6_readSemicolon wsX6_readSemicolon) := goodIn_app (goodIn_r _ [323, 324, 325, 8] rfl (by decide +kernel)) ggX6_readCommands_X6_readSemicolon
theorem dX6_readCommands_0 : decode cX6_readCommands 0 = .ok (.iconst 0, 1) := by decide +kernel
theorem dX6_readCommands_1 : decode cX6_readCommands 1 = .ok (.istore_n 1, 1) := by decide +kernel
theorem dX6_readCommands_2 : decode cX6_readCommands 2 = .ok (.iload_n 1, 1) := by decide +kernel
theorem dX6_readCommands_3 : decode cX6_readCommands 3 = .ok (.sipush 500, 3) := by decide +kernel
theorem dX6_readCommands_6 : decode cX6_readCommands 6 = .ok (.if_icmp .ge 228, 3) := by decide +kernel
theorem dX6_readCommands_9 : decode cX6_readCommands 9 = .ok (.aload_n 0, 1) := by decide +kernel
theorem dX6_readCommands_10 : decode cX6_readCommands 10 = .ok (.invokevirtual 84, 3) := by decide +kernel
theorem dX6_readCommands_13 : decode cX6_readCommands 13 = .ok (.ifCond .ne 221, 3) := by decide +kernel
theorem dX6_readCommands_16 : decode cX6_readCommands 16 = .ok (.aload_n 0, 1) := by decide +kernel
theorem dX6_readCommands_17 : decode cX6_readCommands 17 = .ok (.getfield 12, 3) := by decide +kernel
theorem dX6_readCommands_20 : decode cX6_readCommands 20 = .ok (.getfield 91, 3) := by decide +kernel
theorem dX6_readCommands_23 : decode cX6_readCommands 23 = .ok (.ifCond .eq 211, 3) := by decide +kernel
theorem dX6_readCommands_26 : decode cX6_readCommands 26 = .ok (.aload_n 0, 1) := by decide +kernel
theorem dX6_readCommands_27 : decode cX6_readCommands 27 = .ok (.getfield 12, 3) := by decide +kernel
theorem dX6_readCommands_30 : decode cX6_readCommands 30 = .ok (.ldc 94, 2) := by decide +kernel
theorem dX6_readCommands_32 : decode cX6_readCommands 32 = .ok (.invokevirtual 63, 3) := by decide +kernel
theorem dX6_readCommands_35 : decode cX6_readCommands 35 = .ok (.ifCond .eq 10, 3) := by decide +kernel
theorem dX6_readCommands_38 : decode cX6_readCommands 38 = .ok (.aload_n 0, 1) := by decide +kernel
theorem dX6_readCommands_39 : decode cX6_readCommands 39 = .ok (.invokevirtual 96, 3) := by decide +kernel
theorem dX6_readCommands_42 : decode cX6_readCommands 42 = .ok (.goto 172, 3) := by decide +kernel
theorem dX6_readCommands_45 : decode cX6_readCommands 45 = .ok (.aload_n 0, 1) := by decide +kernel
theorem dX6_readCommands_46 : decode cX6_readCommands 46 = .ok (.getfield 12, 3) := by decide +kernel
theorem dX6_readCommands_49 : decode cX6_readCommands 49 = .ok (.ldc 99, 2) := by decide +kernel
theorem dX6_readCommands_51 : decode cX6_readCommands 51 = .ok (.invokevirtual 63, 3) := by decide +kernel
theorem dX6_readCommands_54 : decode cX6_readCommands 54 = .ok (.ifCond .eq 10, 3) := by decide +kernel
theorem dX6_readCommands_57 : decode cX6_readCommands 57 = .ok (.aload_n 0, 1) := by decide +kernel
theorem dX6_readCommands_58 : decode cX6_readCommands 58 = .ok (.invokevirtual 101, 3) := by decide +kernel
theorem dX6_readCommands_61 : decode cX6_readCommands 61 = .ok (.goto 153, 3) := by decide +kernel
theorem dX6_readCommands_64 : decode cX6_readCommands 64 = .ok (.aload_n 0, 1) := by decide +kernel
theorem dX6_readCommands_65 : decode cX6_readCommands 65 = .ok (.getfield 12, 3) := by decide +kernel
theorem dX6_readCommands_68 : decode cX6_readCommands 68 = .ok (.ldc 104, 2) := by decide +kernel
theorem dX6_readCommands_70 : decode cX6_readCommands 70 = .ok (.invokevirtual 63, 3) := by decide +kernel
theorem dX6_readCommands_73 : decode cX6_readCommands 73 = .ok (.ifCond .eq 10, 3) := by decide +kernel
theorem dX6_readCommands_76 : decode cX6_readCommands 76 = .ok (.aload_n 0, 1) := by decide +kernel
theorem dX6_readCommands_77 : decode cX6_readCommands 77 = .ok (.invokevirtual 106, 3) := by decide +kernel
theorem dX6_readCommands_80 : decode cX6_readCommands 80 = .ok (.goto 134, 3) := by decide +kernel
theorem dX6_readCommands_83 : decode cX6_readCommands 83 = .ok (.aload_n 0, 1) := by decide +kernel
theorem dX6_readCommands_84 : decode cX6_readCommands 84 = .ok (.getfield 12, 3) := by decide +kernel
theorem dX6_readCommands_87 : decode cX6_readCommands 87 = .ok (.ldc 109, 2) := by decide +kernel
theorem dX6_readCommands_89 : decode cX6_readCommands 89 = .ok (.invokevirtual 63, 3) := by decide +kernel
theorem dX6_readCommands_92 : decode cX6_readCommands 92 = .ok (.ifCond .eq 10, 3) := by decide +kernel
theorem dX6_readCommands_95 : decode cX6_readCommands 95 = .ok (.aload_n 0, 1) := by decide +kernel
theorem dX6_readCommands_96 : decode cX6_readCommands 96 = .ok (.invokevirtual 111, 3) := by decide +kernel
theorem dX6_readCommands_99 : decode cX6_readCommands 99 = .ok (.goto 115, 3) := by decide +kernel
theorem dX6_readCommands_102 : decode cX6_readCommands 102 = .ok (.aload_n 0, 1) := by decide +kernel
theorem dX6_readCommands_103 : decode cX6_readCommands 103 = .ok (.getfield 12, 3) := by decide +kernel
theorem dX6_readCommands_106 : decode cX6_readCommands 106 = .ok (.ldc 114, 2) := by decide +kernel
theorem dX6_readCommands_108 : decode cX6_readCommands 108 = .ok (.invokevirtual 63, 3) := by decide +kernel
theorem dX6_readCommands_111 : decode cX6_readCommands 111 = .ok (.ifCond .eq 10, 3) := by decide +kernel
theorem dX6_readCommands_114 : decode cX6_readCommands 114 = .ok (.aload_n 0, 1) := by decide +kernel
theorem dX6_readCommands_115 : decode cX6_readCommands 115 = .ok (.invokevirtual 116, 3) := by decide +kernel
theorem dX6_readCommands_118 : decode cX6_readCommands 118 = .ok (.goto 96, 3) := by decide +kernel
theorem dX6_readCommands_121 : decode cX6_readCommands 121 = .ok (.aload_n 0, 1) := by decide +kernel
theorem dX6_readCommands_122 : decode cX6_readCommands 122 = .ok (.getfield 12, 3) := by decide +kernel
theorem dX6_readCommands_125 : decode cX6_readCommands 125 = .ok (.ldc 119, 2) := by decide +kernel
theorem dX6_readCommands_127 : decode cX6_readCommands 127 = .ok (.invokevirtual 63, 3) := by decide +kernel
theorem dX6_readCommands_130 : decode cX6_readCommands 130 = .ok (.ifCond .eq 10, 3) := by decide +kernel
theorem dX6_readCommands_133 : decode cX6_readCommands 133 = .ok (.aload_n 0, 1) := by decide +kernel
theorem dX6_readCommands_134 : decode cX6_readCommands 134 = .ok (.invokevirtual 121, 3) := by decide +kernel
theorem dX6_readCommands_137 : decode cX6_readCommands 137 = .ok (.goto 77, 3) := by decide +kernel
theorem dX6_readCommands_140 : decode cX6_readCommands 140 = .ok (.aload_n 0, 1) := by decide +kernel
theorem dX6_readCommands_141 : decode cX6_readCommands 141 = .ok (.getfield 12, 3) := by decide +kernel
theorem dX6_readCommands_144 : decode cX6_readCommands 144 = .ok (.ldc 124, 2) := by decide +kernel
theorem dX6_readCommands_146 : decode cX6_readCommands 146 = .ok (.invokevirtual 63, 3) := by decide +kernel
theorem dX6_readCommands_149 : decode cX6_readCommands 149 = .ok (.ifCond .eq 10, 3) := by decide +kernel
theorem dX6_readCommands_152 : decode cX6_readCommands 152 = .ok (.aload_n 0, 1) := by decide +kernel
theorem dX6_readCommands_153 : decode cX6_readCommands 153 = .ok (.invokevirtual 126, 3) := by decide +kernel
theorem dX6_readCommands_156 : decode cX6_readCommands 156 = .ok (.goto 58, 3) := by decide +kernel
theorem dX6_readCommands_159 : decode cX6_readCommands 159 = .ok (.aload_n 0, 1) := by decide +kernel
theorem dX6_readCommands_160 : decode cX6_readCommands 160 = .ok (.getfield 12, 3) := by decide +kernel
theorem dX6_readCommands_163 : decode cX6_readCommands 163 = .ok (.ldc 129, 2) := by decide +kernel
theorem dX6_readCommands_165 : decode cX6_readCommands 165 = .ok (.invokevirtual 63, 3) := by decide +kernel
theorem dX6_readCommands_168 : decode cX6_readCommands 168 = .ok (.ifCond .eq 34, 3) := by decide +kernel
theorem dX6_readCommands_171 : decode cX6_readCommands 171 = .ok (.aload_n 0, 1) := by decide +kernel
theorem dX6_readCommands_172 : decode cX6_readCommands 172 = .ok (.getfield 12, 3) := by decide +kernel
theorem dX6_readCommands_175 : decode cX6_readCommands 175 = .ok (.getfield 67, 3) := by decide +kernel
theorem dX6_readCommands_178 : decode cX6_readCommands 178 = .ok (.istore_n 2, 1) := by decide +kernel
theorem dX6_readCommands_179 : decode cX6_readCommands 179 = .ok (.aload_n 0, 1) := by decide +kernel
theorem dX6_readCommands_180 : decode cX6_readCommands 180 = .ok (.getfield 12, 3) := by decide +kernel
theorem dX6_readCommands_183 : decode cX6_readCommands 183 = .ok (.invokevirtual 74, 3) := by decide +kernel
theorem dX6_readCommands_186 : decode cX6_readCommands 186 = .ok (.aload_n 0, 1) := by decide +kernel
theorem dX6_readCommands_187 : decode cX6_readCommands 187 = .ok (.invokevirtual 131, 3) := by decide +kernel
theorem dX6_readCommands_190 : decode cX6_readCommands 190 = .ok (.ifCond .ne 9, 3) := by decide +kernel
theorem dX6_readCommands_193 : decode cX6_readCommands 193 = .ok (.aload_n 0, 1) := by decide +kernel
theorem dX6_readCommands_194 : decode cX6_readCommands 194 = .ok (.iconst 5, 1) := by decide +kernel
theorem dX6_readCommands_195 : decode cX6_readCommands 195 = .ok (.iload_n 2, 1) := by decide +kernel
theorem dX6_readCommands_196 : decode cX6_readCommands 196 = .ok (.invokevirtual 70, 3) := by decide +kernel
theorem dX6_readCommands_199 : decode cX6_readCommands 199 = .ok (.goto 15, 3) := by decide +kernel
theorem dX6_readCommands_202 : decode cX6_readCommands 202 = .ok (.aload_n 0, 1) := by decide +kernel
theorem dX6_readCommands_203 : decode cX6_readCommands 203 = .ok (.iconst 1, 1) := by decide +kernel
theorem dX6_readCommands_204 : decode cX6_readCommands 204 = .ok (.aload_n 0, 1) := by decide +kernel
theorem dX6_readCommands_205 : decode cX6_readCommands 205 = .ok (.getfield 12, 3) := by decide +kernel
theorem dX6_readCommands_208 : decode cX6_readCommands 208 = .ok (.getfield 67, 3) := by decide +kernel
theorem dX6_readCommands_211 : decode cX6_readCommands 211 = .ok (.invokevirtual 70, 3) := by decide +kernel
theorem dX6_readCommands_214 : decode cX6_readCommands 214 = .ok (.aload_n 0, 1) := by decide +kernel
theorem dX6_readCommands_215 : decode cX6_readCommands 215 = .ok (.invokevirtual 81, 3) := by decide +kernel
theorem dX6_readCommands_218 : decode cX6_readCommands 218 = .ok (.aload_n 0, 1) := by decide +kernel
theorem dX6_readCommands_219 : decode cX6_readCommands 219 = .ok (.dup, 1) := by decide +kernel
theorem dX6_readCommands_220 : decode cX6_readCommands 220 = .ok (.getfield 46, 3) := by decide +kernel
theorem dX6_readCommands_223 : decode cX6_readCommands 223 = .ok (.iconst 1, 1) := by decide +kernel
theorem dX6_readCommands_224 : decode cX6_readCommands 224 = .ok (.iadd, 1) := by decide +kernel
theorem dX6_readCommands_225 : decode cX6_readCommands 225 = .ok (.putfield 46, 3) := by decide +kernel
theorem dX6_readCommands_228 : decode cX6_readCommands 228 = .ok (.iinc 1 1, 3) := by decide +kernel
theorem dX6_readCommands_231 : decode cX6_readCommands 231 = .ok (.goto (-229), 3) := by decide +kernel
theorem dX6_readCommands_234 : decode cX6_readCommands 234 = .ok (.return_, 1) := by decide +kernel
set_option maxRecDepth 20000 in
theorem ggX6_readClause_X0_isFull : GoodIn wsX6_readClause wsX0_isFull := goodIn_r _ [10, 11, 80, 81, 82, 83, 84, 85, 86, 87] rfl (by decide +kernel)
set_option maxRecDepth 20000 in
theorem gX6_readClause_X0_isFull : GoodIn wsX6_readClause (wsV RX6 134 RX0 yX0_isFull wsX0_isFull) := goodIn_app (goodIn_r _ [6, 7, 8, 9] rfl (by decide +kernel)) ggX6_readClause_X0_isFull
set_option maxRecDepth 20000 in
theorem ggX6_readClause_X6_fail : GoodIn wsX6_readClause wsX6_fail := goodIn_r _ [16, 17, 18, 66, 67, 68, 69, 70, 71, 72, 73, 74] rfl (by decide +kernel)
set_option maxRecDepth 20000 in
theorem gX6_readClause_X6_fail : GoodIn wsX6_readClause (wsV RX6 70 RX6 yX6_fail wsX6_fail) := goodIn_app (goodIn_r _ [12, 13, 14, 15] rfl (by decide +kernel)) ggX6_readClause_X6_fail
set_option maxRecDepth 20000 in
theorem ggX6_readClause_X7_advance : GoodIn wsX6_readClause wsX7_advance := goodIn_r _ [23, 24, 25, 26, 27, 28, 75, 76, 77, 78, 79] rfl (by decide +kernel)
set_option maxRecDepth 20000 in
theorem gX6_readClause_X7_advance : GoodIn wsX6_readClause (wsV RX6 74 RX7 yX7_advance wsX7_advance) := goodIn_app (goodIn_r _ [19, 20, 21, 22] rfl (by decide +kernel)) ggX6_readClause_X7_advance
set_option maxRecDepth 20000 in
theorem ggX6_readClause_X6_readLiterals : GoodIn wsX6_readClause wsX6_readLiterals := goodIn_r _ [32, 4, 5, 1, 33, 34, 35, 36, 15, 37, 17, 38, 39, 40, 41, 2, 19, 20, 21, 22, 23, 24, 25, 26, 27, 28, 42, 43, 44, 45, 3, 46, 47, 48, 49, 50, 12, 13, 14, 16, 18, 66, 67, 68, 69, 70, 71, 72, 73, 74, 75, 76, 77, 78, 79, 80, 81, 82, 83, 84, 85, 86, 87] rfl (by decide +kernel)
set_option maxRecDepth 20000 in
theorem gX6_readClause_X6_readLiterals : GoodIn wsX6_readClause (wsV RX6 137 RX6 yX6_readLiterals wsX6_readLiterals) := goodIn_app (goodIn_r _ [29, 30, 31, 15] rfl (by decide +kernel)) ggX6_readClause_X6_readLiterals
set_option maxRecDepth 20000 in
theorem ggX6_readClause_X6_isFailed : GoodIn wsX6_readClause wsX6_isFailed := goodIn_r _ [37, 17, 66, 67, 68, 69, 70, 71, 72, 73, 74] rfl (by decide +kernel)
set_option maxRecDepth 20000 in
theorem gX6_readClause_X6_isFailed : GoodIn wsX6_readClause (wsV RX6 84 RX6 yX6_isFailed wsX6_isFailed) := goodIn_app (goodIn_r _ [34, 35, 36, 15] rfl (by decide +kernel)) ggX6_readClause_X6_isFailed
set_option maxRecDepth 20000 in
theorem ggX6_readClause_X0_indexOf : GoodIn wsX6_readClause wsX0_indexOf := goodIn_r _ [54, 11, 55, 56, 80, 81, 82, 83, 84, 85, 86, 87] rfl (by decide +kernel)
set_option maxRecDepth 20000 in
theorem gX6_readClause_X0_indexOf : GoodIn wsX6_readClause (wsV RX6 140 RX0 yX0_indexOf wsX0_indexOf) := goodIn_app (goodIn_r _ [51, 52, 53, 9] rfl (by decide +kernel)) ggX6_readClause_X0_indexOf
set_option maxRecDepth 20000 in
theorem ggX6_readClause_X0_addGiven : GoodIn wsX6_readClause wsX0_addGiven := goodIn_r _ [60, 11, 55, 56, 61, 62, 63, 64, 65, 7, 8, 9, 10, 80, 81, 82, 83, 84, 85, 86, 87] rfl (by decide +kernel)
set_option maxRecDepth 20000 in
theorem gX6_readClause_X0_addGiven : GoodIn wsX6_readClause (wsV RX6 143 RX0 yX0_addGiven wsX0_addGiven) := goodIn_app (goodIn_r _ [57, 58, 59, 9] rfl (by decide +kernel)) ggX6_readClause_X0_addGiven
theorem dX6_readClause_0 : decode cX6_readClause 0 = .ok (.aload_n 0, 1) := by decide +kernel
theorem dX6_readClause_1 : decode cX6_readClause 1 = .ok (.getfield 12, 3) := by decide +kernel
theorem dX6_readClause_4 : decode cX6_readClause 4 = .ok (.getfield 67, 3) := by decide +kernel
theorem dX6_readClause_7 : decode cX6_readClause 7 = .ok (.istore_n 1, 1) := by decide +kernel
theorem dX6_readClause_8 : decode cX6_readClause 8 = .ok (.aload_n 0, 1) := by decide +kernel
theorem dX6_readClause_9 : decode cX6_readClause 9 = .ok (.getfield 21, 3) := by decide +kernel
theorem dX6_readClause_12 : decode cX6_readClause 12 = .ok (.invokevirtual 134, 3) := by decide +kernel
theorem dX6_readClause_15 : decode cX6_readClause 15 = .ok (.ifCond .eq 10, 3) := by decide +kernel
theorem dX6_readClause_18 : decode cX6_readClause 18 = .ok (.aload_n 0, 1) := by decide +kernel
theorem dX6_readClause_19 : decode cX6_readClause 19 = .ok (.iconst 4, 1) := by decide +kernel
theorem dX6_readClause_20 : decode cX6_readClause 20 = .ok (.iload_n 1, 1) := by decide +kernel
theorem dX6_readClause_21 : decode cX6_readClause 21 = .ok (.invokevirtual 70, 3) := by decide +kernel
theorem dX6_readClause_24 : decode cX6_readClause 24 = .ok (.return_, 1) := by decide +kernel
theorem dX6_readClause_25 : decode cX6_readClause 25 = .ok (.aload_n 0, 1) := by decide +kernel
theorem dX6_readClause_26 : decode cX6_readClause 26 = .ok (.getfield 12, 3) := by decide +kernel
theorem dX6_readClause_29 : decode cX6_readClause 29 = .ok (.invokevirtual 74, 3) := by decide +kernel
theorem dX6_readClause_32 : decode cX6_readClause 32 = .ok (.aload_n 0, 1) := by decide +kernel
theorem dX6_readClause_33 : decode cX6_readClause 33 = .ok (.invokevirtual 137, 3) := by decide +kernel
theorem dX6_readClause_36 : decode cX6_readClause 36 = .ok (.aload_n 0, 1) := by decide +kernel
theorem dX6_readClause_37 : decode cX6_readClause 37 = .ok (.invokevirtual 84, 3) := by decide +kernel
theorem dX6_readClause_40 : decode cX6_readClause 40 = .ok (.ifCond .eq 4, 3) := by decide +kernel
theorem dX6_readClause_43 : decode cX6_readClause 43 = .ok (.return_, 1) := by decide +kernel
theorem dX6_readClause_44 : decode cX6_readClause 44 = .ok (.aload_n 0, 1) := by decide +kernel
theorem dX6_readClause_45 : decode cX6_readClause 45 = .ok (.getfield 21, 3) := by decide +kernel
theorem dX6_readClause_48 : decode cX6_readClause 48 = .ok (.aload_n 0, 1) := by decide +kernel
theorem dX6_readClause_49 : decode cX6_readClause 49 = .ok (.getfield 49, 3) := by decide +kernel
theorem dX6_readClause_52 : decode cX6_readClause 52 = .ok (.aload_n 0, 1) := by decide +kernel
theorem dX6_readClause_53 : decode cX6_readClause 53 = .ok (.getfield 52, 3) := by decide +kernel
theorem dX6_readClause_56 : decode cX6_readClause 56 = .ok (.invokevirtual 140, 3) := by decide +kernel
theorem dX6_readClause_59 : decode cX6_readClause 59 = .ok (.iconst (-1), 1) := by decide +kernel
theorem dX6_readClause_60 : decode cX6_readClause 60 = .ok (.if_icmp .eq 10, 3) := by decide +kernel
theorem dX6_readClause_63 : decode cX6_readClause 63 = .ok (.aload_n 0, 1) := by decide +kernel
theorem dX6_readClause_64 : decode cX6_readClause 64 = .ok (.iconst 4, 1) := by decide +kernel
theorem dX6_readClause_65 : decode cX6_readClause 65 = .ok (.iload_n 1, 1) := by decide +kernel
theorem dX6_readClause_66 : decode cX6_readClause 66 = .ok (.invokevirtual 70, 3) := by decide +kernel
theorem dX6_readClause_69 : decode cX6_readClause 69 = .ok (.return_, 1) := by decide +kernel
theorem dX6_readClause_70 : decode cX6_readClause 70 = .ok (.aload_n 0, 1) := by decide +kernel
theorem dX6_readClause_71 : decode cX6_readClause 71 = .ok (.getfield 21, 3) := by decide +kernel
theorem dX6_readClause_74 : decode cX6_readClause 74 = .ok (.aload_n 0, 1) := by decide +kernel
theorem dX6_readClause_75 : decode cX6_readClause 75 = .ok (.getfield 49, 3) := by decide +kernel
theorem dX6_readClause_78 : decode cX6_readClause 78 = .ok (.aload_n 0, 1) := by decide +kernel
theorem dX6_readClause_79 : decode cX6_readClause 79 = .ok (.getfield 52, 3) := by decide +kernel
theorem dX6_readClause_82 : decode cX6_readClause 82 = .ok (.invokevirtual 143, 3) := by decide +kernel
theorem dX6_readClause_85 : decode cX6_readClause 85 = .ok (.pop, 1) := by decide +kernel
theorem dX6_readClause_86 : decode cX6_readClause 86 = .ok (.return_, 1) := by decide +kernel
set_option maxRecDepth 20000 in
theorem ggX6_readResolve_X7_advance : GoodIn wsX6_readResolve wsX7_advance := goodIn_r _ [8, 9, 10, 11, 12, 13, 107, 108, 109, 110, 111] rfl (by decide +kernel)
set_option maxRecDepth 20000 in
theorem gX6_readResolve_X7_advance : GoodIn wsX6_readResolve (wsV RX6 74 RX7 yX7_advance wsX7_advance) := goodIn_app (goodIn_r _ [4, 5, 6, 7] rfl (by decide +kernel)) ggX6_readResolve_X7_advance
set_option maxRecDepth 20000 in
theorem ggX6_readResolve_X6_readClauseNumber : GoodIn wsX6_readResolve wsX6_readClauseNumber := goodIn_r _ [18, 3, 19, 20, 21, 22, 17, 23, 1, 24, 2, 25, 26, 27, 28, 29, 30, 31, 32, 33, 34, 35, 36, 37, 7, 38, 9, 10, 11, 12, 4, 5, 6, 8, 13, 98, 99, 100, 101, 102, 103, 104, 105, 106, 112, 113, 114, 115, 116, 117, 118, 119, 107, 108, 109, 110, 111] rfl (by decide +kernel)
set_option maxRecDepth 20000 in
theorem gX6_readResolve_X6_readClauseNumber : GoodIn wsX6_readResolve (wsV RX6 146 RX6 yX6_readClauseNumber wsX6_readClauseNumber) := goodIn_app (goodIn_r _ [14, 15, 16, 17] rfl (by decide +kernel)) ggX6_readResolve_X6_readClauseNumber
set_option maxRecDepth 20000 in
theorem ggX6_readResolve_X0_clashOnce : GoodIn wsX6_readResolve wsX0_clashOnce := goodIn_r _ [43, 44, 45, 46, 42, 47, 48, 49, 50, 51, 52, 53, 54, 55, 56, 112, 113, 114, 115, 116, 117, 118, 119] rfl (by decide +kernel)
set_option maxRecDepth 20000 in
theorem gX6_readResolve_X0_clashOnce : GoodIn wsX6_readResolve (wsV RX6 150 RX0 yX0_clashOnce wsX0_clashOnce) := goodIn_app (goodIn_r _ [39, 40, 41, 42] rfl (by decide +kernel)) ggX6_readResolve_X0_clashOnce
set_option maxRecDepth 20000 in
theorem ggX6_readResolve_X0_hasRoomForResolvent : GoodIn wsX6_readResolve wsX0_hasRoomForResolvent := goodIn_r _ [60, 61, 62, 63, 42, 64, 48, 44, 45, 46, 47, 49, 65, 66, 67, 68, 69, 70, 71, 72, 73, 74, 75, 76, 77, 112, 113, 114, 115, 116, 117, 118, 119] rfl (by decide +kernel)
set_option maxRecDepth 20000 in
theorem gX6_readResolve_X0_hasRoomForResolvent : GoodIn wsX6_readResolve (wsV RX6 154 RX0 yX0_hasRoomForResolvent wsX0_hasRoomForResolvent) := goodIn_app (goodIn_r _ [57, 58, 59, 42] rfl (by decide +kernel)) ggX6_readResolve_X0_hasRoomForResolvent
set_option maxRecDepth 20000 in
theorem ggX6_readResolve_X6_fail : GoodIn wsX6_readResolve wsX6_fail := goodIn_r _ [33, 29, 34, 98, 99, 100, 101, 102, 103, 104, 105, 106] rfl (by decide +kernel)
set_option maxRecDepth 20000 in
theorem gX6_readResolve_X6_fail : GoodIn wsX6_readResolve (wsV RX6 70 RX6 yX6_fail wsX6_fail) := goodIn_app (goodIn_r _ [30, 31, 32, 17] rfl (by decide +kernel)) ggX6_readResolve_X6_fail
set_option maxRecDepth 20000 in
theorem ggX6_readResolve_X0_addResolvent : GoodIn wsX6_readResolve wsX0_addResolvent := goodIn_r _ [81, 48, 82, 83, 84, 85, 86, 87, 88, 89, 44, 45, 46, 42, 47, 49, 61, 62, 63, 64, 65, 66, 67, 68, 90, 91, 92, 93, 73, 69, 70, 71, 72, 94, 95, 52, 96, 97, 112, 113, 114, 115, 116, 117, 118, 119] rfl (by decide +kernel)
set_option maxRecDepth 20000 in
theorem gX6_readResolve_X0_addResolvent : GoodIn wsX6_readResolve (wsV RX6 157 RX0 yX0_addResolvent wsX0_addResolvent) := goodIn_app (goodIn_r _ [78, 79, 80, 42] rfl (by decide +kernel)) ggX6_readResolve_X0_addResolvent
theorem dX6_readResolve_0 : decode cX6_readResolve 0 = .ok (.aload_n 0, 1) := by decide +kernel
theorem dX6_readResolve_1 : decode cX6_readResolve 1 = .ok (.getfield 12, 3) := by decide +kernel
theorem dX6_readResolve_4 : decode cX6_readResolve 4 = .ok (.invokevirtual 74, 3) := by decide +kernel
theorem dX6_readResolve_7 : decode cX6_readResolve 7 = .ok (.aload_n 0, 1) := by decide +kernel
theorem dX6_readResolve_8 : decode cX6_readResolve 8 = .ok (.invokevirtual 146, 3) := by decide +kernel
theorem dX6_readResolve_11 : decode cX6_readResolve 11 = .ok (.istore_n 1, 1) := by decide +kernel
theorem dX6_readResolve_12 : decode cX6_readResolve 12 = .ok (.aload_n 0, 1) := by decide +kernel
theorem dX6_readResolve_13 : decode cX6_readResolve 13 = .ok (.getfield 12, 3) := by decide +kernel
theorem dX6_readResolve_16 : decode cX6_readResolve 16 = .ok (.getfield 67, 3) := by decide +kernel
theorem dX6_readResolve_19 : decode cX6_readResolve 19 = .ok (.istore_n 2, 1) := by decide +kernel
theorem dX6_readResolve_20 : decode cX6_readResolve 20 = .ok (.aload_n 0, 1) := by decide +kernel
theorem dX6_readResolve_21 : decode cX6_readResolve 21 = .ok (.invokevirtual 146, 3) := by decide +kernel
theorem dX6_readResolve_24 : decode cX6_readResolve 24 = .ok (.istore_n 3, 1) := by decide +kernel
theorem dX6_readResolve_25 : decode cX6_readResolve 25 = .ok (.iload_n 1, 1) := by decide +kernel
theorem dX6_readResolve_26 : decode cX6_readResolve 26 = .ok (.iconst (-1), 1) := by decide +kernel
theorem dX6_readResolve_27 : decode cX6_readResolve 27 = .ok (.if_icmp .eq 8, 3) := by decide +kernel
theorem dX6_readResolve_30 : decode cX6_readResolve 30 = .ok (.iload_n 3, 1) := by decide +kernel
theorem dX6_readResolve_31 : decode cX6_readResolve 31 = .ok (.iconst (-1), 1) := by decide +kernel
theorem dX6_readResolve_32 : decode cX6_readResolve 32 = .ok (.if_icmp .ne 4, 3) := by decide +kernel
theorem dX6_readResolve_35 : decode cX6_readResolve 35 = .ok (.return_, 1) := by decide +kernel
theorem dX6_readResolve_36 : decode cX6_readResolve 36 = .ok (.aload_n 0, 1) := by decide +kernel
theorem dX6_readResolve_37 : decode cX6_readResolve 37 = .ok (.getfield 21, 3) := by decide +kernel
theorem dX6_readResolve_40 : decode cX6_readResolve 40 = .ok (.iload_n 1, 1) := by decide +kernel
theorem dX6_readResolve_41 : decode cX6_readResolve 41 = .ok (.iload_n 3, 1) := by decide +kernel
theorem dX6_readResolve_42 : decode cX6_readResolve 42 = .ok (.invokevirtual 150, 3) := by decide +kernel
theorem dX6_readResolve_45 : decode cX6_readResolve 45 = .ok (.ifCond .eq 15, 3) := by decide +kernel
theorem dX6_readResolve_48 : decode cX6_readResolve 48 = .ok (.aload_n 0, 1) := by decide +kernel
theorem dX6_readResolve_49 : decode cX6_readResolve 49 = .ok (.getfield 21, 3) := by decide +kernel
theorem dX6_readResolve_52 : decode cX6_readResolve 52 = .ok (.iload_n 1, 1) := by decide +kernel
theorem dX6_readResolve_53 : decode cX6_readResolve 53 = .ok (.iload_n 3, 1) := by decide +kernel
theorem dX6_readResolve_54 : decode cX6_readResolve 54 = .ok (.invokevirtual 154, 3) := by decide +kernel
theorem dX6_readResolve_57 : decode cX6_readResolve 57 = .ok (.ifCond .ne 10, 3) := by decide +kernel
theorem dX6_readResolve_60 : decode cX6_readResolve 60 = .ok (.aload_n 0, 1) := by decide +kernel
theorem dX6_readResolve_61 : decode cX6_readResolve 61 = .ok (.iconst 4, 1) := by decide +kernel
theorem dX6_readResolve_62 : decode cX6_readResolve 62 = .ok (.iload_n 2, 1) := by decide +kernel
theorem dX6_readResolve_63 : decode cX6_readResolve 63 = .ok (.invokevirtual 70, 3) := by decide +kernel
theorem dX6_readResolve_66 : decode cX6_readResolve 66 = .ok (.return_, 1) := by decide +kernel
theorem dX6_readResolve_67 : decode cX6_readResolve 67 = .ok (.aload_n 0, 1) := by decide +kernel
theorem dX6_readResolve_68 : decode cX6_readResolve 68 = .ok (.getfield 21, 3) := by decide +kernel
theorem dX6_readResolve_71 : decode cX6_readResolve 71 = .ok (.iload_n 1, 1) := by decide +kernel
theorem dX6_readResolve_72 : decode cX6_readResolve 72 = .ok (.iload_n 3, 1) := by decide +kernel
theorem dX6_readResolve_73 : decode cX6_readResolve 73 = .ok (.invokevirtual 157, 3) := by decide +kernel
theorem dX6_readResolve_76 : decode cX6_readResolve 76 = .ok (.pop, 1) := by decide +kernel
theorem dX6_readResolve_77 : decode cX6_readResolve 77 = .ok (.return_, 1) := by decide +kernel
set_option maxRecDepth 20000 in
theorem ggX6_readSaturate_X7_advance : GoodIn wsX6_readSaturate wsX7_advance := goodIn_r _ [8, 9, 10, 11, 12, 13, 126, 127, 128, 129, 130] rfl (by decide +kernel)
set_option maxRecDepth 20000 in
theorem gX6_readSaturate_X7_advance : GoodIn wsX6_readSaturate (wsV RX6 74 RX7 yX7_advance wsX7_advance) := goodIn_app (goodIn_r _ [4, 5, 6, 7] rfl (by decide +kernel)) ggX6_readSaturate_X7_advance
set_option maxRecDepth 20000 in
theorem ggX6_readSaturate_X6_readNumber : GoodIn wsX6_readSaturate wsX6_readNumber := goodIn_r _ [18, 1, 19, 20, 21, 22, 23, 17, 24, 25, 26, 27, 28, 29, 30, 31, 32, 33, 7, 34, 9, 10, 11, 12, 4, 5, 6, 8, 13, 117, 118, 119, 120, 121, 122, 123, 124, 125, 126, 127, 128, 129, 130] rfl (by decide +kernel)
set_option maxRecDepth 20000 in
theorem gX6_readSaturate_X6_readNumber : GoodIn wsX6_readSaturate (wsV RX6 77 RX6 yX6_readNumber wsX6_readNumber) := goodIn_app (goodIn_r _ [14, 15, 16, 17] rfl (by decide +kernel)) ggX6_readSaturate_X6_readNumber
set_option maxRecDepth 20000 in
theorem ggX6_readSaturate_X5_makeSteps : GoodIn wsX6_readSaturate wsX5_makeSteps := goodIn_r _ [39, 40, 41, 42, 43, 44, 38, 45, 46, 47, 48, 49, 50, 51, 52, 53, 54, 55, 56, 57, 58, 59, 60, 61, 62, 63, 64, 65, 66, 67, 68, 69, 70, 71, 72, 73, 74, 75, 76, 77, 78, 79, 80, 81, 82, 83, 84, 85, 86, 87, 88, 89, 90, 91, 92, 93, 94, 95, 96, 97, 98, 99, 100, 101, 102, 103, 104, 105, 106, 107, 108, 109, 110, 111, 112, 113, 114, 115, 116, 131, 132, 133, 134, 135, 136, 137, 138, 139, 140] rfl (by decide +kernel)
set_option maxRecDepth 20000 in
theorem gX6_readSaturate_X5_makeSteps : GoodIn wsX6_readSaturate (wsV RX6 160 RX5 yX5_makeSteps wsX5_makeSteps) := goodIn_app (goodIn_r _ [35, 36, 37, 38] rfl (by decide +kernel)) ggX6_readSaturate_X5_makeSteps
theorem dX6_readSaturate_0 : decode cX6_readSaturate 0 = .ok (.aload_n 0, 1) := by decide +kernel
theorem dX6_readSaturate_1 : decode cX6_readSaturate 1 = .ok (.getfield 12, 3) := by decide +kernel
theorem dX6_readSaturate_4 : decode cX6_readSaturate 4 = .ok (.invokevirtual 74, 3) := by decide +kernel
theorem dX6_readSaturate_7 : decode cX6_readSaturate 7 = .ok (.aload_n 0, 1) := by decide +kernel
theorem dX6_readSaturate_8 : decode cX6_readSaturate 8 = .ok (.iconst 1, 1) := by decide +kernel
theorem dX6_readSaturate_9 : decode cX6_readSaturate 9 = .ok (.bipush 99, 2) := by decide +kernel
theorem dX6_readSaturate_11 : decode cX6_readSaturate 11 = .ok (.invokevirtual 77, 3) := by decide +kernel
theorem dX6_readSaturate_14 : decode cX6_readSaturate 14 = .ok (.istore_n 1, 1) := by decide +kernel
theorem dX6_readSaturate_15 : decode cX6_readSaturate 15 = .ok (.iload_n 1, 1) := by decide +kernel
theorem dX6_readSaturate_16 : decode cX6_readSaturate 16 = .ok (.iconst (-1), 1) := by decide +kernel
theorem dX6_readSaturate_17 : decode cX6_readSaturate 17 = .ok (.if_icmp .eq 16, 3) := by decide +kernel
theorem dX6_readSaturate_20 : decode cX6_readSaturate 20 = .ok (.aload_n 0, 1) := by decide +kernel
theorem dX6_readSaturate_21 : decode cX6_readSaturate 21 = .ok (.getfield 28, 3) := by decide +kernel
theorem dX6_readSaturate_24 : decode cX6_readSaturate 24 = .ok (.aload_n 0, 1) := by decide +kernel
theorem dX6_readSaturate_25 : decode cX6_readSaturate 25 = .ok (.getfield 21, 3) := by decide +kernel
theorem dX6_readSaturate_28 : decode cX6_readSaturate 28 = .ok (.iload_n 1, 1) := by decide +kernel
theorem dX6_readSaturate_29 : decode cX6_readSaturate 29 = .ok (.invokevirtual 160, 3) := by decide +kernel
theorem dX6_readSaturate_32 : decode cX6_readSaturate 32 = .ok (.pop, 1) := by decide +kernel
theorem dX6_readSaturate_33 : decode cX6_readSaturate 33 = .ok (.return_, 1) := by decide +kernel
set_option maxRecDepth 20000 in
theorem ggX6_readDrop_X7_advance : GoodIn wsX6_readDrop wsX7_advance := goodIn_r _ [8, 9, 10, 11, 12, 13, 64, 65, 66, 67, 68] rfl (by decide +kernel)
set_option maxRecDepth 20000 in
theorem gX6_readDrop_X7_advance : GoodIn wsX6_readDrop (wsV RX6 74 RX7 yX7_advance wsX7_advance) := goodIn_app (goodIn_r _ [4, 5, 6, 7] rfl (by decide +kernel)) ggX6_readDrop_X7_advance
set_option maxRecDepth 20000 in
theorem ggX6_readDrop_X6_readClauseNumber : GoodIn wsX6_readDrop wsX6_readClauseNumber := goodIn_r _ [18, 3, 19, 20, 21, 22, 17, 23, 1, 24, 2, 25, 26, 27, 28, 29, 30, 31, 32, 33, 34, 35, 36, 37, 7, 38, 9, 10, 11, 12, 4, 5, 6, 8, 13, 55, 56, 57, 58, 59, 60, 61, 62, 63, 69, 70, 71, 72, 73, 74, 75, 76, 64, 65, 66, 67, 68] rfl (by decide +kernel)
set_option maxRecDepth 20000 in
theorem gX6_readDrop_X6_readClauseNumber : GoodIn wsX6_readDrop (wsV RX6 146 RX6 yX6_readClauseNumber wsX6_readClauseNumber) := goodIn_app (goodIn_r _ [14, 15, 16, 17] rfl (by decide +kernel)) ggX6_readDrop_X6_readClauseNumber
set_option maxRecDepth 20000 in
theorem ggX6_readDrop_X0_isParent : GoodIn wsX6_readDrop wsX0_isParent := goodIn_r _ [43, 44, 45, 46, 69, 70, 71, 72, 73, 74, 75, 76] rfl (by decide +kernel)
set_option maxRecDepth 20000 in
theorem gX6_readDrop_X0_isParent : GoodIn wsX6_readDrop (wsV RX6 164 RX0 yX0_isParent wsX0_isParent) := goodIn_app (goodIn_r _ [39, 40, 41, 42] rfl (by decide +kernel)) ggX6_readDrop_X0_isParent
set_option maxRecDepth 20000 in
theorem ggX6_readDrop_X6_fail : GoodIn wsX6_readDrop wsX6_fail := goodIn_r _ [33, 29, 34, 55, 56, 57, 58, 59, 60, 61, 62, 63] rfl (by decide +kernel)
set_option maxRecDepth 20000 in
theorem gX6_readDrop_X6_fail : GoodIn wsX6_readDrop (wsV RX6 70 RX6 yX6_fail wsX6_fail) := goodIn_app (goodIn_r _ [30, 31, 32, 17] rfl (by decide +kernel)) ggX6_readDrop_X6_fail
set_option maxRecDepth 20000 in
theorem ggX6_readDrop_X0_remove : GoodIn wsX6_readDrop wsX0_remove := goodIn_r _ [50, 44, 51, 52, 45, 46, 53, 54, 69, 70, 71, 72, 73, 74, 75, 76] rfl (by decide +kernel)
set_option maxRecDepth 20000 in
theorem gX6_readDrop_X0_remove : GoodIn wsX6_readDrop (wsV RX6 168 RX0 yX0_remove wsX0_remove) := goodIn_app (goodIn_r _ [47, 48, 49, 42] rfl (by decide +kernel)) ggX6_readDrop_X0_remove
theorem dX6_readDrop_0 : decode cX6_readDrop 0 = .ok (.aload_n 0, 1) := by decide +kernel
theorem dX6_readDrop_1 : decode cX6_readDrop 1 = .ok (.getfield 12, 3) := by decide +kernel
theorem dX6_readDrop_4 : decode cX6_readDrop 4 = .ok (.invokevirtual 74, 3) := by decide +kernel
theorem dX6_readDrop_7 : decode cX6_readDrop 7 = .ok (.aload_n 0, 1) := by decide +kernel
theorem dX6_readDrop_8 : decode cX6_readDrop 8 = .ok (.getfield 12, 3) := by decide +kernel
theorem dX6_readDrop_11 : decode cX6_readDrop 11 = .ok (.getfield 67, 3) := by decide +kernel
theorem dX6_readDrop_14 : decode cX6_readDrop 14 = .ok (.istore_n 1, 1) := by decide +kernel
theorem dX6_readDrop_15 : decode cX6_readDrop 15 = .ok (.aload_n 0, 1) := by decide +kernel
theorem dX6_readDrop_16 : decode cX6_readDrop 16 = .ok (.invokevirtual 146, 3) := by decide +kernel
theorem dX6_readDrop_19 : decode cX6_readDrop 19 = .ok (.istore_n 2, 1) := by decide +kernel
theorem dX6_readDrop_20 : decode cX6_readDrop 20 = .ok (.iload_n 2, 1) := by decide +kernel
theorem dX6_readDrop_21 : decode cX6_readDrop 21 = .ok (.iconst (-1), 1) := by decide +kernel
theorem dX6_readDrop_22 : decode cX6_readDrop 22 = .ok (.if_icmp .ne 4, 3) := by decide +kernel
theorem dX6_readDrop_25 : decode cX6_readDrop 25 = .ok (.return_, 1) := by decide +kernel
theorem dX6_readDrop_26 : decode cX6_readDrop 26 = .ok (.aload_n 0, 1) := by decide +kernel
theorem dX6_readDrop_27 : decode cX6_readDrop 27 = .ok (.getfield 21, 3) := by decide +kernel
theorem dX6_readDrop_30 : decode cX6_readDrop 30 = .ok (.iload_n 2, 1) := by decide +kernel
theorem dX6_readDrop_31 : decode cX6_readDrop 31 = .ok (.invokevirtual 164, 3) := by decide +kernel
theorem dX6_readDrop_34 : decode cX6_readDrop 34 = .ok (.ifCond .eq 10, 3) := by decide +kernel
theorem dX6_readDrop_37 : decode cX6_readDrop 37 = .ok (.aload_n 0, 1) := by decide +kernel
theorem dX6_readDrop_38 : decode cX6_readDrop 38 = .ok (.iconst 4, 1) := by decide +kernel
theorem dX6_readDrop_39 : decode cX6_readDrop 39 = .ok (.iload_n 1, 1) := by decide +kernel
theorem dX6_readDrop_40 : decode cX6_readDrop 40 = .ok (.invokevirtual 70, 3) := by decide +kernel
theorem dX6_readDrop_43 : decode cX6_readDrop 43 = .ok (.return_, 1) := by decide +kernel
theorem dX6_readDrop_44 : decode cX6_readDrop 44 = .ok (.aload_n 0, 1) := by decide +kernel
theorem dX6_readDrop_45 : decode cX6_readDrop 45 = .ok (.getfield 21, 3) := by decide +kernel
theorem dX6_readDrop_48 : decode cX6_readDrop 48 = .ok (.iload_n 2, 1) := by decide +kernel
theorem dX6_readDrop_49 : decode cX6_readDrop 49 = .ok (.invokevirtual 168, 3) := by decide +kernel
theorem dX6_readDrop_52 : decode cX6_readDrop 52 = .ok (.return_, 1) := by decide +kernel
set_option maxRecDepth 20000 in
theorem ggX6_readNegate_X7_advance : GoodIn wsX6_readNegate wsX7_advance := goodIn_r _ [7, 8, 9, 10, 11, 12, 50, 51, 52, 53, 54] rfl (by decide +kernel)
set_option maxRecDepth 20000 in
theorem gX6_readNegate_X7_advance : GoodIn wsX6_readNegate (wsV RX6 74 RX7 yX7_advance wsX7_advance) := goodIn_app (goodIn_r _ [3, 4, 5, 6] rfl (by decide +kernel)) ggX6_readNegate_X7_advance
set_option maxRecDepth 20000 in
theorem ggX6_readNegate_X6_readVariable : GoodIn wsX6_readNegate wsX6_readVariable := goodIn_r _ [17, 1, 18, 2, 19, 20, 21, 22, 6, 23, 12, 8, 9, 10, 11, 24, 25, 26, 16, 27, 28, 29, 3, 4, 5, 7, 41, 42, 43, 44, 45, 46, 47, 48, 49, 50, 51, 52, 53, 54, 55, 56, 57, 58, 59, 60, 61, 62] rfl (by decide +kernel)
set_option maxRecDepth 20000 in
theorem gX6_readNegate_X6_readVariable : GoodIn wsX6_readNegate (wsV RX6 171 RX6 yX6_readVariable wsX6_readVariable) := goodIn_app (goodIn_r _ [13, 14, 15, 16] rfl (by decide +kernel)) ggX6_readNegate_X6_readVariable
set_option maxRecDepth 20000 in
theorem ggX6_readNegate_X0_negate : GoodIn wsX6_readNegate wsX0_negate := goodIn_r _ [34, 35, 36, 37, 38, 39, 40, 55, 56, 57, 58, 59, 60, 61, 62] rfl (by decide +kernel)
set_option maxRecDepth 20000 in
theorem gX6_readNegate_X0_negate : GoodIn wsX6_readNegate (wsV RX6 174 RX0 yX0_negate wsX0_negate) := goodIn_app (goodIn_r _ [30, 31, 32, 33] rfl (by decide +kernel)) ggX6_readNegate_X0_negate
theorem dX6_readNegate_0 : decode cX6_readNegate 0 = .ok (.aload_n 0, 1) := by decide +kernel
theorem dX6_readNegate_1 : decode cX6_readNegate 1 = .ok (.getfield 12, 3) := by decide +kernel
theorem dX6_readNegate_4 : decode cX6_readNegate 4 = .ok (.invokevirtual 74, 3) := by decide +kernel
theorem dX6_readNegate_7 : decode cX6_readNegate 7 = .ok (.aload_n 0, 1) := by decide +kernel
theorem dX6_readNegate_8 : decode cX6_readNegate 8 = .ok (.invokevirtual 171, 3) := by decide +kernel
theorem dX6_readNegate_11 : decode cX6_readNegate 11 = .ok (.istore_n 1, 1) := by decide +kernel
theorem dX6_readNegate_12 : decode cX6_readNegate 12 = .ok (.iload_n 1, 1) := by decide +kernel
theorem dX6_readNegate_13 : decode cX6_readNegate 13 = .ok (.iconst (-1), 1) := by decide +kernel
theorem dX6_readNegate_14 : decode cX6_readNegate 14 = .ok (.if_icmp .eq 11, 3) := by decide +kernel
theorem dX6_readNegate_17 : decode cX6_readNegate 17 = .ok (.aload_n 0, 1) := by decide +kernel
theorem dX6_readNegate_18 : decode cX6_readNegate 18 = .ok (.getfield 21, 3) := by decide +kernel
theorem dX6_readNegate_21 : decode cX6_readNegate 21 = .ok (.iload_n 1, 1) := by decide +kernel
theorem dX6_readNegate_22 : decode cX6_readNegate 22 = .ok (.invokevirtual 174, 3) := by decide +kernel
theorem dX6_readNegate_25 : decode cX6_readNegate 25 = .ok (.return_, 1) := by decide +kernel
set_option maxRecDepth 20000 in
theorem ggX6_readInvert_X7_advance : GoodIn wsX6_readInvert wsX7_advance := goodIn_r _ [8, 9, 10, 11, 12, 13, 42, 43, 44, 45, 46] rfl (by decide +kernel)
set_option maxRecDepth 20000 in
theorem gX6_readInvert_X7_advance : GoodIn wsX6_readInvert (wsV RX6 74 RX7 yX7_advance wsX7_advance) := goodIn_app (goodIn_r _ [4, 5, 6, 7] rfl (by decide +kernel)) ggX6_readInvert_X7_advance
set_option maxRecDepth 20000 in
theorem ggX6_readInvert_X0_negate : GoodIn wsX6_readInvert wsX0_negate := goodIn_r _ [18, 19, 20, 21, 22, 23, 24, 34, 35, 36, 37, 38, 39, 40, 41] rfl (by decide +kernel)
set_option maxRecDepth 20000 in
theorem gX6_readInvert_X0_negate : GoodIn wsX6_readInvert (wsV RX6 174 RX0 yX0_negate wsX0_negate) := goodIn_app (goodIn_r _ [14, 15, 16, 17] rfl (by decide +kernel)) ggX6_readInvert_X0_negate
theorem dX6_readInvert_0 : decode cX6_readInvert 0 = .ok (.aload_n 0, 1) := by decide +kernel
theorem dX6_readInvert_1 : decode cX6_readInvert 1 = .ok (.getfield 12, 3) := by decide +kernel
theorem dX6_readInvert_4 : decode cX6_readInvert 4 = .ok (.invokevirtual 74, 3) := by decide +kernel
theorem dX6_readInvert_7 : decode cX6_readInvert 7 = .ok (.iconst 0, 1) := by decide +kernel
theorem dX6_readInvert_8 : decode cX6_readInvert 8 = .ok (.istore_n 1, 1) := by decide +kernel
theorem dX6_readInvert_9 : decode cX6_readInvert 9 = .ok (.iload_n 1, 1) := by decide +kernel
theorem dX6_readInvert_10 : decode cX6_readInvert 10 = .ok (.aload_n 0, 1) := by decide +kernel
theorem dX6_readInvert_11 : decode cX6_readInvert 11 = .ok (.getfield 21, 3) := by decide +kernel
theorem dX6_readInvert_14 : decode cX6_readInvert 14 = .ok (.getfield 176, 3) := by decide +kernel
theorem dX6_readInvert_17 : decode cX6_readInvert 17 = .ok (.if_icmp .ge 17, 3) := by decide +kernel
theorem dX6_readInvert_20 : decode cX6_readInvert 20 = .ok (.aload_n 0, 1) := by decide +kernel
theorem dX6_readInvert_21 : decode cX6_readInvert 21 = .ok (.getfield 21, 3) := by decide +kernel
theorem dX6_readInvert_24 : decode cX6_readInvert 24 = .ok (.iload_n 1, 1) := by decide +kernel
theorem dX6_readInvert_25 : decode cX6_readInvert 25 = .ok (.invokevirtual 174, 3) := by decide +kernel
theorem dX6_readInvert_28 : decode cX6_readInvert 28 = .ok (.iinc 1 1, 3) := by decide +kernel
theorem dX6_readInvert_31 : decode cX6_readInvert 31 = .ok (.goto (-22), 3) := by decide +kernel
theorem dX6_readInvert_34 : decode cX6_readInvert 34 = .ok (.return_, 1) := by decide +kernel
set_option maxRecDepth 20000 in
theorem ggX6_readReduce_X7_advance : GoodIn wsX6_readReduce wsX7_advance := goodIn_r _ [7, 8, 9, 10, 11, 12, 54, 55, 56, 57, 58] rfl (by decide +kernel)
set_option maxRecDepth 20000 in
theorem gX6_readReduce_X7_advance : GoodIn wsX6_readReduce (wsV RX6 74 RX7 yX7_advance wsX7_advance) := goodIn_app (goodIn_r _ [3, 4, 5, 6] rfl (by decide +kernel)) ggX6_readReduce_X7_advance
set_option maxRecDepth 20000 in
theorem ggX6_readReduce_X0_removeSubsumed : GoodIn wsX6_readReduce wsX0_removeSubsumed := goodIn_r _ [17, 18, 19, 20, 16, 21, 22, 23, 24, 25, 26, 27, 28, 29, 30, 31, 32, 33, 34, 35, 36, 37, 38, 39, 40, 41, 42, 43, 44, 59, 60, 61, 62, 63, 64, 65, 66] rfl (by decide +kernel)
set_option maxRecDepth 20000 in
theorem gX6_readReduce_X0_removeSubsumed : GoodIn wsX6_readReduce (wsV RX6 179 RX0 yX0_removeSubsumed wsX0_removeSubsumed) := goodIn_app (goodIn_r _ [13, 14, 15, 16] rfl (by decide +kernel)) ggX6_readReduce_X0_removeSubsumed
theorem dX6_readReduce_0 : decode cX6_readReduce 0 = .ok (.aload_n 0, 1) := by decide +kernel
theorem dX6_readReduce_1 : decode cX6_readReduce 1 = .ok (.getfield 12, 3) := by decide +kernel
theorem dX6_readReduce_4 : decode cX6_readReduce 4 = .ok (.invokevirtual 74, 3) := by decide +kernel
theorem dX6_readReduce_7 : decode cX6_readReduce 7 = .ok (.aload_n 0, 1) := by decide +kernel
theorem dX6_readReduce_8 : decode cX6_readReduce 8 = .ok (.getfield 21, 3) := by decide +kernel
theorem dX6_readReduce_11 : decode cX6_readReduce 11 = .ok (.invokevirtual 179, 3) := by decide +kernel
theorem dX6_readReduce_14 : decode cX6_readReduce 14 = .ok (.pop, 1) := by decide +kernel
theorem dX6_readReduce_15 : decode cX6_readReduce 15 = .ok (.return_, 1) := by decide +kernel
set_option maxRecDepth 20000 in
theorem ggX6_readCondition_X6_passWord : GoodIn wsX6_readCondition wsX6_passWord := goodIn_r _ [12, 6, 13, 14, 15, 16, 17, 18, 19, 20, 21, 22, 23, 24, 25, 26, 27, 28, 29, 30, 31, 32, 33, 34, 35, 36, 37, 38, 39, 40, 41, 42, 43, 44, 45, 46, 47, 48, 49, 50, 51, 52, 53, 54, 55, 56, 57, 58, 59, 60, 61, 62, 63, 64, 65, 66, 67, 68, 69, 70, 71, 72, 73, 74, 75, 194, 195, 196, 197, 198, 199, 200, 201, 202, 211, 212, 213, 214, 215] rfl (by decide +kernel)
set_option maxRecDepth 20000 in
theorem gX6_readCondition_X6_passWord : GoodIn wsX6_readCondition (wsV RX6 184 RX6 yX6_passWord wsX6_passWord) := goodIn_app (goodIn_r _ [8, 9, 10, 11] rfl (by decide +kernel)) ggX6_readCondition_X6_passWord
set_option maxRecDepth 20000 in
theorem ggX6_readCondition_X6_readValue : GoodIn wsX6_readCondition wsX6_readValue := goodIn_r _ [79, 80, 81, 82, 11, 83, 6, 84, 7, 85, 86, 87, 88, 89, 90, 91, 92, 93, 94, 95, 96, 97, 16, 98, 19, 20, 21, 22, 72, 73, 74, 75, 18, 194, 195, 196, 197, 198, 199, 200, 201, 202, 211, 212, 213, 214, 215] rfl (by decide +kernel)
set_option maxRecDepth 20000 in
theorem gX6_readCondition_X6_readValue : GoodIn wsX6_readCondition (wsV RX6 187 RX6 yX6_readValue wsX6_readValue) := goodIn_app (goodIn_r _ [76, 77, 78, 11] rfl (by decide +kernel)) ggX6_readCondition_X6_readValue
set_option maxRecDepth 20000 in
theorem ggX6_readCondition_X2_count : GoodIn wsX6_readCondition wsX2_count := goodIn_r _ [102, 103, 104, 105, 106, 107, 108, 109, 110, 101, 111, 112, 113, 114, 115, 116, 117, 118, 203, 204, 205, 206, 207, 208, 209, 210] rfl (by decide +kernel)
set_option maxRecDepth 20000 in
theorem gX6_readCondition_X2_count : GoodIn wsX6_readCondition (va_wsS RX6 195 yX2_count wsX2_count) := goodIn_app (goodIn_r _ [99, 100, 101] rfl (by decide +kernel)) ggX6_readCondition_X2_count
set_option maxRecDepth 20000 in
theorem ggX6_readCondition_X0_indexOf : GoodIn wsX6_readCondition wsX0_indexOf := goodIn_r _ [122, 123, 117, 118, 203, 204, 205, 206, 207, 208, 209, 210] rfl (by decide +kernel)
set_option maxRecDepth 20000 in
theorem gX6_readCondition_X0_indexOf : GoodIn wsX6_readCondition (wsV RX6 140 RX0 yX0_indexOf wsX0_indexOf) := goodIn_app (goodIn_r _ [119, 120, 121, 106] rfl (by decide +kernel)) ggX6_readCondition_X0_indexOf
set_option maxRecDepth 20000 in
theorem ggX6_readCondition_X6_readLiterals : GoodIn wsX6_readCondition wsX6_readLiterals := goodIn_r _ [127, 3, 4, 6, 84, 85, 86, 87, 11, 88, 89, 128, 129, 130, 131, 7, 72, 73, 74, 16, 75, 19, 20, 21, 22, 18, 132, 133, 134, 135, 1, 136, 137, 138, 139, 140, 90, 91, 92, 93, 94, 194, 195, 196, 197, 198, 199, 200, 201, 202, 211, 212, 213, 214, 215, 203, 204, 205, 206, 207, 208, 209, 210] rfl (by decide +kernel)
set_option maxRecDepth 20000 in
theorem gX6_readCondition_X6_readLiterals : GoodIn wsX6_readCondition (wsV RX6 137 RX6 yX6_readLiterals wsX6_readLiterals) := goodIn_app (goodIn_r _ [124, 125, 126, 11] rfl (by decide +kernel)) ggX6_readCondition_X6_readLiterals
set_option maxRecDepth 20000 in
theorem ggX6_readCondition_X2_imply : GoodIn wsX6_readCondition wsX2_imply := goodIn_r _ [143, 103, 104, 105, 106, 107, 108, 109, 110, 101, 111, 112, 113, 114, 115, 116, 117, 118, 203, 204, 205, 206, 207, 208, 209, 210] rfl (by decide +kernel)
set_option maxRecDepth 20000 in
theorem gX6_readCondition_X2_imply : GoodIn wsX6_readCondition (va_wsS RX6 206 yX2_imply wsX2_imply) := goodIn_app (goodIn_r _ [141, 142, 101] rfl (by decide +kernel)) ggX6_readCondition_X2_imply
set_option maxRecDepth 20000 in
theorem ggX6_readCondition_X6_readFixed : GoodIn wsX6_readCondition wsX6_readFixed := goodIn_r _ [147, 3, 4, 148, 1, 149, 150, 128, 129, 130, 11, 131, 6, 84, 7, 72, 73, 74, 16, 75, 19, 20, 21, 22, 18, 132, 133, 134, 135, 136, 137, 138, 139, 140, 90, 91, 92, 93, 89, 94, 151, 152, 153, 154, 155, 156, 157, 158, 159, 160, 161, 162, 163, 164, 165, 166, 167, 106, 168, 117, 118, 169, 170, 171, 172, 173, 174, 175, 176, 194, 195, 196, 197, 198, 199, 200, 201, 202, 216, 217, 211, 212, 213, 214, 215, 203, 204, 205, 206, 207, 208, 209, 210] rfl (by decide +kernel)
set_option maxRecDepth 20000 in
theorem gX6_readCondition_X6_readFixed : GoodIn wsX6_readCondition (wsV RX6 212 RX6 yX6_readFixed wsX6_readFixed) := goodIn_app (goodIn_r _ [144, 145, 146, 11] rfl (by decide +kernel)) ggX6_readCondition_X6_readFixed
set_option maxRecDepth 20000 in
theorem ggX6_readCondition_X0_countSubsumed : GoodIn wsX6_readCondition wsX0_countSubsumed := goodIn_r _ [180, 123, 181, 182, 183, 106, 184, 117, 118, 185, 186, 187, 188, 203, 204, 205, 206, 207, 208, 209, 210] rfl (by decide +kernel)
set_option maxRecDepth 20000 in
theorem gX6_readCondition_X0_countSubsumed : GoodIn wsX6_readCondition (wsV RX6 217 RX0 yX0_countSubsumed wsX0_countSubsumed) := goodIn_app (goodIn_r _ [177, 178, 179, 106] rfl (by decide +kernel)) ggX6_readCondition_X0_countSubsumed
set_option maxRecDepth 20000 in
theorem ggX6_readCondition_X6_readClauseNumber : GoodIn wsX6_readCondition wsX6_readClauseNumber := goodIn_r _ [192, 1, 2, 80, 81, 82, 11, 83, 6, 84, 7, 85, 86, 87, 88, 89, 90, 91, 92, 93, 94, 95, 96, 97, 16, 98, 19, 20, 21, 22, 72, 73, 74, 75, 18, 194, 195, 196, 197, 198, 199, 200, 201, 202, 203, 204, 205, 206, 207, 208, 209, 210, 211, 212, 213, 214, 215] rfl (by decide +kernel)
set_option maxRecDepth 20000 in
theorem gX6_readCondition_X6_readClauseNumber : GoodIn wsX6_readCondition (wsV RX6 146 RX6 yX6_readClauseNumber wsX6_readClauseNumber) := goodIn_app (goodIn_r _ [189, 190, 191, 11] rfl (by decide +kernel)) ggX6_readCondition_X6_readClauseNumber
set_option maxRecDepth 20000 in
theorem ggX6_readCondition_X0_literalsIn : GoodIn wsX6_readCondition wsX0_literalsIn := goodIn_r _ [168, 117, 118, 169, 170, 171, 172, 173, 174, 175, 203, 204, 205, 206, 207, 208, 209, 210] rfl (by decide +kernel)
set_option maxRecDepth 20000 in
theorem gX6_readCondition_X0_literalsIn : GoodIn wsX6_readCondition (wsV RX6 222 RX0 yX0_literalsIn wsX0_literalsIn) := goodIn_app (goodIn_r _ [193, 166, 167, 106] rfl (by decide +kernel)) ggX6_readCondition_X0_literalsIn
set_option maxRecDepth 20000 in
theorem ggX6_readCondition_X6_fail : GoodIn wsX6_readCondition wsX6_fail := goodIn_r _ [93, 89, 94, 194, 195, 196, 197, 198, 199, 200, 201, 202] rfl (by decide +kernel)
set_option maxRecDepth 20000 in
theorem gX6_readCondition_X6_fail : GoodIn wsX6_readCondition (wsV RX6 70 RX6 yX6_fail wsX6_fail) := goodIn_app (goodIn_r _ [90, 91, 92, 11] rfl (by decide +kernel)) ggX6_readCondition_X6_fail
theorem dX6_readCondition_0 : decode cX6_readCondition 0 = .ok (.aload_n 0, 1) := by decide +kernel
theorem dX6_readCondition_1 : decode cX6_readCondition 1 = .ok (.ldc 182, 2) := by decide +kernel
theorem dX6_readCondition_3 : decode cX6_readCondition 3 = .ok (.invokevirtual 184, 3) := by decide +kernel
theorem dX6_readCondition_6 : decode cX6_readCondition 6 = .ok (.ifCond .eq 23, 3) := by decide +kernel
theorem dX6_readCondition_9 : decode cX6_readCondition 9 = .ok (.aload_n 0, 1) := by decide +kernel
theorem dX6_readCondition_10 : decode cX6_readCondition 10 = .ok (.invokevirtual 187, 3) := by decide +kernel
theorem dX6_readCondition_13 : decode cX6_readCondition 13 = .ok (.aload_n 0, 1) := by decide +kernel
theorem dX6_readCondition_14 : decode cX6_readCondition 14 = .ok (.getfield 21, 3) := by decide +kernel
theorem dX6_readCondition_17 : decode cX6_readCondition 17 = .ok (.getfield 190, 3) := by decide +kernel
theorem dX6_readCondition_20 : decode cX6_readCondition 20 = .ok (.if_icmp .ne 7, 3) := by decide +kernel
theorem dX6_readCondition_23 : decode cX6_readCondition 23 = .ok (.iconst 1, 1) := by decide +kernel
theorem dX6_readCondition_24 : decode cX6_readCondition 24 = .ok (.goto 4, 3) := by decide +kernel
theorem dX6_readCondition_27 : decode cX6_readCondition 27 = .ok (.iconst 0, 1) := by decide +kernel
theorem dX6_readCondition_28 : decode cX6_readCondition 28 = .ok (.ireturn, 1) := by decide +kernel
theorem dX6_readCondition_29 : decode cX6_readCondition 29 = .ok (.aload_n 0, 1) := by decide +kernel
theorem dX6_readCondition_30 : decode cX6_readCondition 30 = .ok (.ldc 193, 2) := by decide +kernel
theorem dX6_readCondition_32 : decode cX6_readCondition 32 = .ok (.invokevirtual 184, 3) := by decide +kernel
theorem dX6_readCondition_35 : decode cX6_readCondition 35 = .ok (.ifCond .eq 23, 3) := by decide +kernel
theorem dX6_readCondition_38 : decode cX6_readCondition 38 = .ok (.aload_n 0, 1) := by decide +kernel
theorem dX6_readCondition_39 : decode cX6_readCondition 39 = .ok (.invokevirtual 187, 3) := by decide +kernel
theorem dX6_readCondition_42 : decode cX6_readCondition 42 = .ok (.aload_n 0, 1) := by decide +kernel
theorem dX6_readCondition_43 : decode cX6_readCondition 43 = .ok (.getfield 21, 3) := by decide +kernel
theorem dX6_readCondition_46 : decode cX6_readCondition 46 = .ok (.invokestatic 195, 3) := by decide +kernel
theorem dX6_readCondition_49 : decode cX6_readCondition 49 = .ok (.if_icmp .ne 7, 3) := by decide +kernel
theorem dX6_readCondition_52 : decode cX6_readCondition 52 = .ok (.iconst 1, 1) := by decide +kernel
theorem dX6_readCondition_53 : decode cX6_readCondition 53 = .ok (.goto 4, 3) := by decide +kernel
theorem dX6_readCondition_56 : decode cX6_readCondition 56 = .ok (.iconst 0, 1) := by decide +kernel
theorem dX6_readCondition_57 : decode cX6_readCondition 57 = .ok (.ireturn, 1) := by decide +kernel
theorem dX6_readCondition_58 : decode cX6_readCondition 58 = .ok (.aload_n 0, 1) := by decide +kernel
theorem dX6_readCondition_59 : decode cX6_readCondition 59 = .ok (.ldc 200, 2) := by decide +kernel
theorem dX6_readCondition_61 : decode cX6_readCondition 61 = .ok (.invokevirtual 184, 3) := by decide +kernel
theorem dX6_readCondition_64 : decode cX6_readCondition 64 = .ok (.ifCond .eq 22, 3) := by decide +kernel
theorem dX6_readCondition_67 : decode cX6_readCondition 67 = .ok (.aload_n 0, 1) := by decide +kernel
theorem dX6_readCondition_68 : decode cX6_readCondition 68 = .ok (.getfield 21, 3) := by decide +kernel
theorem dX6_readCondition_71 : decode cX6_readCondition 71 = .ok (.iconst 0, 1) := by decide +kernel
theorem dX6_readCondition_72 : decode cX6_readCondition 72 = .ok (.iconst 0, 1) := by decide +kernel
theorem dX6_readCondition_73 : decode cX6_readCondition 73 = .ok (.invokevirtual 140, 3) := by decide +kernel
theorem dX6_readCondition_76 : decode cX6_readCondition 76 = .ok (.iconst (-1), 1) := by decide +kernel
theorem dX6_readCondition_77 : decode cX6_readCondition 77 = .ok (.if_icmp .eq 7, 3) := by decide +kernel
theorem dX6_readCondition_80 : decode cX6_readCondition 80 = .ok (.iconst 1, 1) := by decide +kernel
theorem dX6_readCondition_81 : decode cX6_readCondition 81 = .ok (.goto 4, 3) := by decide +kernel
theorem dX6_readCondition_84 : decode cX6_readCondition 84 = .ok (.iconst 0, 1) := by decide +kernel
theorem dX6_readCondition_85 : decode cX6_readCondition 85 = .ok (.ireturn, 1) := by decide +kernel
theorem dX6_readCondition_86 : decode cX6_readCondition 86 = .ok (.aload_n 0, 1) := by decide +kernel
theorem dX6_readCondition_87 : decode cX6_readCondition 87 = .ok (.ldc 202, 2) := by decide +kernel
theorem dX6_readCondition_89 : decode cX6_readCondition 89 = .ok (.invokevirtual 184, 3) := by decide +kernel
theorem dX6_readCondition_92 : decode cX6_readCondition 92 = .ok (.ifCond .eq 22, 3) := by decide +kernel
theorem dX6_readCondition_95 : decode cX6_readCondition 95 = .ok (.aload_n 0, 1) := by decide +kernel
theorem dX6_readCondition_96 : decode cX6_readCondition 96 = .ok (.getfield 21, 3) := by decide +kernel
theorem dX6_readCondition_99 : decode cX6_readCondition 99 = .ok (.iconst 0, 1) := by decide +kernel
theorem dX6_readCondition_100 : decode cX6_readCondition 100 = .ok (.iconst 0, 1) := by decide +kernel
theorem dX6_readCondition_101 : decode cX6_readCondition 101 = .ok (.invokevirtual 140, 3) := by decide +kernel
theorem dX6_readCondition_104 : decode cX6_readCondition 104 = .ok (.iconst (-1), 1) := by decide +kernel
theorem dX6_readCondition_105 : decode cX6_readCondition 105 = .ok (.if_icmp .ne 7, 3) := by decide +kernel
theorem dX6_readCondition_108 : decode cX6_readCondition 108 = .ok (.iconst 1, 1) := by decide +kernel
theorem dX6_readCondition_109 : decode cX6_readCondition 109 = .ok (.goto 4, 3) := by decide +kernel
theorem dX6_readCondition_112 : decode cX6_readCondition 112 = .ok (.iconst 0, 1) := by decide +kernel
theorem dX6_readCondition_113 : decode cX6_readCondition 113 = .ok (.ireturn, 1) := by decide +kernel
theorem dX6_readCondition_114 : decode cX6_readCondition 114 = .ok (.aload_n 0, 1) := by decide +kernel
theorem dX6_readCondition_115 : decode cX6_readCondition 115 = .ok (.ldc 204, 2) := by decide +kernel
theorem dX6_readCondition_117 : decode cX6_readCondition 117 = .ok (.invokevirtual 184, 3) := by decide +kernel
theorem dX6_readCondition_120 : decode cX6_readCondition 120 = .ok (.ifCond .eq 24, 3) := by decide +kernel
theorem dX6_readCondition_123 : decode cX6_readCondition 123 = .ok (.aload_n 0, 1) := by decide +kernel
theorem dX6_readCondition_124 : decode cX6_readCondition 124 = .ok (.invokevirtual 137, 3) := by decide +kernel
theorem dX6_readCondition_127 : decode cX6_readCondition 127 = .ok (.aload_n 0, 1) := by decide +kernel
theorem dX6_readCondition_128 : decode cX6_readCondition 128 = .ok (.getfield 21, 3) := by decide +kernel
theorem dX6_readCondition_131 : decode cX6_readCondition 131 = .ok (.aload_n 0, 1) := by decide +kernel
theorem dX6_readCondition_132 : decode cX6_readCondition 132 = .ok (.getfield 49, 3) := by decide +kernel
theorem dX6_readCondition_135 : decode cX6_readCondition 135 = .ok (.aload_n 0, 1) := by decide +kernel
theorem dX6_readCondition_136 : decode cX6_readCondition 136 = .ok (.getfield 52, 3) := by decide +kernel
theorem dX6_readCondition_139 : decode cX6_readCondition 139 = .ok (.iconst (-1), 1) := by decide +kernel
theorem dX6_readCondition_140 : decode cX6_readCondition 140 = .ok (.invokestatic 206, 3) := by decide +kernel
theorem dX6_readCondition_143 : decode cX6_readCondition 143 = .ok (.ireturn, 1) := by decide +kernel
theorem dX6_readCondition_144 : decode cX6_readCondition 144 = .ok (.aload_n 0, 1) := by decide +kernel
theorem dX6_readCondition_145 : decode cX6_readCondition 145 = .ok (.ldc 210, 2) := by decide +kernel
theorem dX6_readCondition_147 : decode cX6_readCondition 147 = .ok (.invokevirtual 184, 3) := by decide +kernel
theorem dX6_readCondition_150 : decode cX6_readCondition 150 = .ok (.ifCond .eq 8, 3) := by decide +kernel
theorem dX6_readCondition_153 : decode cX6_readCondition 153 = .ok (.aload_n 0, 1) := by decide +kernel
theorem dX6_readCondition_154 : decode cX6_readCondition 154 = .ok (.invokevirtual 212, 3) := by decide +kernel
theorem dX6_readCondition_157 : decode cX6_readCondition 157 = .ok (.ireturn, 1) := by decide +kernel
theorem dX6_readCondition_158 : decode cX6_readCondition 158 = .ok (.aload_n 0, 1) := by decide +kernel
theorem dX6_readCondition_159 : decode cX6_readCondition 159 = .ok (.ldc 215, 2) := by decide +kernel
theorem dX6_readCondition_161 : decode cX6_readCondition 161 = .ok (.invokevirtual 184, 3) := by decide +kernel
theorem dX6_readCondition_164 : decode cX6_readCondition 164 = .ok (.ifCond .eq 23, 3) := by decide +kernel
theorem dX6_readCondition_167 : decode cX6_readCondition 167 = .ok (.aload_n 0, 1) := by decide +kernel
theorem dX6_readCondition_168 : decode cX6_readCondition 168 = .ok (.invokevirtual 187, 3) := by decide +kernel
theorem dX6_readCondition_171 : decode cX6_readCondition 171 = .ok (.aload_n 0, 1) := by decide +kernel
theorem dX6_readCondition_172 : decode cX6_readCondition 172 = .ok (.getfield 21, 3) := by decide +kernel
theorem dX6_readCondition_175 : decode cX6_readCondition 175 = .ok (.invokevirtual 217, 3) := by decide +kernel
theorem dX6_readCondition_178 : decode cX6_readCondition 178 = .ok (.if_icmp .ne 7, 3) := by decide +kernel
theorem dX6_readCondition_181 : decode cX6_readCondition 181 = .ok (.iconst 1, 1) := by decide +kernel
theorem dX6_readCondition_182 : decode cX6_readCondition 182 = .ok (.goto 4, 3) := by decide +kernel
theorem dX6_readCondition_185 : decode cX6_readCondition 185 = .ok (.iconst 0, 1) := by decide +kernel
theorem dX6_readCondition_186 : decode cX6_readCondition 186 = .ok (.ireturn, 1) := by decide +kernel
theorem dX6_readCondition_187 : decode cX6_readCondition 187 = .ok (.aload_n 0, 1) := by decide +kernel
theorem dX6_readCondition_188 : decode cX6_readCondition 188 = .ok (.ldc 220, 2) := by decide +kernel
theorem dX6_readCondition_190 : decode cX6_readCondition 190 = .ok (.invokevirtual 184, 3) := by decide +kernel
theorem dX6_readCondition_193 : decode cX6_readCondition 193 = .ok (.ifCond .eq 36, 3) := by decide +kernel
theorem dX6_readCondition_196 : decode cX6_readCondition 196 = .ok (.aload_n 0, 1) := by decide +kernel
theorem dX6_readCondition_197 : decode cX6_readCondition 197 = .ok (.invokevirtual 146, 3) := by decide +kernel
theorem dX6_readCondition_200 : decode cX6_readCondition 200 = .ok (.istore_n 1, 1) := by decide +kernel
theorem dX6_readCondition_201 : decode cX6_readCondition 201 = .ok (.aload_n 0, 1) := by decide +kernel
theorem dX6_readCondition_202 : decode cX6_readCondition 202 = .ok (.invokevirtual 187, 3) := by decide +kernel
theorem dX6_readCondition_205 : decode cX6_readCondition 205 = .ok (.istore_n 2, 1) := by decide +kernel
theorem dX6_readCondition_206 : decode cX6_readCondition 206 = .ok (.iload_n 1, 1) := by decide +kernel
theorem dX6_readCondition_207 : decode cX6_readCondition 207 = .ok (.iconst (-1), 1) := by decide +kernel
theorem dX6_readCondition_208 : decode cX6_readCondition 208 = .ok (.if_icmp .eq 19, 3) := by decide +kernel
theorem dX6_readCondition_211 : decode cX6_readCondition 211 = .ok (.aload_n 0, 1) := by decide +kernel
theorem dX6_readCondition_212 : decode cX6_readCondition 212 = .ok (.getfield 21, 3) := by decide +kernel
theorem dX6_readCondition_215 : decode cX6_readCondition 215 = .ok (.iload_n 1, 1) := by decide +kernel
theorem dX6_readCondition_216 : decode cX6_readCondition 216 = .ok (.invokevirtual 222, 3) := by decide +kernel
theorem dX6_readCondition_219 : decode cX6_readCondition 219 = .ok (.iload_n 2, 1) := by decide +kernel
theorem dX6_readCondition_220 : decode cX6_readCondition 220 = .ok (.if_icmp .ne 7, 3) := by decide +kernel
theorem dX6_readCondition_223 : decode cX6_readCondition 223 = .ok (.iconst 1, 1) := by decide +kernel
theorem dX6_readCondition_224 : decode cX6_readCondition 224 = .ok (.goto 4, 3) := by decide +kernel
theorem dX6_readCondition_227 : decode cX6_readCondition 227 = .ok (.iconst 0, 1) := by decide +kernel
theorem dX6_readCondition_228 : decode cX6_readCondition 228 = .ok (.ireturn, 1) := by decide +kernel
theorem dX6_readCondition_229 : decode cX6_readCondition 229 = .ok (.aload_n 0, 1) := by decide +kernel
theorem dX6_readCondition_230 : decode cX6_readCondition 230 = .ok (.ldc 226, 2) := by decide +kernel
theorem dX6_readCondition_232 : decode cX6_readCondition 232 = .ok (.invokevirtual 184, 3) := by decide +kernel
theorem dX6_readCondition_235 : decode cX6_readCondition 235 = .ok (.ifCond .eq 37, 3) := by decide +kernel
theorem dX6_readCondition_238 : decode cX6_readCondition 238 = .ok (.aload_n 0, 1) := by decide +kernel
theorem dX6_readCondition_239 : decode cX6_readCondition 239 = .ok (.invokevirtual 146, 3) := by decide +kernel
theorem dX6_readCondition_242 : decode cX6_readCondition 242 = .ok (.istore_n 1, 1) := by decide +kernel
theorem dX6_readCondition_243 : decode cX6_readCondition 243 = .ok (.aload_n 0, 1) := by decide +kernel
theorem dX6_readCondition_244 : decode cX6_readCondition 244 = .ok (.invokevirtual 187, 3) := by decide +kernel
theorem dX6_readCondition_247 : decode cX6_readCondition 247 = .ok (.istore_n 2, 1) := by decide +kernel
theorem dX6_readCondition_248 : decode cX6_readCondition 248 = .ok (.iload_n 1, 1) := by decide +kernel
theorem dX6_readCondition_249 : decode cX6_readCondition 249 = .ok (.iconst (-1), 1) := by decide +kernel
theorem dX6_readCondition_250 : decode cX6_readCondition 250 = .ok (.if_icmp .eq 20, 3) := by decide +kernel
theorem dX6_readCondition_253 : decode cX6_readCondition 253 = .ok (.aload_n 0, 1) := by decide +kernel
theorem dX6_readCondition_254 : decode cX6_readCondition 254 = .ok (.getfield 21, 3) := by decide +kernel
theorem dX6_readCondition_257 : decode cX6_readCondition 257 = .ok (.getfield 228, 3) := by decide +kernel
theorem dX6_readCondition_260 : decode cX6_readCondition 260 = .ok (.iload_n 1, 1) := by decide +kernel
theorem dX6_readCondition_261 : decode cX6_readCondition 261 = .ok (.iaload, 1) := by decide +kernel
theorem dX6_readCondition_262 : decode cX6_readCondition 262 = .ok (.iload_n 2, 1) := by decide +kernel
theorem dX6_readCondition_263 : decode cX6_readCondition 263 = .ok (.if_icmp .ne 7, 3) := by decide +kernel
theorem dX6_readCondition_266 : decode cX6_readCondition 266 = .ok (.iconst 1, 1) := by decide +kernel
theorem dX6_readCondition_267 : decode cX6_readCondition 267 = .ok (.goto 4, 3) := by decide +kernel
theorem dX6_readCondition_270 : decode cX6_readCondition 270 = .ok (.iconst 0, 1) := by decide +kernel
theorem dX6_readCondition_271 : decode cX6_readCondition 271 = .ok (.ireturn, 1) := by decide +kernel
theorem dX6_readCondition_272 : decode cX6_readCondition 272 = .ok (.aload_n 0, 1) := by decide +kernel
theorem dX6_readCondition_273 : decode cX6_readCondition 273 = .ok (.iconst 1, 1) := by decide +kernel
theorem dX6_readCondition_274 : decode cX6_readCondition 274 = .ok (.aload_n 0, 1) := by decide +kernel
theorem dX6_readCondition_275 : decode cX6_readCondition 275 = .ok (.getfield 12, 3) := by decide +kernel
theorem dX6_readCondition_278 : decode cX6_readCondition 278 = .ok (.getfield 67, 3) := by decide +kernel
theorem dX6_readCondition_281 : decode cX6_readCondition 281 = .ok (.invokevirtual 70, 3) := by decide +kernel
theorem dX6_readCondition_284 : decode cX6_readCondition 284 = .ok (.iconst 0, 1) := by decide +kernel
theorem dX6_readCondition_285 : decode cX6_readCondition 285 = .ok (.ireturn, 1) := by decide +kernel
set_option maxRecDepth 20000 in
theorem ggX6_passWord_X7_isWord : GoodIn wsX6_passWord wsX7_isWord := goodIn_r _ [6, 7, 8, 9, 10, 11, 12, 13, 14, 15, 16, 17, 18, 19, 20, 21, 22, 23, 24, 25, 26, 27, 28, 29, 30, 31, 32, 33, 34, 35, 36, 37, 38, 39, 40, 41, 42, 43, 44, 45, 46, 47, 48, 49, 50, 51, 52, 53, 54, 55, 56, 57, 58, 59, 60, 74, 75, 76, 77, 78] rfl (by decide +kernel)
set_option maxRecDepth 20000 in
theorem gX6_passWord_X7_isWord : GoodIn wsX6_passWord (wsV RX6 63 RX7 yX7_isWord wsX7_isWord) := goodIn_app (goodIn_r _ [2, 3, 4, 5] rfl (by decide +kernel)) ggX6_passWord_X7_isWord
set_option maxRecDepth 20000 in
theorem ggX6_passWord_X7_advance : GoodIn wsX6_passWord wsX7_advance := goodIn_r _ [64, 8, 9, 10, 11, 7, 74, 75, 76, 77, 78] rfl (by decide +kernel)
set_option maxRecDepth 20000 in
theorem gX6_passWord_X7_advance : GoodIn wsX6_passWord (wsV RX6 74 RX7 yX7_advance wsX7_advance) := goodIn_app (goodIn_r _ [61, 62, 63, 5] rfl (by decide +kernel)) ggX6_passWord_X7_advance
theorem dX6_passWord_0 : decode cX6_passWord 0 = .ok (.aload_n 0, 1) := by decide +kernel
theorem dX6_passWord_1 : decode cX6_passWord 1 = .ok (.getfield 12, 3) := by decide +kernel
theorem dX6_passWord_4 : decode cX6_passWord 4 = .ok (.aload_n 1, 1) := by decide +kernel
theorem dX6_passWord_5 : decode cX6_passWord 5 = .ok (.invokevirtual 63, 3) := by decide +kernel
theorem dX6_passWord_8 : decode cX6_passWord 8 = .ok (.istore_n 2, 1) := by decide +kernel
theorem dX6_passWord_9 : decode cX6_passWord 9 = .ok (.iload_n 2, 1) := by decide +kernel
theorem dX6_passWord_10 : decode cX6_passWord 10 = .ok (.ifCond .eq 10, 3) := by decide +kernel
theorem dX6_passWord_13 : decode cX6_passWord 13 = .ok (.aload_n 0, 1) := by decide +kernel
theorem dX6_passWord_14 : decode cX6_passWord 14 = .ok (.getfield 12, 3) := by decide +kernel
theorem dX6_passWord_17 : decode cX6_passWord 17 = .ok (.invokevirtual 74, 3) := by decide +kernel
theorem dX6_passWord_20 : decode cX6_passWord 20 = .ok (.iload_n 2, 1) := by decide +kernel
theorem dX6_passWord_21 : decode cX6_passWord 21 = .ok (.ireturn, 1) := by decide +kernel
set_option maxRecDepth 20000 in
theorem ggX6_readFixed_X6_readLiteral : GoodIn wsX6_readFixed wsX6_readLiteral := goodIn_r _ [11, 12, 13, 14, 1, 2, 15, 16, 17, 18, 19, 20, 21, 22, 23, 24, 25, 26, 27, 10, 28, 4, 29, 30, 31, 32, 33, 34, 35, 36, 37, 38, 39, 69, 70, 71, 72, 73, 74, 75, 76, 77, 80, 81, 82, 83, 84, 85, 86, 87, 88, 89, 90, 91, 92] rfl (by decide +kernel)
set_option maxRecDepth 20000 in
theorem gX6_readFixed_X6_readLiteral : GoodIn wsX6_readFixed (wsV RX6 231 RX6 yX6_readLiteral wsX6_readLiteral) := goodIn_app (goodIn_r _ [7, 8, 9, 10] rfl (by decide +kernel)) ggX6_readFixed_X6_readLiteral
set_option maxRecDepth 20000 in
theorem ggX6_readFixed_X4_run : GoodIn wsX6_readFixed wsX4_run := goodIn_r _ [44, 45, 46, 47, 48, 49, 43, 50, 51, 52, 53, 54, 55, 56, 57, 58, 59, 60, 61, 62, 63, 64, 65, 66, 67, 68, 78, 79, 85, 86, 87, 88, 89, 90, 91, 92] rfl (by decide +kernel)
set_option maxRecDepth 20000 in
theorem gX6_readFixed_X4_run : GoodIn wsX6_readFixed (wsV RX6 234 RX4 yX4_run wsX4_run) := goodIn_app (goodIn_r _ [40, 41, 42, 43] rfl (by decide +kernel)) ggX6_readFixed_X4_run
theorem dX6_readFixed_0 : decode cX6_readFixed 0 = .ok (.aload_n 0, 1) := by decide +kernel
theorem dX6_readFixed_1 : decode cX6_readFixed 1 = .ok (.iconst 0, 1) := by decide +kernel
theorem dX6_readFixed_2 : decode cX6_readFixed 2 = .ok (.putfield 49, 3) := by decide +kernel
theorem dX6_readFixed_5 : decode cX6_readFixed 5 = .ok (.aload_n 0, 1) := by decide +kernel
theorem dX6_readFixed_6 : decode cX6_readFixed 6 = .ok (.iconst 0, 1) := by decide +kernel
theorem dX6_readFixed_7 : decode cX6_readFixed 7 = .ok (.putfield 52, 3) := by decide +kernel
theorem dX6_readFixed_10 : decode cX6_readFixed 10 = .ok (.aload_n 0, 1) := by decide +kernel
theorem dX6_readFixed_11 : decode cX6_readFixed 11 = .ok (.invokevirtual 231, 3) := by decide +kernel
theorem dX6_readFixed_14 : decode cX6_readFixed 14 = .ok (.aload_n 0, 1) := by decide +kernel
theorem dX6_readFixed_15 : decode cX6_readFixed 15 = .ok (.getfield 35, 3) := by decide +kernel
theorem dX6_readFixed_18 : decode cX6_readFixed 18 = .ok (.aload_n 0, 1) := by decide +kernel
theorem dX6_readFixed_19 : decode cX6_readFixed 19 = .ok (.getfield 21, 3) := by decide +kernel
theorem dX6_readFixed_22 : decode cX6_readFixed 22 = .ok (.invokevirtual 234, 3) := by decide +kernel
theorem dX6_readFixed_25 : decode cX6_readFixed 25 = .ok (.aload_n 0, 1) := by decide +kernel
theorem dX6_readFixed_26 : decode cX6_readFixed 26 = .ok (.getfield 49, 3) := by decide +kernel
theorem dX6_readFixed_29 : decode cX6_readFixed 29 = .ok (.aload_n 0, 1) := by decide +kernel
theorem dX6_readFixed_30 : decode cX6_readFixed 30 = .ok (.getfield 35, 3) := by decide +kernel
theorem dX6_readFixed_33 : decode cX6_readFixed 33 = .ok (.getfield 238, 3) := by decide +kernel
theorem dX6_readFixed_36 : decode cX6_readFixed 36 = .ok (.iconst (-1), 1) := by decide +kernel
theorem dX6_readFixed_37 : decode cX6_readFixed 37 = .ok (.ixor, 1) := by decide +kernel
theorem dX6_readFixed_38 : decode cX6_readFixed 38 = .ok (.iand, 1) := by decide +kernel
theorem dX6_readFixed_39 : decode cX6_readFixed 39 = .ok (.ifCond .ne 24, 3) := by decide +kernel
theorem dX6_readFixed_42 : decode cX6_readFixed 42 = .ok (.aload_n 0, 1) := by decide +kernel
theorem dX6_readFixed_43 : decode cX6_readFixed 43 = .ok (.getfield 52, 3) := by decide +kernel
theorem dX6_readFixed_46 : decode cX6_readFixed 46 = .ok (.aload_n 0, 1) := by decide +kernel
theorem dX6_readFixed_47 : decode cX6_readFixed 47 = .ok (.getfield 35, 3) := by decide +kernel
theorem dX6_readFixed_50 : decode cX6_readFixed 50 = .ok (.getfield 241, 3) := by decide +kernel
theorem dX6_readFixed_53 : decode cX6_readFixed 53 = .ok (.iconst (-1), 1) := by decide +kernel
theorem dX6_readFixed_54 : decode cX6_readFixed 54 = .ok (.ixor, 1) := by decide +kernel
theorem dX6_readFixed_55 : decode cX6_readFixed 55 = .ok (.iand, 1) := by decide +kernel
theorem dX6_readFixed_56 : decode cX6_readFixed 56 = .ok (.ifCond .ne 7, 3) := by decide +kernel
theorem dX6_readFixed_59 : decode cX6_readFixed 59 = .ok (.iconst 1, 1) := by decide +kernel
theorem dX6_readFixed_60 : decode cX6_readFixed 60 = .ok (.goto 4, 3) := by decide +kernel
theorem dX6_readFixed_63 : decode cX6_readFixed 63 = .ok (.iconst 0, 1) := by decide +kernel
theorem dX6_readFixed_64 : decode cX6_readFixed 64 = .ok (.ireturn, 1) := by decide +kernel
set_option maxRecDepth 20000 in
theorem ggX6_readLiterals_X6_isFailed : GoodIn wsX6_readLiterals wsX6_isFailed := goodIn_r _ [9, 10, 41, 42, 43, 44, 45, 46, 47, 48, 49] rfl (by decide +kernel)
set_option maxRecDepth 20000 in
theorem gX6_readLiterals_X6_isFailed : GoodIn wsX6_readLiterals (wsV RX6 84 RX6 yX6_isFailed wsX6_isFailed) := goodIn_app (goodIn_r _ [5, 6, 7, 8] rfl (by decide +kernel)) ggX6_readLiterals_X6_isFailed
set_option maxRecDepth 20000 in
theorem ggX6_readLiterals_X6_readLiteral : GoodIn wsX6_readLiterals wsX6_readLiteral := goodIn_r _ [14, 3, 4, 15, 1, 2, 16, 17, 18, 19, 20, 21, 22, 23, 24, 25, 26, 27, 28, 8, 29, 30, 31, 32, 33, 34, 35, 36, 37, 38, 39, 10, 40, 41, 42, 43, 44, 45, 46, 47, 48, 49, 50, 51, 52, 53, 54, 55, 56, 57, 58, 59, 60, 61, 62] rfl (by decide +kernel)
set_option maxRecDepth 20000 in
theorem gX6_readLiterals_X6_readLiteral : GoodIn wsX6_readLiterals (wsV RX6 231 RX6 yX6_readLiteral wsX6_readLiteral) := goodIn_app (goodIn_r _ [11, 12, 13, 8] rfl (by decide +kernel)) ggX6_readLiterals_X6_readLiteral
theorem dX6_readLiterals_0 : decode cX6_readLiterals 0 = .ok (.aload_n 0, 1) := by decide +kernel
theorem dX6_readLiterals_1 : decode cX6_readLiterals 1 = .ok (.iconst 0, 1) := by decide +kernel
theorem dX6_readLiterals_2 : decode cX6_readLiterals 2 = .ok (.putfield 49, 3) := by decide +kernel
theorem dX6_readLiterals_5 : decode cX6_readLiterals 5 = .ok (.aload_n 0, 1) := by decide +kernel
theorem dX6_readLiterals_6 : decode cX6_readLiterals 6 = .ok (.iconst 0, 1) := by decide +kernel
theorem dX6_readLiterals_7 : decode cX6_readLiterals 7 = .ok (.putfield 52, 3) := by decide +kernel
theorem dX6_readLiterals_10 : decode cX6_readLiterals 10 = .ok (.iconst 0, 1) := by decide +kernel
theorem dX6_readLiterals_11 : decode cX6_readLiterals 11 = .ok (.istore_n 1, 1) := by decide +kernel
theorem dX6_readLiterals_12 : decode cX6_readLiterals 12 = .ok (.iload_n 1, 1) := by decide +kernel
theorem dX6_readLiterals_13 : decode cX6_readLiterals 13 = .ok (.sipush 500, 3) := by decide +kernel
theorem dX6_readLiterals_16 : decode cX6_readLiterals 16 = .ok (.if_icmp .ge 43, 3) := by decide +kernel
theorem dX6_readLiterals_19 : decode cX6_readLiterals 19 = .ok (.aload_n 0, 1) := by decide +kernel
theorem dX6_readLiterals_20 : decode cX6_readLiterals 20 = .ok (.invokevirtual 84, 3) := by decide +kernel
theorem dX6_readLiterals_23 : decode cX6_readLiterals 23 = .ok (.ifCond .ne 36, 3) := by decide +kernel
theorem dX6_readLiterals_26 : decode cX6_readLiterals 26 = .ok (.aload_n 0, 1) := by decide +kernel
theorem dX6_readLiterals_27 : decode cX6_readLiterals 27 = .ok (.getfield 12, 3) := by decide +kernel
theorem dX6_readLiterals_30 : decode cX6_readLiterals 30 = .ok (.getfield 91, 3) := by decide +kernel
theorem dX6_readLiterals_33 : decode cX6_readLiterals 33 = .ok (.iconst 1, 1) := by decide +kernel
theorem dX6_readLiterals_34 : decode cX6_readLiterals 34 = .ok (.if_icmp .eq 15, 3) := by decide +kernel
theorem dX6_readLiterals_37 : decode cX6_readLiterals 37 = .ok (.aload_n 0, 1) := by decide +kernel
theorem dX6_readLiterals_38 : decode cX6_readLiterals 38 = .ok (.getfield 12, 3) := by decide +kernel
theorem dX6_readLiterals_41 : decode cX6_readLiterals 41 = .ok (.getfield 91, 3) := by decide +kernel
theorem dX6_readLiterals_44 : decode cX6_readLiterals 44 = .ok (.iconst 4, 1) := by decide +kernel
theorem dX6_readLiterals_45 : decode cX6_readLiterals 45 = .ok (.if_icmp .eq 4, 3) := by decide +kernel
theorem dX6_readLiterals_48 : decode cX6_readLiterals 48 = .ok (.return_, 1) := by decide +kernel
theorem dX6_readLiterals_49 : decode cX6_readLiterals 49 = .ok (.aload_n 0, 1) := by decide +kernel
theorem dX6_readLiterals_50 : decode cX6_readLiterals 50 = .ok (.invokevirtual 231, 3) := by decide +kernel
theorem dX6_readLiterals_53 : decode cX6_readLiterals 53 = .ok (.iinc 1 1, 3) := by decide +kernel
theorem dX6_readLiterals_56 : decode cX6_readLiterals 56 = .ok (.goto (-44), 3) := by decide +kernel
theorem dX6_readLiterals_59 : decode cX6_readLiterals 59 = .ok (.return_, 1) := by decide +kernel
set_option maxRecDepth 20000 in
theorem ggX6_readLiteral_X7_advance : GoodIn wsX6_readLiteral wsX7_advance := goodIn_r _ [10, 11, 12, 13, 14, 15, 42, 43, 44, 45, 46] rfl (by decide +kernel)
set_option maxRecDepth 20000 in
theorem gX6_readLiteral_X7_advance : GoodIn wsX6_readLiteral (wsV RX6 74 RX7 yX7_advance wsX7_advance) := goodIn_app (goodIn_r _ [6, 7, 8, 9] rfl (by decide +kernel)) ggX6_readLiteral_X7_advance
set_option maxRecDepth 20000 in
theorem ggX6_readLiteral_X6_readVariable : GoodIn wsX6_readLiteral wsX6_readVariable := goodIn_r _ [20, 1, 3, 21, 22, 23, 24, 25, 9, 26, 15, 11, 12, 13, 14, 27, 28, 29, 19, 30, 31, 32, 6, 7, 8, 10, 33, 34, 35, 36, 37, 38, 39, 40, 41, 42, 43, 44, 45, 46, 47, 48, 49, 50, 51, 52, 53, 54] rfl (by decide +kernel)
set_option maxRecDepth 20000 in
theorem gX6_readLiteral_X6_readVariable : GoodIn wsX6_readLiteral (wsV RX6 171 RX6 yX6_readVariable wsX6_readVariable) := goodIn_app (goodIn_r _ [16, 17, 18, 19] rfl (by decide +kernel)) ggX6_readLiteral_X6_readVariable
set_option maxRecDepth 20000 in
theorem ggX6_readLiteral_X6_fail : GoodIn wsX6_readLiteral wsX6_fail := goodIn_r _ [30, 31, 32, 33, 34, 35, 36, 37, 38, 39, 40, 41] rfl (by decide +kernel)
set_option maxRecDepth 20000 in
theorem gX6_readLiteral_X6_fail : GoodIn wsX6_readLiteral (wsV RX6 70 RX6 yX6_fail wsX6_fail) := goodIn_app (goodIn_r _ [27, 28, 29, 19] rfl (by decide +kernel)) ggX6_readLiteral_X6_fail
theorem dX6_readLiteral_0 : decode cX6_readLiteral 0 = .ok (.aload_n 0, 1) := by decide +kernel
theorem dX6_readLiteral_1 : decode cX6_readLiteral 1 = .ok (.getfield 12, 3) := by decide +kernel
theorem dX6_readLiteral_4 : decode cX6_readLiteral 4 = .ok (.getfield 91, 3) := by decide +kernel
theorem dX6_readLiteral_7 : decode cX6_readLiteral 7 = .ok (.iconst 4, 1) := by decide +kernel
theorem dX6_readLiteral_8 : decode cX6_readLiteral 8 = .ok (.if_icmp .ne 7, 3) := by decide +kernel
theorem dX6_readLiteral_11 : decode cX6_readLiteral 11 = .ok (.iconst 1, 1) := by decide +kernel
theorem dX6_readLiteral_12 : decode cX6_readLiteral 12 = .ok (.goto 4, 3) := by decide +kernel
theorem dX6_readLiteral_15 : decode cX6_readLiteral 15 = .ok (.iconst 0, 1) := by decide +kernel
theorem dX6_readLiteral_16 : decode cX6_readLiteral 16 = .ok (.istore_n 1, 1) := by decide +kernel
theorem dX6_readLiteral_17 : decode cX6_readLiteral 17 = .ok (.iload_n 1, 1) := by decide +kernel
theorem dX6_readLiteral_18 : decode cX6_readLiteral 18 = .ok (.ifCond .eq 10, 3) := by decide +kernel
theorem dX6_readLiteral_21 : decode cX6_readLiteral 21 = .ok (.aload_n 0, 1) := by decide +kernel
theorem dX6_readLiteral_22 : decode cX6_readLiteral 22 = .ok (.getfield 12, 3) := by decide +kernel
theorem dX6_readLiteral_25 : decode cX6_readLiteral 25 = .ok (.invokevirtual 74, 3) := by decide +kernel
theorem dX6_readLiteral_28 : decode cX6_readLiteral 28 = .ok (.aload_n 0, 1) := by decide +kernel
theorem dX6_readLiteral_29 : decode cX6_readLiteral 29 = .ok (.getfield 12, 3) := by decide +kernel
theorem dX6_readLiteral_32 : decode cX6_readLiteral 32 = .ok (.getfield 67, 3) := by decide +kernel
theorem dX6_readLiteral_35 : decode cX6_readLiteral 35 = .ok (.istore_n 2, 1) := by decide +kernel
theorem dX6_readLiteral_36 : decode cX6_readLiteral 36 = .ok (.aload_n 0, 1) := by decide +kernel
theorem dX6_readLiteral_37 : decode cX6_readLiteral 37 = .ok (.invokevirtual 171, 3) := by decide +kernel
theorem dX6_readLiteral_40 : decode cX6_readLiteral 40 = .ok (.istore_n 3, 1) := by decide +kernel
theorem dX6_readLiteral_41 : decode cX6_readLiteral 41 = .ok (.iload_n 3, 1) := by decide +kernel
theorem dX6_readLiteral_42 : decode cX6_readLiteral 42 = .ok (.iconst (-1), 1) := by decide +kernel
theorem dX6_readLiteral_43 : decode cX6_readLiteral 43 = .ok (.if_icmp .ne 4, 3) := by decide +kernel
theorem dX6_readLiteral_46 : decode cX6_readLiteral 46 = .ok (.return_, 1) := by decide +kernel
theorem dX6_readLiteral_47 : decode cX6_readLiteral 47 = .ok (.iconst 1, 1) := by decide +kernel
theorem dX6_readLiteral_48 : decode cX6_readLiteral 48 = .ok (.iload_n 3, 1) := by decide +kernel
theorem dX6_readLiteral_49 : decode cX6_readLiteral 49 = .ok (.ishl, 1) := by decide +kernel
theorem dX6_readLiteral_50 : decode cX6_readLiteral 50 = .ok (.istore 4, 2) := by decide +kernel
theorem dX6_readLiteral_52 : decode cX6_readLiteral 52 = .ok (.iload_n 1, 1) := by decide +kernel
theorem dX6_readLiteral_53 : decode cX6_readLiteral 53 = .ok (.ifCond .eq 10, 3) := by decide +kernel
theorem dX6_readLiteral_56 : decode cX6_readLiteral 56 = .ok (.aload_n 0, 1) := by decide +kernel
theorem dX6_readLiteral_57 : decode cX6_readLiteral 57 = .ok (.getfield 49, 3) := by decide +kernel
theorem dX6_readLiteral_60 : decode cX6_readLiteral 60 = .ok (.goto 7, 3) := by decide +kernel
theorem dX6_readLiteral_63 : decode cX6_readLiteral 63 = .ok (.aload_n 0, 1) := by decide +kernel
theorem dX6_readLiteral_64 : decode cX6_readLiteral 64 = .ok (.getfield 52, 3) := by decide +kernel
theorem dX6_readLiteral_67 : decode cX6_readLiteral 67 = .ok (.iload 4, 2) := by decide +kernel
theorem dX6_readLiteral_69 : decode cX6_readLiteral 69 = .ok (.iand, 1) := by decide +kernel
theorem dX6_readLiteral_70 : decode cX6_readLiteral 70 = .ok (.ifCond .eq 12, 3) := by decide +kernel
theorem dX6_readLiteral_73 : decode cX6_readLiteral 73 = .ok (.aload_n 0, 1) := by decide +kernel
theorem dX6_readLiteral_74 : decode cX6_readLiteral 74 = .ok (.iconst 3, 1) := by decide +kernel
theorem dX6_readLiteral_75 : decode cX6_readLiteral 75 = .ok (.iload_n 2, 1) := by decide +kernel
theorem dX6_readLiteral_76 : decode cX6_readLiteral 76 = .ok (.invokevirtual 70, 3) := by decide +kernel
theorem dX6_readLiteral_79 : decode cX6_readLiteral 79 = .ok (.goto 32, 3) := by decide +kernel
theorem dX6_readLiteral_82 : decode cX6_readLiteral 82 = .ok (.iload_n 1, 1) := by decide +kernel
theorem dX6_readLiteral_83 : decode cX6_readLiteral 83 = .ok (.ifCond .eq 17, 3) := by decide +kernel
theorem dX6_readLiteral_86 : decode cX6_readLiteral 86 = .ok (.aload_n 0, 1) := by decide +kernel
theorem dX6_readLiteral_87 : decode cX6_readLiteral 87 = .ok (.dup, 1) := by decide +kernel
theorem dX6_readLiteral_88 : decode cX6_readLiteral 88 = .ok (.getfield 52, 3) := by decide +kernel
theorem dX6_readLiteral_91 : decode cX6_readLiteral 91 = .ok (.iload 4, 2) := by decide +kernel
theorem dX6_readLiteral_93 : decode cX6_readLiteral 93 = .ok (.ior, 1) := by decide +kernel
theorem dX6_readLiteral_94 : decode cX6_readLiteral 94 = .ok (.putfield 52, 3) := by decide +kernel
theorem dX6_readLiteral_97 : decode cX6_readLiteral 97 = .ok (.goto 14, 3) := by decide +kernel
theorem dX6_readLiteral_100 : decode cX6_readLiteral 100 = .ok (.aload_n 0, 1) := by decide +kernel
theorem dX6_readLiteral_101 : decode cX6_readLiteral 101 = .ok (.dup, 1) := by decide +kernel
theorem dX6_readLiteral_102 : decode cX6_readLiteral 102 = .ok (.getfield 49, 3) := by decide +kernel
theorem dX6_readLiteral_105 : decode cX6_readLiteral 105 = .ok (.iload 4, 2) := by decide +kernel
theorem dX6_readLiteral_107 : decode cX6_readLiteral 107 = .ok (.ior, 1) := by decide +kernel
theorem dX6_readLiteral_108 : decode cX6_readLiteral 108 = .ok (.putfield 49, 3) := by decide +kernel
theorem dX6_readLiteral_111 : decode cX6_readLiteral 111 = .ok (.return_, 1) := by decide +kernel
set_option maxRecDepth 20000 in
theorem ggX6_readVariable_X7_letter : GoodIn wsX6_readVariable wsX7_letter := goodIn_r _ [9, 10, 11, 12, 13, 14, 35, 36, 37, 38, 39] rfl (by decide +kernel)
set_option maxRecDepth 20000 in
theorem gX6_readVariable_X7_letter : GoodIn wsX6_readVariable (wsV RX6 244 RX7 yX7_letter wsX7_letter) := goodIn_app (goodIn_r _ [5, 6, 7, 8] rfl (by decide +kernel)) ggX6_readVariable_X7_letter
set_option maxRecDepth 20000 in
theorem ggX6_readVariable_X6_fail : GoodIn wsX6_readVariable wsX6_fail := goodIn_r _ [19, 20, 21, 26, 27, 28, 29, 30, 31, 32, 33, 34] rfl (by decide +kernel)
set_option maxRecDepth 20000 in
theorem gX6_readVariable_X6_fail : GoodIn wsX6_readVariable (wsV RX6 70 RX6 yX6_fail wsX6_fail) := goodIn_app (goodIn_r _ [15, 16, 17, 18] rfl (by decide +kernel)) ggX6_readVariable_X6_fail
set_option maxRecDepth 20000 in
theorem ggX6_readVariable_X7_advance : GoodIn wsX6_readVariable wsX7_advance := goodIn_r _ [25, 11, 12, 13, 14, 10, 35, 36, 37, 38, 39] rfl (by decide +kernel)
set_option maxRecDepth 20000 in
theorem gX6_readVariable_X7_advance : GoodIn wsX6_readVariable (wsV RX6 74 RX7 yX7_advance wsX7_advance) := goodIn_app (goodIn_r _ [22, 23, 24, 8] rfl (by decide +kernel)) ggX6_readVariable_X7_advance
theorem dX6_readVariable_0 : decode cX6_readVariable 0 = .ok (.aload_n 0, 1) := by decide +kernel
theorem dX6_readVariable_1 : decode cX6_readVariable 1 = .ok (.getfield 12, 3) := by decide +kernel
theorem dX6_readVariable_4 : decode cX6_readVariable 4 = .ok (.invokevirtual 244, 3) := by decide +kernel
theorem dX6_readVariable_7 : decode cX6_readVariable 7 = .ok (.istore_n 1, 1) := by decide +kernel
theorem dX6_readVariable_8 : decode cX6_readVariable 8 = .ok (.iload_n 1, 1) := by decide +kernel
theorem dX6_readVariable_9 : decode cX6_readVariable 9 = .ok (.iconst (-1), 1) := by decide +kernel
theorem dX6_readVariable_10 : decode cX6_readVariable 10 = .ok (.if_icmp .ne 17, 3) := by decide +kernel
theorem dX6_readVariable_13 : decode cX6_readVariable 13 = .ok (.aload_n 0, 1) := by decide +kernel
theorem dX6_readVariable_14 : decode cX6_readVariable 14 = .ok (.iconst 1, 1) := by decide +kernel
theorem dX6_readVariable_15 : decode cX6_readVariable 15 = .ok (.aload_n 0, 1) := by decide +kernel
theorem dX6_readVariable_16 : decode cX6_readVariable 16 = .ok (.getfield 12, 3) := by decide +kernel
theorem dX6_readVariable_19 : decode cX6_readVariable 19 = .ok (.getfield 67, 3) := by decide +kernel
theorem dX6_readVariable_22 : decode cX6_readVariable 22 = .ok (.invokevirtual 70, 3) := by decide +kernel
theorem dX6_readVariable_25 : decode cX6_readVariable 25 = .ok (.iconst (-1), 1) := by decide +kernel
theorem dX6_readVariable_26 : decode cX6_readVariable 26 = .ok (.ireturn, 1) := by decide +kernel
theorem dX6_readVariable_27 : decode cX6_readVariable 27 = .ok (.iload_n 1, 1) := by decide +kernel
theorem dX6_readVariable_28 : decode cX6_readVariable 28 = .ok (.aload_n 0, 1) := by decide +kernel
theorem dX6_readVariable_29 : decode cX6_readVariable 29 = .ok (.getfield 21, 3) := by decide +kernel
theorem dX6_readVariable_32 : decode cX6_readVariable 32 = .ok (.getfield 176, 3) := by decide +kernel
theorem dX6_readVariable_35 : decode cX6_readVariable 35 = .ok (.if_icmp .lt 17, 3) := by decide +kernel
theorem dX6_readVariable_38 : decode cX6_readVariable 38 = .ok (.aload_n 0, 1) := by decide +kernel
theorem dX6_readVariable_39 : decode cX6_readVariable 39 = .ok (.iconst 2, 1) := by decide +kernel
theorem dX6_readVariable_40 : decode cX6_readVariable 40 = .ok (.aload_n 0, 1) := by decide +kernel
theorem dX6_readVariable_41 : decode cX6_readVariable 41 = .ok (.getfield 12, 3) := by decide +kernel
theorem dX6_readVariable_44 : decode cX6_readVariable 44 = .ok (.getfield 67, 3) := by decide +kernel
theorem dX6_readVariable_47 : decode cX6_readVariable 47 = .ok (.invokevirtual 70, 3) := by decide +kernel
theorem dX6_readVariable_50 : decode cX6_readVariable 50 = .ok (.iconst (-1), 1) := by decide +kernel
theorem dX6_readVariable_51 : decode cX6_readVariable 51 = .ok (.ireturn, 1) := by decide +kernel
theorem dX6_readVariable_52 : decode cX6_readVariable 52 = .ok (.aload_n 0, 1) := by decide +kernel
theorem dX6_readVariable_53 : decode cX6_readVariable 53 = .ok (.getfield 12, 3) := by decide +kernel
theorem dX6_readVariable_56 : decode cX6_readVariable 56 = .ok (.invokevirtual 74, 3) := by decide +kernel
theorem dX6_readVariable_59 : decode cX6_readVariable 59 = .ok (.iload_n 1, 1) := by decide +kernel
theorem dX6_readVariable_60 : decode cX6_readVariable 60 = .ok (.ireturn, 1) := by decide +kernel
set_option maxRecDepth 20000 in
theorem ggX6_readClauseNumber_X6_readNumber : GoodIn wsX6_readClauseNumber wsX6_readNumber := goodIn_r _ [7, 8, 9, 10, 11, 12, 13, 6, 14, 15, 16, 17, 18, 19, 20, 21, 22, 23, 24, 25, 26, 27, 28, 29, 30, 31, 32, 33, 34, 35, 36, 37, 38, 39, 40, 41, 42, 43, 52, 53, 54, 55, 56] rfl (by decide +kernel)
set_option maxRecDepth 20000 in
theorem gX6_readClauseNumber_X6_readNumber : GoodIn wsX6_readClauseNumber (wsV RX6 77 RX6 yX6_readNumber wsX6_readNumber) := goodIn_app (goodIn_r _ [3, 4, 5, 6] rfl (by decide +kernel)) ggX6_readClauseNumber_X6_readNumber
theorem dX6_readClauseNumber_0 : decode cX6_readClauseNumber 0 = .ok (.aload_n 0, 1) := by decide +kernel
theorem dX6_readClauseNumber_1 : decode cX6_readClauseNumber 1 = .ok (.iconst 0, 1) := by decide +kernel
theorem dX6_readClauseNumber_2 : decode cX6_readClauseNumber 2 = .ok (.aload_n 0, 1) := by decide +kernel
theorem dX6_readClauseNumber_3 : decode cX6_readClauseNumber 3 = .ok (.getfield 21, 3) := by decide +kernel
theorem dX6_readClauseNumber_6 : decode cX6_readClauseNumber 6 = .ok (.getfield 190, 3) := by decide +kernel
theorem dX6_readClauseNumber_9 : decode cX6_readClauseNumber 9 = .ok (.iconst 1, 1) := by decide +kernel
theorem dX6_readClauseNumber_10 : decode cX6_readClauseNumber 10 = .ok (.isub, 1) := by decide +kernel
theorem dX6_readClauseNumber_11 : decode cX6_readClauseNumber 11 = .ok (.invokevirtual 77, 3) := by decide +kernel
theorem dX6_readClauseNumber_14 : decode cX6_readClauseNumber 14 = .ok (.ireturn, 1) := by decide +kernel
set_option maxRecDepth 20000 in
theorem ggX6_readValue_X6_readNumber : GoodIn wsX6_readValue wsX6_readNumber := goodIn_r _ [5, 6, 7, 8, 9, 10, 11, 4, 12, 13, 14, 15, 16, 17, 18, 19, 20, 21, 22, 23, 24, 25, 26, 27, 28, 29, 30, 31, 32, 33, 34, 35, 36, 37, 38, 39, 40, 41, 42, 43, 44, 45, 46] rfl (by decide +kernel)
set_option maxRecDepth 20000 in
theorem gX6_readValue_X6_readNumber : GoodIn wsX6_readValue (wsV RX6 77 RX6 yX6_readNumber wsX6_readNumber) := goodIn_app (goodIn_r _ [1, 2, 3, 4] rfl (by decide +kernel)) ggX6_readValue_X6_readNumber
theorem dX6_readValue_0 : decode cX6_readValue 0 = .ok (.aload_n 0, 1) := by decide +kernel
theorem dX6_readValue_1 : decode cX6_readValue 1 = .ok (.iconst 0, 1) := by decide +kernel
theorem dX6_readValue_2 : decode cX6_readValue 2 = .ok (.sipush 9999, 3) := by decide +kernel
theorem dX6_readValue_5 : decode cX6_readValue 5 = .ok (.invokevirtual 77, 3) := by decide +kernel
theorem dX6_readValue_8 : decode cX6_readValue 8 = .ok (.ireturn, 1) := by decide +kernel
set_option maxRecDepth 20000 in
theorem ggX6_readNumber_X6_isFailed : GoodIn wsX6_readNumber wsX6_isFailed := goodIn_r _ [8, 9, 29, 30, 31, 32, 33, 34, 35, 36, 37] rfl (by decide +kernel)
set_option maxRecDepth 20000 in
theorem gX6_readNumber_X6_isFailed : GoodIn wsX6_readNumber (wsV RX6 84 RX6 yX6_isFailed wsX6_isFailed) := goodIn_app (goodIn_r _ [4, 5, 6, 7] rfl (by decide +kernel)) ggX6_readNumber_X6_isFailed
set_option maxRecDepth 20000 in
theorem ggX6_readNumber_X6_fail : GoodIn wsX6_readNumber wsX6_fail := goodIn_r _ [13, 9, 14, 29, 30, 31, 32, 33, 34, 35, 36, 37] rfl (by decide +kernel)
set_option maxRecDepth 20000 in
theorem gX6_readNumber_X6_fail : GoodIn wsX6_readNumber (wsV RX6 70 RX6 yX6_fail wsX6_fail) := goodIn_app (goodIn_r _ [10, 11, 12, 7] rfl (by decide +kernel)) ggX6_readNumber_X6_fail
set_option maxRecDepth 20000 in
theorem ggX6_readNumber_X7_number : GoodIn wsX6_readNumber wsX7_number := goodIn_r _ [19, 20, 21, 22, 23, 38, 39, 40, 41, 42] rfl (by decide +kernel)
set_option maxRecDepth 20000 in
theorem gX6_readNumber_X7_number : GoodIn wsX6_readNumber (wsV RX6 247 RX7 yX7_number wsX7_number) := goodIn_app (goodIn_r _ [15, 16, 17, 18] rfl (by decide +kernel)) ggX6_readNumber_X7_number
set_option maxRecDepth 20000 in
theorem ggX6_readNumber_X7_advance : GoodIn wsX6_readNumber wsX7_advance := goodIn_r _ [27, 20, 21, 22, 23, 28, 38, 39, 40, 41, 42] rfl (by decide +kernel)
set_option maxRecDepth 20000 in
theorem gX6_readNumber_X7_advance : GoodIn wsX6_readNumber (wsV RX6 74 RX7 yX7_advance wsX7_advance) := goodIn_app (goodIn_r _ [24, 25, 26, 18] rfl (by decide +kernel)) ggX6_readNumber_X7_advance
theorem dX6_readNumber_0 : decode cX6_readNumber 0 = .ok (.aload_n 0, 1) := by decide +kernel
theorem dX6_readNumber_1 : decode cX6_readNumber 1 = .ok (.invokevirtual 84, 3) := by decide +kernel
theorem dX6_readNumber_4 : decode cX6_readNumber 4 = .ok (.ifCond .eq 5, 3) := by decide +kernel
theorem dX6_readNumber_7 : decode cX6_readNumber 7 = .ok (.iconst (-1), 1) := by decide +kernel
theorem dX6_readNumber_8 : decode cX6_readNumber 8 = .ok (.ireturn, 1) := by decide +kernel
theorem dX6_readNumber_9 : decode cX6_readNumber 9 = .ok (.aload_n 0, 1) := by decide +kernel
theorem dX6_readNumber_10 : decode cX6_readNumber 10 = .ok (.getfield 12, 3) := by decide +kernel
theorem dX6_readNumber_13 : decode cX6_readNumber 13 = .ok (.getfield 91, 3) := by decide +kernel
theorem dX6_readNumber_16 : decode cX6_readNumber 16 = .ok (.iconst 2, 1) := by decide +kernel
theorem dX6_readNumber_17 : decode cX6_readNumber 17 = .ok (.if_icmp .eq 17, 3) := by decide +kernel
theorem dX6_readNumber_20 : decode cX6_readNumber 20 = .ok (.aload_n 0, 1) := by decide +kernel
theorem dX6_readNumber_21 : decode cX6_readNumber 21 = .ok (.iconst 1, 1) := by decide +kernel
theorem dX6_readNumber_22 : decode cX6_readNumber 22 = .ok (.aload_n 0, 1) := by decide +kernel
theorem dX6_readNumber_23 : decode cX6_readNumber 23 = .ok (.getfield 12, 3) := by decide +kernel
theorem dX6_readNumber_26 : decode cX6_readNumber 26 = .ok (.getfield 67, 3) := by decide +kernel
theorem dX6_readNumber_29 : decode cX6_readNumber 29 = .ok (.invokevirtual 70, 3) := by decide +kernel
theorem dX6_readNumber_32 : decode cX6_readNumber 32 = .ok (.iconst (-1), 1) := by decide +kernel
theorem dX6_readNumber_33 : decode cX6_readNumber 33 = .ok (.ireturn, 1) := by decide +kernel
theorem dX6_readNumber_34 : decode cX6_readNumber 34 = .ok (.aload_n 0, 1) := by decide +kernel
theorem dX6_readNumber_35 : decode cX6_readNumber 35 = .ok (.getfield 12, 3) := by decide +kernel
theorem dX6_readNumber_38 : decode cX6_readNumber 38 = .ok (.invokevirtual 247, 3) := by decide +kernel
theorem dX6_readNumber_41 : decode cX6_readNumber 41 = .ok (.istore_n 3, 1) := by decide +kernel
theorem dX6_readNumber_42 : decode cX6_readNumber 42 = .ok (.iload_n 3, 1) := by decide +kernel
theorem dX6_readNumber_43 : decode cX6_readNumber 43 = .ok (.iload_n 1, 1) := by decide +kernel
theorem dX6_readNumber_44 : decode cX6_readNumber 44 = .ok (.if_icmp .lt 8, 3) := by decide +kernel
theorem dX6_readNumber_47 : decode cX6_readNumber 47 = .ok (.iload_n 3, 1) := by decide +kernel
theorem dX6_readNumber_48 : decode cX6_readNumber 48 = .ok (.iload_n 2, 1) := by decide +kernel
theorem dX6_readNumber_49 : decode cX6_readNumber 49 = .ok (.if_icmp .le 17, 3) := by decide +kernel
theorem dX6_readNumber_52 : decode cX6_readNumber 52 = .ok (.aload_n 0, 1) := by decide +kernel
theorem dX6_readNumber_53 : decode cX6_readNumber 53 = .ok (.iconst 2, 1) := by decide +kernel
theorem dX6_readNumber_54 : decode cX6_readNumber 54 = .ok (.aload_n 0, 1) := by decide +kernel
theorem dX6_readNumber_55 : decode cX6_readNumber 55 = .ok (.getfield 12, 3) := by decide +kernel
theorem dX6_readNumber_58 : decode cX6_readNumber 58 = .ok (.getfield 67, 3) := by decide +kernel
theorem dX6_readNumber_61 : decode cX6_readNumber 61 = .ok (.invokevirtual 70, 3) := by decide +kernel
theorem dX6_readNumber_64 : decode cX6_readNumber 64 = .ok (.iconst (-1), 1) := by decide +kernel
theorem dX6_readNumber_65 : decode cX6_readNumber 65 = .ok (.ireturn, 1) := by decide +kernel
theorem dX6_readNumber_66 : decode cX6_readNumber 66 = .ok (.aload_n 0, 1) := by decide +kernel
theorem dX6_readNumber_67 : decode cX6_readNumber 67 = .ok (.getfield 12, 3) := by decide +kernel
theorem dX6_readNumber_70 : decode cX6_readNumber 70 = .ok (.invokevirtual 74, 3) := by decide +kernel
theorem dX6_readNumber_73 : decode cX6_readNumber 73 = .ok (.iload_n 3, 1) := by decide +kernel
theorem dX6_readNumber_74 : decode cX6_readNumber 74 = .ok (.ireturn, 1) := by decide +kernel
set_option maxRecDepth 20000 in
theorem ggX6_readSemicolon_X6_isFailed : GoodIn wsX6_readSemicolon wsX6_isFailed := goodIn_r _ [8, 9, 25, 26, 27, 28, 29, 30, 31, 32, 33] rfl (by decide +kernel)
set_option maxRecDepth 20000 in
theorem gX6_readSemicolon_X6_isFailed : GoodIn wsX6_readSemicolon (wsV RX6 84 RX6 yX6_isFailed wsX6_isFailed) := goodIn_app (goodIn_r _ [4, 5, 6, 7] rfl (by decide +kernel)) ggX6_readSemicolon_X6_isFailed
set_option maxRecDepth 20000 in
theorem ggX6_readSemicolon_X6_fail : GoodIn wsX6_readSemicolon wsX6_fail := goodIn_r _ [13, 9, 14, 25, 26, 27, 28, 29, 30, 31, 32, 33] rfl (by decide +kernel)
set_option maxRecDepth 20000 in
theorem gX6_readSemicolon_X6_fail : GoodIn wsX6_readSemicolon (wsV RX6 70 RX6 yX6_fail wsX6_fail) := goodIn_app (goodIn_r _ [10, 11, 12, 7] rfl (by decide +kernel)) ggX6_readSemicolon_X6_fail
set_option maxRecDepth 20000 in
theorem ggX6_readSemicolon_X7_advance : GoodIn wsX6_readSemicolon wsX7_advance := goodIn_r _ [19, 20, 21, 22, 23, 24, 34, 35, 36, 37, 38] rfl (by decide +kernel)
set_option maxRecDepth 20000 in
theorem gX6_readSemicolon_X7_advance : GoodIn wsX6_readSemicolon (wsV RX6 74 RX7 yX7_advance wsX7_advance) := goodIn_app (goodIn_r _ [15, 16, 17, 18] rfl (by decide +kernel)) ggX6_readSemicolon_X7_advance
theorem dX6_readSemicolon_0 : decode cX6_readSemicolon 0 = .ok (.aload_n 0, 1) := by decide +kernel
theorem dX6_readSemicolon_1 : decode cX6_readSemicolon 1 = .ok (.invokevirtual 84, 3) := by decide +kernel
theorem dX6_readSemicolon_4 : decode cX6_readSemicolon 4 = .ok (.ifCond .eq 4, 3) := by decide +kernel
theorem dX6_readSemicolon_7 : decode cX6_readSemicolon 7 = .ok (.return_, 1) := by decide +kernel
theorem dX6_readSemicolon_8 : decode cX6_readSemicolon 8 = .ok (.aload_n 0, 1) := by decide +kernel
theorem dX6_readSemicolon_9 : decode cX6_readSemicolon 9 = .ok (.getfield 12, 3) := by decide +kernel
theorem dX6_readSemicolon_12 : decode cX6_readSemicolon 12 = .ok (.getfield 91, 3) := by decide +kernel
theorem dX6_readSemicolon_15 : decode cX6_readSemicolon 15 = .ok (.iconst 3, 1) := by decide +kernel
theorem dX6_readSemicolon_16 : decode cX6_readSemicolon 16 = .ok (.if_icmp .eq 16, 3) := by decide +kernel
theorem dX6_readSemicolon_19 : decode cX6_readSemicolon 19 = .ok (.aload_n 0, 1) := by decide +kernel
theorem dX6_readSemicolon_20 : decode cX6_readSemicolon 20 = .ok (.iconst 1, 1) := by decide +kernel
theorem dX6_readSemicolon_21 : decode cX6_readSemicolon 21 = .ok (.aload_n 0, 1) := by decide +kernel
theorem dX6_readSemicolon_22 : decode cX6_readSemicolon 22 = .ok (.getfield 12, 3) := by decide +kernel
theorem dX6_readSemicolon_25 : decode cX6_readSemicolon 25 = .ok (.getfield 67, 3) := by decide +kernel
theorem dX6_readSemicolon_28 : decode cX6_readSemicolon 28 = .ok (.invokevirtual 70, 3) := by decide +kernel
theorem dX6_readSemicolon_31 : decode cX6_readSemicolon 31 = .ok (.return_, 1) := by decide +kernel
theorem dX6_readSemicolon_32 : decode cX6_readSemicolon 32 = .ok (.aload_n 0, 1) := by decide +kernel
theorem dX6_readSemicolon_33 : decode cX6_readSemicolon 33 = .ok (.getfield 12, 3) := by decide +kernel
theorem dX6_readSemicolon_36 : decode cX6_readSemicolon 36 = .ok (.invokevirtual 74, 3) := by decide +kernel
theorem dX6_readSemicolon_39 : decode cX6_readSemicolon 39 = .ok (.return_, 1) := by decide +kernel
