set_option maxRecDepth 20000 in
theorem ggX8_init_X0_init : GoodIn wsX8_init wsX0_init := goodIn_r _ [33, 34, 2, 3, 35, 36, 37, 38, 39, 40, 41, 42, 43, 94, 95, 96, 97, 98, 99, 100, 101] rfl (by decide +kernel)
set_option maxRecDepth 20000 in
theorem gX8_init_X0_init_n9 : GoodIn wsX8_init (wsX0_init) := ggX8_init_X0_init
set_option maxRecDepth 20000 in
theorem ggX8_init_X6_init : GoodIn wsX8_init wsX6_init := goodIn_r _ [45, 46, 2, 3, 47, 48, 49, 50, 51, 5, 6, 52, 53, 21, 22, 54, 55, 25, 26, 56, 57, 58, 59, 60, 61, 62, 63, 64, 65, 66, 67, 68, 69, 70, 32, 33, 34, 35, 36, 37, 38, 39, 40, 41, 42, 43, 71, 72, 73, 74, 75, 76, 77, 78, 79, 80, 129, 130, 131, 132, 133, 111, 112, 113, 114, 115, 116, 117, 118, 119, 94, 95, 96, 97, 98, 99, 100, 101, 123, 124, 125, 126] rfl (by decide +kernel)
set_option maxRecDepth 20000 in
theorem gX8_init_X6_init_n21 : GoodIn wsX8_init (wsX6_init) := ggX8_init_X6_init
set_option maxRecDepth 20000 in
theorem ggX8_init_X1_init : GoodIn wsX8_init wsX1_init := goodIn_r _ [83, 84, 2, 3, 85, 86, 87, 88, 5, 6, 32, 33, 34, 35, 36, 37, 38, 39, 40, 41, 42, 43, 120, 121, 122, 94, 95, 96, 97, 98, 99, 100, 101] rfl (by decide +kernel)
set_option maxRecDepth 20000 in
theorem gX8_init_X1_init : GoodIn wsX8_init (wsX1_init) := ggX8_init_X1_init
set_option maxRecDepth 20000 in
theorem ggX8_init_X5_init : GoodIn wsX8_init wsX5_init := goodIn_r _ [72, 73, 2, 3, 74, 75, 123, 124] rfl (by decide +kernel)
set_option maxRecDepth 20000 in
theorem gX8_init_X5_init_n43 : GoodIn wsX8_init (wsX5_init) := ggX8_init_X5_init
set_option maxRecDepth 20000 in
theorem ggX8_init_X4_init : GoodIn wsX8_init wsX4_init := goodIn_r _ [77, 78, 2, 3, 79, 80, 125, 126] rfl (by decide +kernel)
set_option maxRecDepth 20000 in
theorem gX8_init_X4_init_n50 : GoodIn wsX8_init (wsX4_init) := ggX8_init_X4_init
set_option maxRecDepth 20000 in
theorem ggX8_init_X3_init : GoodIn wsX8_init wsX3_init := goodIn_r _ [90, 91, 2, 3, 65, 92, 93, 127, 128] rfl (by decide +kernel)
set_option maxRecDepth 20000 in
theorem gX8_init_X3_init_n57 : GoodIn wsX8_init (wsX3_init) := ggX8_init_X3_init
theorem dX8_init_0 : decode cX8_init 0 = .ok (.aload_n 0, 1) := by decide +kernel
theorem dX8_init_1 : decode cX8_init 1 = .ok (.invokespecial 1, 3) := by decide +kernel
theorem dX8_init_4 : decode cX8_init 4 = .ok (.aload_n 0, 1) := by decide +kernel
theorem dX8_init_5 : decode cX8_init 5 = .ok (.new 7, 3) := by decide +kernel
theorem dX8_init_8 : decode cX8_init 8 = .ok (.dup, 1) := by decide +kernel
theorem dX8_init_9 : decode cX8_init 9 = .ok (.invokespecial 9, 3) := by decide +kernel
theorem dX8_init_12 : decode cX8_init 12 = .ok (.putfield 10, 3) := by decide +kernel
theorem dX8_init_15 : decode cX8_init 15 = .ok (.aload_n 0, 1) := by decide +kernel
theorem dX8_init_16 : decode cX8_init 16 = .ok (.new 7, 3) := by decide +kernel
theorem dX8_init_19 : decode cX8_init 19 = .ok (.dup, 1) := by decide +kernel
theorem dX8_init_20 : decode cX8_init 20 = .ok (.invokespecial 9, 3) := by decide +kernel
theorem dX8_init_23 : decode cX8_init 23 = .ok (.putfield 16, 3) := by decide +kernel
theorem dX8_init_26 : decode cX8_init 26 = .ok (.aload_n 0, 1) := by decide +kernel
theorem dX8_init_27 : decode cX8_init 27 = .ok (.new 19, 3) := by decide +kernel
theorem dX8_init_30 : decode cX8_init 30 = .ok (.dup, 1) := by decide +kernel
theorem dX8_init_31 : decode cX8_init 31 = .ok (.invokespecial 21, 3) := by decide +kernel
theorem dX8_init_34 : decode cX8_init 34 = .ok (.putfield 22, 3) := by decide +kernel
theorem dX8_init_37 : decode cX8_init 37 = .ok (.aload_n 0, 1) := by decide +kernel
theorem dX8_init_38 : decode cX8_init 38 = .ok (.new 26, 3) := by decide +kernel
theorem dX8_init_41 : decode cX8_init 41 = .ok (.dup, 1) := by decide +kernel
theorem dX8_init_42 : decode cX8_init 42 = .ok (.invokespecial 28, 3) := by decide +kernel
theorem dX8_init_45 : decode cX8_init 45 = .ok (.putfield 29, 3) := by decide +kernel
theorem dX8_init_48 : decode cX8_init 48 = .ok (.aload_n 0, 1) := by decide +kernel
theorem dX8_init_49 : decode cX8_init 49 = .ok (.iconst 2, 1) := by decide +kernel
theorem dX8_init_50 : decode cX8_init 50 = .ok (.anewarray 7, 3) := by decide +kernel
theorem dX8_init_53 : decode cX8_init 53 = .ok (.putfield 33, 3) := by decide +kernel
theorem dX8_init_56 : decode cX8_init 56 = .ok (.iconst 0, 1) := by decide +kernel
theorem dX8_init_57 : decode cX8_init 57 = .ok (.istore_n 1, 1) := by decide +kernel
theorem dX8_init_58 : decode cX8_init 58 = .ok (.iload_n 1, 1) := by decide +kernel
theorem dX8_init_59 : decode cX8_init 59 = .ok (.iconst 2, 1) := by decide +kernel
theorem dX8_init_60 : decode cX8_init 60 = .ok (.if_icmp .ge 22, 3) := by decide +kernel
theorem dX8_init_63 : decode cX8_init 63 = .ok (.aload_n 0, 1) := by decide +kernel
theorem dX8_init_64 : decode cX8_init 64 = .ok (.getfield 33, 3) := by decide +kernel
theorem dX8_init_67 : decode cX8_init 67 = .ok (.iload_n 1, 1) := by decide +kernel
theorem dX8_init_68 : decode cX8_init 68 = .ok (.new 7, 3) := by decide +kernel
theorem dX8_init_71 : decode cX8_init 71 = .ok (.dup, 1) := by decide +kernel
theorem dX8_init_72 : decode cX8_init 72 = .ok (.invokespecial 9, 3) := by decide +kernel
theorem dX8_init_75 : decode cX8_init 75 = .ok (.aastore, 1) := by decide +kernel
theorem dX8_init_76 : decode cX8_init 76 = .ok (.iinc 1 1, 3) := by decide +kernel
theorem dX8_init_79 : decode cX8_init 79 = .ok (.goto (-21), 3) := by decide +kernel
theorem dX8_init_82 : decode cX8_init 82 = .ok (.aload_n 0, 1) := by decide +kernel
theorem dX8_init_83 : decode cX8_init 83 = .ok (.iconst 2, 1) := by decide +kernel
theorem dX8_init_84 : decode cX8_init 84 = .ok (.newarray .boolean, 2) := by decide +kernel
theorem dX8_init_86 : decode cX8_init 86 = .ok (.putfield 37, 3) := by decide +kernel
theorem dX8_init_89 : decode cX8_init 89 = .ok (.aload_n 0, 1) := by decide +kernel
theorem dX8_init_90 : decode cX8_init 90 = .ok (.new 41, 3) := by decide +kernel
theorem dX8_init_93 : decode cX8_init 93 = .ok (.dup, 1) := by decide +kernel
theorem dX8_init_94 : decode cX8_init 94 = .ok (.invokespecial 43, 3) := by decide +kernel
theorem dX8_init_97 : decode cX8_init 97 = .ok (.putfield 44, 3) := by decide +kernel
theorem dX8_init_100 : decode cX8_init 100 = .ok (.aload_n 0, 1) := by decide +kernel
theorem dX8_init_101 : decode cX8_init 101 = .ok (.new 48, 3) := by decide +kernel
theorem dX8_init_104 : decode cX8_init 104 = .ok (.dup, 1) := by decide +kernel
theorem dX8_init_105 : decode cX8_init 105 = .ok (.invokespecial 50, 3) := by decide +kernel
theorem dX8_init_108 : decode cX8_init 108 = .ok (.putfield 51, 3) := by decide +kernel
theorem dX8_init_111 : decode cX8_init 111 = .ok (.aload_n 0, 1) := by decide +kernel
theorem dX8_init_112 : decode cX8_init 112 = .ok (.new 55, 3) := by decide +kernel
theorem dX8_init_115 : decode cX8_init 115 = .ok (.dup, 1) := by decide +kernel
theorem dX8_init_116 : decode cX8_init 116 = .ok (.invokespecial 57, 3) := by decide +kernel
theorem dX8_init_119 : decode cX8_init 119 = .ok (.putfield 58, 3) := by decide +kernel
theorem dX8_init_122 : decode cX8_init 122 = .ok (.return_, 1) := by decide +kernel
set_option maxRecDepth 20000 in
theorem ggX8_append_X7_addFour : GoodIn wsX8_append wsX7_addFour := goodIn_r _ [8, 9, 10, 29, 30, 31, 32, 33] rfl (by decide +kernel)
set_option maxRecDepth 20000 in
theorem gX8_append_X7_addFour : GoodIn wsX8_append (wsV RX8 72 RX7 yX7_addFour wsX7_addFour) := goodIn_app (goodIn_r _ [4, 5, 6, 7] rfl (by decide +kernel)) ggX8_append_X7_addFour
theorem dX8_append_0 : decode cX8_append 0 = .ok (.aload_n 0, 1) := by decide +kernel
theorem dX8_append_1 : decode cX8_append 1 = .ok (.getfield 22, 3) := by decide +kernel
theorem dX8_append_4 : decode cX8_append 4 = .ok (.getfield 62, 3) := by decide +kernel
theorem dX8_append_7 : decode cX8_append 7 = .ok (.astore 6, 2) := by decide +kernel
theorem dX8_append_9 : decode cX8_append 9 = .ok (.aload 6, 2) := by decide +kernel
theorem dX8_append_11 : decode cX8_append 11 = .ok (.getfield 66, 3) := by decide +kernel
theorem dX8_append_14 : decode cX8_append 14 = .ok (.bipush 20, 2) := by decide +kernel
theorem dX8_append_16 : decode cX8_append 16 = .ok (.iadd, 1) := by decide +kernel
theorem dX8_append_17 : decode cX8_append 17 = .ok (.sipush 500, 3) := by decide +kernel
theorem dX8_append_20 : decode cX8_append 20 = .ok (.if_icmp .le 5, 3) := by decide +kernel
theorem dX8_append_23 : decode cX8_append 23 = .ok (.iconst (-1), 1) := by decide +kernel
theorem dX8_append_24 : decode cX8_append 24 = .ok (.ireturn, 1) := by decide +kernel
theorem dX8_append_25 : decode cX8_append 25 = .ok (.aload 6, 2) := by decide +kernel
theorem dX8_append_27 : decode cX8_append 27 = .ok (.iload_n 1, 1) := by decide +kernel
theorem dX8_append_28 : decode cX8_append 28 = .ok (.invokevirtual 72, 3) := by decide +kernel
theorem dX8_append_31 : decode cX8_append 31 = .ok (.aload 6, 2) := by decide +kernel
theorem dX8_append_33 : decode cX8_append 33 = .ok (.iload_n 2, 1) := by decide +kernel
theorem dX8_append_34 : decode cX8_append 34 = .ok (.invokevirtual 72, 3) := by decide +kernel
theorem dX8_append_37 : decode cX8_append 37 = .ok (.aload 6, 2) := by decide +kernel
theorem dX8_append_39 : decode cX8_append 39 = .ok (.iload_n 3, 1) := by decide +kernel
theorem dX8_append_40 : decode cX8_append 40 = .ok (.invokevirtual 72, 3) := by decide +kernel
theorem dX8_append_43 : decode cX8_append 43 = .ok (.aload 6, 2) := by decide +kernel
theorem dX8_append_45 : decode cX8_append 45 = .ok (.iload 4, 2) := by decide +kernel
theorem dX8_append_47 : decode cX8_append 47 = .ok (.invokevirtual 72, 3) := by decide +kernel
theorem dX8_append_50 : decode cX8_append 50 = .ok (.aload 6, 2) := by decide +kernel
theorem dX8_append_52 : decode cX8_append 52 = .ok (.iload 5, 2) := by decide +kernel
theorem dX8_append_54 : decode cX8_append 54 = .ok (.invokevirtual 72, 3) := by decide +kernel
theorem dX8_append_57 : decode cX8_append 57 = .ok (.aload 6, 2) := by decide +kernel
theorem dX8_append_59 : decode cX8_append 59 = .ok (.getfield 66, 3) := by decide +kernel
theorem dX8_append_62 : decode cX8_append 62 = .ok (.ireturn, 1) := by decide +kernel
theorem dX8_truncate_0 : decode cX8_truncate 0 = .ok (.iload_n 1, 1) := by decide +kernel
theorem dX8_truncate_1 : decode cX8_truncate 1 = .ok (.ifCond .lt 17, 3) := by decide +kernel
theorem dX8_truncate_4 : decode cX8_truncate 4 = .ok (.iload_n 1, 1) := by decide +kernel
theorem dX8_truncate_5 : decode cX8_truncate 5 = .ok (.aload_n 0, 1) := by decide +kernel
theorem dX8_truncate_6 : decode cX8_truncate 6 = .ok (.getfield 22, 3) := by decide +kernel
theorem dX8_truncate_9 : decode cX8_truncate 9 = .ok (.getfield 62, 3) := by decide +kernel
theorem dX8_truncate_12 : decode cX8_truncate 12 = .ok (.getfield 66, 3) := by decide +kernel
theorem dX8_truncate_15 : decode cX8_truncate 15 = .ok (.if_icmp .le 5, 3) := by decide +kernel
theorem dX8_truncate_18 : decode cX8_truncate 18 = .ok (.iconst 0, 1) := by decide +kernel
theorem dX8_truncate_19 : decode cX8_truncate 19 = .ok (.ireturn, 1) := by decide +kernel
theorem dX8_truncate_20 : decode cX8_truncate 20 = .ok (.aload_n 0, 1) := by decide +kernel
theorem dX8_truncate_21 : decode cX8_truncate 21 = .ok (.getfield 22, 3) := by decide +kernel
theorem dX8_truncate_24 : decode cX8_truncate 24 = .ok (.getfield 62, 3) := by decide +kernel
theorem dX8_truncate_27 : decode cX8_truncate 27 = .ok (.iload_n 1, 1) := by decide +kernel
theorem dX8_truncate_28 : decode cX8_truncate 28 = .ok (.putfield 66, 3) := by decide +kernel
theorem dX8_truncate_31 : decode cX8_truncate 31 = .ok (.iconst 1, 1) := by decide +kernel
theorem dX8_truncate_32 : decode cX8_truncate 32 = .ok (.ireturn, 1) := by decide +kernel
set_option maxRecDepth 20000 in
theorem ggX8_load_X6_begin : GoodIn wsX8_load wsX6_begin := goodIn_r _ [14, 15, 16, 17, 18, 19, 20, 21, 22, 23, 24, 25, 26, 27, 28, 29, 30, 31, 32, 385, 386, 387, 388, 389, 390, 391, 392, 393, 402, 403, 404, 405, 406] rfl (by decide +kernel)
set_option maxRecDepth 20000 in
theorem gX8_load_X6_begin : GoodIn wsX8_load (wsV RX8 76 RX6 yX6_begin wsX6_begin) := goodIn_app (goodIn_r _ [10, 11, 12, 13] rfl (by decide +kernel)) ggX8_load_X6_begin
set_option maxRecDepth 20000 in
theorem ggX8_load_X6_readHeader : GoodIn wsX8_load wsX6_readHeader := goodIn_r _ [36, 18, 37, 38, 39, 40, 41, 22, 42, 32, 24, 29, 30, 31, 43, 44, 45, 46, 47, 48, 49, 50, 51, 52, 53, 54, 55, 56, 57, 58, 59, 60, 61, 62, 63, 64, 65, 66, 67, 68, 69, 70, 71, 72, 73, 74, 75, 76, 77, 78, 79, 80, 81, 82, 83, 84, 85, 86, 87, 88, 89, 90, 91, 92, 93, 94, 13, 95, 15, 16, 96, 26, 27, 28, 97, 98, 99, 100, 101, 102, 103, 104, 105, 106, 107, 108, 109, 110, 111, 112, 113, 114, 115, 116, 117, 118, 119, 120, 385, 386, 387, 388, 389, 390, 391, 392, 393, 402, 403, 404, 405, 406, 394, 395, 396, 397, 398, 399, 400, 401] rfl (by decide +kernel)
set_option maxRecDepth 20000 in
theorem gX8_load_X6_readHeader : GoodIn wsX8_load (wsV RX8 79 RX6 yX6_readHeader wsX6_readHeader) := goodIn_app (goodIn_r _ [33, 34, 35, 13] rfl (by decide +kernel)) ggX8_load_X6_readHeader
set_option maxRecDepth 20000 in
theorem ggX8_load_X6_readCommands : GoodIn wsX8_load wsX6_readCommands := goodIn_r _ [124, 18, 101, 37, 17, 102, 103, 104, 13, 105, 15, 39, 40, 41, 22, 42, 32, 24, 29, 30, 31, 43, 44, 45, 46, 47, 48, 49, 50, 51, 52, 53, 54, 55, 56, 57, 58, 59, 60, 61, 62, 63, 64, 65, 66, 67, 68, 69, 70, 71, 72, 73, 74, 75, 76, 77, 78, 79, 80, 81, 82, 83, 84, 85, 86, 87, 88, 89, 90, 91, 125, 126, 127, 128, 38, 129, 130, 131, 132, 133, 117, 134, 120, 92, 93, 94, 95, 16, 96, 26, 27, 28, 135, 136, 137, 138, 139, 140, 141, 142, 143, 144, 145, 146, 147, 148, 149, 150, 151, 152, 153, 154, 155, 156, 157, 158, 159, 160, 161, 162, 163, 164, 165, 166, 167, 168, 169, 170, 171, 172, 173, 174, 175, 97, 98, 99, 100, 106, 107, 108, 109, 176, 177, 178, 179, 180, 181, 182, 183, 184, 185, 186, 187, 188, 189, 190, 191, 192, 193, 194, 195, 196, 197, 198, 199, 200, 201, 202, 203, 204, 205, 206, 207, 208, 209, 210, 211, 212, 213, 214, 215, 216, 217, 218, 219, 220, 221, 222, 223, 224, 225, 226, 227, 228, 229, 230, 231, 232, 233, 234, 235, 236, 237, 238, 239, 240, 241, 242, 243, 244, 245, 246, 247, 248, 249, 250, 251, 252, 253, 254, 255, 256, 257, 258, 259, 260, 261, 262, 263, 264, 265, 266, 267, 268, 269, 270, 271, 272, 273, 274, 275, 276, 277, 278, 279, 280, 281, 282, 283, 284, 285, 286, 287, 288, 289, 290, 291, 292, 293, 294, 295, 296, 297, 298, 299, 300, 301, 302, 303, 304, 305, 306, 307, 308, 309, 310, 311, 312, 313, 314, 119, 315, 316, 317, 318, 319, 320, 321, 322, 323, 324, 325, 326, 327, 328, 329, 330, 331, 332, 333, 334, 335, 336, 337, 338, 339, 340, 341, 342, 343, 344, 345, 346, 347, 348, 349, 350, 351, 352, 353, 354, 355, 356, 110, 111, 112, 113, 385, 386, 387, 388, 389, 390, 391, 392, 393, 402, 403, 404, 405, 406, 394, 395, 396, 397, 398, 399, 400, 401, 407, 408, 409, 410] rfl (by decide +kernel)
set_option maxRecDepth 20000 in
theorem gX8_load_X6_readCommands : GoodIn wsX8_load (wsV RX8 82 RX6 yX6_readCommands wsX6_readCommands) := goodIn_app (goodIn_r _ [121, 122, 123, 13] rfl (by decide +kernel)) ggX8_load_X6_readCommands
set_option maxRecDepth 20000 in
theorem ggX8_load_X6_end : GoodIn wsX8_load wsX6_end := goodIn_r _ [360, 18, 361, 385, 386, 387, 388, 389, 390, 391, 392, 393, 402, 403, 404, 405, 406] rfl (by decide +kernel)
set_option maxRecDepth 20000 in
theorem gX8_load_X6_end : GoodIn wsX8_load (wsV RX8 85 RX6 yX6_end wsX6_end) := goodIn_app (goodIn_r _ [357, 358, 359, 13] rfl (by decide +kernel)) ggX8_load_X6_end
set_option maxRecDepth 20000 in
theorem ggX8_load_X0_copyFrom : GoodIn wsX8_load wsX0_copyFrom := goodIn_r _ [365, 119, 120, 156, 366, 367, 368, 369, 157, 162, 163, 164, 165, 394, 395, 396, 397, 398, 399, 400, 401] rfl (by decide +kernel)
set_option maxRecDepth 20000 in
theorem gX8_load_X0_copyFrom : GoodIn wsX8_load (wsV RX8 101 RX0 yX0_copyFrom wsX0_copyFrom) := goodIn_app (goodIn_r _ [362, 363, 364, 117] rfl (by decide +kernel)) ggX8_load_X0_copyFrom
set_option maxRecDepth 20000 in
theorem ggX8_load_X1_clear : GoodIn wsX8_load wsX1_clear := goodIn_r _ [374, 375, 411, 412, 413] rfl (by decide +kernel)
set_option maxRecDepth 20000 in
theorem gX8_load_X1_clear : GoodIn wsX8_load (wsV RX8 105 RX1 yX1_clear wsX1_clear) := goodIn_app (goodIn_r _ [370, 371, 372, 373] rfl (by decide +kernel)) ggX8_load_X1_clear
theorem dX8_load_0 : decode cX8_load 0 = .ok (.aload_n 0, 1) := by decide +kernel
theorem dX8_load_1 : decode cX8_load 1 = .ok (.getfield 22, 3) := by decide +kernel
theorem dX8_load_4 : decode cX8_load 4 = .ok (.invokevirtual 76, 3) := by decide +kernel
theorem dX8_load_7 : decode cX8_load 7 = .ok (.aload_n 0, 1) := by decide +kernel
theorem dX8_load_8 : decode cX8_load 8 = .ok (.getfield 22, 3) := by decide +kernel
theorem dX8_load_11 : decode cX8_load 11 = .ok (.invokevirtual 79, 3) := by decide +kernel
theorem dX8_load_14 : decode cX8_load 14 = .ok (.aload_n 0, 1) := by decide +kernel
theorem dX8_load_15 : decode cX8_load 15 = .ok (.getfield 22, 3) := by decide +kernel
theorem dX8_load_18 : decode cX8_load 18 = .ok (.invokevirtual 82, 3) := by decide +kernel
theorem dX8_load_21 : decode cX8_load 21 = .ok (.aload_n 0, 1) := by decide +kernel
theorem dX8_load_22 : decode cX8_load 22 = .ok (.getfield 22, 3) := by decide +kernel
theorem dX8_load_25 : decode cX8_load 25 = .ok (.invokevirtual 85, 3) := by decide +kernel
theorem dX8_load_28 : decode cX8_load 28 = .ok (.aload_n 0, 1) := by decide +kernel
theorem dX8_load_29 : decode cX8_load 29 = .ok (.getfield 22, 3) := by decide +kernel
theorem dX8_load_32 : decode cX8_load 32 = .ok (.getfield 88, 3) := by decide +kernel
theorem dX8_load_35 : decode cX8_load 35 = .ok (.ifCond .eq 13, 3) := by decide +kernel
theorem dX8_load_38 : decode cX8_load 38 = .ok (.new 91, 3) := by decide +kernel
theorem dX8_load_41 : decode cX8_load 41 = .ok (.dup, 1) := by decide +kernel
theorem dX8_load_42 : decode cX8_load 42 = .ok (.ldc 93, 2) := by decide +kernel
theorem dX8_load_44 : decode cX8_load 44 = .ok (.invokespecial 95, 3) := by decide +kernel
theorem dX8_load_47 : decode cX8_load 47 = .ok (.athrow, 1) := by decide +kernel
theorem dX8_load_48 : decode cX8_load 48 = .ok (.aload_n 0, 1) := by decide +kernel
theorem dX8_load_49 : decode cX8_load 49 = .ok (.getfield 10, 3) := by decide +kernel
theorem dX8_load_52 : decode cX8_load 52 = .ok (.aload_n 0, 1) := by decide +kernel
theorem dX8_load_53 : decode cX8_load 53 = .ok (.getfield 22, 3) := by decide +kernel
theorem dX8_load_56 : decode cX8_load 56 = .ok (.getfield 98, 3) := by decide +kernel
theorem dX8_load_59 : decode cX8_load 59 = .ok (.invokevirtual 101, 3) := by decide +kernel
theorem dX8_load_62 : decode cX8_load 62 = .ok (.aload_n 0, 1) := by decide +kernel
theorem dX8_load_63 : decode cX8_load 63 = .ok (.getfield 29, 3) := by decide +kernel
theorem dX8_load_66 : decode cX8_load 66 = .ok (.invokevirtual 105, 3) := by decide +kernel
theorem dX8_load_69 : decode cX8_load 69 = .ok (.iconst 0, 1) := by decide +kernel
theorem dX8_load_70 : decode cX8_load 70 = .ok (.istore_n 1, 1) := by decide +kernel
theorem dX8_load_71 : decode cX8_load 71 = .ok (.iload_n 1, 1) := by decide +kernel
theorem dX8_load_72 : decode cX8_load 72 = .ok (.iconst 2, 1) := by decide +kernel
theorem dX8_load_73 : decode cX8_load 73 = .ok (.if_icmp .ge 16, 3) := by decide +kernel
theorem dX8_load_76 : decode cX8_load 76 = .ok (.aload_n 0, 1) := by decide +kernel
theorem dX8_load_77 : decode cX8_load 77 = .ok (.getfield 37, 3) := by decide +kernel
theorem dX8_load_80 : decode cX8_load 80 = .ok (.iload_n 1, 1) := by decide +kernel
theorem dX8_load_81 : decode cX8_load 81 = .ok (.iconst 0, 1) := by decide +kernel
theorem dX8_load_82 : decode cX8_load 82 = .ok (.bastore, 1) := by decide +kernel
theorem dX8_load_83 : decode cX8_load 83 = .ok (.iinc 1 1, 3) := by decide +kernel
theorem dX8_load_86 : decode cX8_load 86 = .ok (.goto (-15), 3) := by decide +kernel
theorem dX8_load_89 : decode cX8_load 89 = .ok (.aload_n 0, 1) := by decide +kernel
theorem dX8_load_90 : decode cX8_load 90 = .ok (.getfield 10, 3) := by decide +kernel
theorem dX8_load_93 : decode cX8_load 93 = .ok (.getfield 108, 3) := by decide +kernel
theorem dX8_load_96 : decode cX8_load 96 = .ok (.ireturn, 1) := by decide +kernel
set_option maxRecDepth 20000 in
theorem ggX8_play_X6_begin : GoodIn wsX8_play wsX6_begin := goodIn_r _ [13, 14, 15, 16, 17, 18, 19, 20, 21, 22, 23, 24, 25, 26, 27, 28, 29, 30, 31, 382, 383, 384, 385, 386, 387, 388, 389, 390, 391, 392, 393, 394, 395] rfl (by decide +kernel)
set_option maxRecDepth 20000 in
theorem gX8_play_X6_begin : GoodIn wsX8_play (wsV RX8 76 RX6 yX6_begin wsX6_begin) := goodIn_app (goodIn_r _ [9, 10, 11, 12] rfl (by decide +kernel)) ggX8_play_X6_begin
set_option maxRecDepth 20000 in
theorem ggX8_play_X0_copyFrom : GoodIn wsX8_play wsX0_copyFrom := goodIn_r _ [36, 37, 38, 39, 40, 41, 42, 43, 44, 45, 46, 47, 48, 396, 397, 398, 399, 400, 401, 402, 403] rfl (by decide +kernel)
set_option maxRecDepth 20000 in
theorem gX8_play_X0_copyFrom : GoodIn wsX8_play (wsV RX8 101 RX0 yX0_copyFrom wsX0_copyFrom) := goodIn_app (goodIn_r _ [32, 33, 34, 35] rfl (by decide +kernel)) ggX8_play_X0_copyFrom
set_option maxRecDepth 20000 in
theorem ggX8_play_X6_readCommands : GoodIn wsX8_play wsX6_readCommands := goodIn_r _ [52, 17, 53, 54, 16, 55, 56, 57, 12, 58, 14, 59, 60, 61, 21, 62, 31, 23, 28, 29, 30, 63, 64, 65, 66, 67, 68, 69, 70, 71, 72, 73, 74, 75, 76, 77, 78, 79, 80, 81, 82, 83, 84, 85, 86, 87, 88, 89, 90, 91, 92, 93, 94, 95, 96, 97, 98, 99, 100, 101, 102, 103, 104, 105, 106, 107, 108, 109, 110, 111, 112, 113, 114, 115, 116, 117, 118, 119, 120, 121, 35, 122, 38, 123, 124, 125, 126, 15, 127, 25, 26, 27, 128, 129, 130, 131, 132, 133, 134, 135, 136, 137, 138, 139, 140, 141, 142, 143, 144, 145, 146, 147, 148, 39, 44, 149, 150, 151, 152, 45, 46, 47, 48, 153, 154, 155, 156, 157, 158, 159, 160, 161, 162, 163, 164, 165, 166, 167, 168, 169, 170, 171, 172, 173, 174, 175, 176, 177, 178, 179, 180, 181, 182, 183, 184, 185, 186, 187, 188, 189, 190, 191, 192, 193, 194, 195, 196, 197, 198, 199, 200, 201, 202, 203, 204, 205, 206, 207, 208, 209, 210, 211, 212, 213, 214, 215, 216, 217, 218, 219, 220, 221, 222, 223, 224, 225, 226, 227, 228, 229, 230, 231, 232, 233, 234, 235, 236, 237, 238, 239, 240, 241, 242, 243, 244, 245, 246, 247, 248, 249, 250, 251, 252, 253, 254, 255, 256, 257, 258, 259, 260, 261, 262, 263, 264, 265, 266, 267, 268, 269, 270, 271, 272, 273, 274, 275, 276, 277, 278, 279, 280, 281, 282, 283, 284, 285, 286, 287, 288, 289, 290, 291, 292, 293, 294, 295, 296, 297, 298, 299, 300, 301, 302, 303, 304, 305, 306, 307, 308, 309, 37, 310, 311, 312, 313, 314, 315, 316, 317, 318, 319, 320, 321, 322, 323, 324, 325, 326, 327, 328, 329, 330, 331, 332, 333, 334, 335, 336, 337, 338, 339, 340, 341, 342, 343, 344, 345, 346, 347, 348, 349, 350, 351, 352, 353, 354, 355, 382, 383, 384, 385, 386, 387, 388, 389, 390, 391, 392, 393, 394, 395, 396, 397, 398, 399, 400, 401, 402, 403, 404, 405, 406, 407] rfl (by decide +kernel)
set_option maxRecDepth 20000 in
theorem gX8_play_X6_readCommands : GoodIn wsX8_play (wsV RX8 82 RX6 yX6_readCommands wsX6_readCommands) := goodIn_app (goodIn_r _ [49, 50, 51, 12] rfl (by decide +kernel)) ggX8_play_X6_readCommands
set_option maxRecDepth 20000 in
theorem ggX8_play_X6_end : GoodIn wsX8_play wsX6_end := goodIn_r _ [359, 17, 360, 382, 383, 384, 385, 386, 387, 388, 389, 390, 391, 392, 393, 394, 395] rfl (by decide +kernel)
set_option maxRecDepth 20000 in
theorem gX8_play_X6_end : GoodIn wsX8_play (wsV RX8 85 RX6 yX6_end wsX6_end) := goodIn_app (goodIn_r _ [356, 357, 358, 12] rfl (by decide +kernel)) ggX8_play_X6_end
set_option maxRecDepth 20000 in
theorem ggX8_play_X1_push : GoodIn wsX8_play wsX1_push := goodIn_r _ [365, 366, 367, 368, 369, 370, 205, 371, 372, 33, 34, 35, 36, 37, 38, 39, 40, 41, 42, 43, 44, 45, 46, 47, 48, 408, 409, 410, 396, 397, 398, 399, 400, 401, 402, 403] rfl (by decide +kernel)
set_option maxRecDepth 20000 in
theorem gX8_play_X1_push : GoodIn wsX8_play (wsV RX8 113 RX1 yX1_push wsX1_push) := goodIn_app (goodIn_r _ [361, 362, 363, 364] rfl (by decide +kernel)) ggX8_play_X1_push
theorem dX8_play_0 : decode cX8_play 0 = .ok (.aload_n 0, 1) := by decide +kernel
theorem dX8_play_1 : decode cX8_play 1 = .ok (.getfield 22, 3) := by decide +kernel
theorem dX8_play_4 : decode cX8_play 4 = .ok (.invokevirtual 76, 3) := by decide +kernel
theorem dX8_play_7 : decode cX8_play 7 = .ok (.aload_n 0, 1) := by decide +kernel
theorem dX8_play_8 : decode cX8_play 8 = .ok (.getfield 22, 3) := by decide +kernel
theorem dX8_play_11 : decode cX8_play 11 = .ok (.getfield 98, 3) := by decide +kernel
theorem dX8_play_14 : decode cX8_play 14 = .ok (.aload_n 0, 1) := by decide +kernel
theorem dX8_play_15 : decode cX8_play 15 = .ok (.getfield 10, 3) := by decide +kernel
theorem dX8_play_18 : decode cX8_play 18 = .ok (.invokevirtual 101, 3) := by decide +kernel
theorem dX8_play_21 : decode cX8_play 21 = .ok (.aload_n 0, 1) := by decide +kernel
theorem dX8_play_22 : decode cX8_play 22 = .ok (.getfield 22, 3) := by decide +kernel
theorem dX8_play_25 : decode cX8_play 25 = .ok (.invokevirtual 82, 3) := by decide +kernel
theorem dX8_play_28 : decode cX8_play 28 = .ok (.aload_n 0, 1) := by decide +kernel
theorem dX8_play_29 : decode cX8_play 29 = .ok (.getfield 22, 3) := by decide +kernel
theorem dX8_play_32 : decode cX8_play 32 = .ok (.invokevirtual 85, 3) := by decide +kernel
theorem dX8_play_35 : decode cX8_play 35 = .ok (.aload_n 0, 1) := by decide +kernel
theorem dX8_play_36 : decode cX8_play 36 = .ok (.getfield 22, 3) := by decide +kernel
theorem dX8_play_39 : decode cX8_play 39 = .ok (.getfield 88, 3) := by decide +kernel
theorem dX8_play_42 : decode cX8_play 42 = .ok (.ifCond .eq 13, 3) := by decide +kernel
theorem dX8_play_45 : decode cX8_play 45 = .ok (.new 91, 3) := by decide +kernel
theorem dX8_play_48 : decode cX8_play 48 = .ok (.dup, 1) := by decide +kernel
theorem dX8_play_49 : decode cX8_play 49 = .ok (.ldc 111, 2) := by decide +kernel
theorem dX8_play_51 : decode cX8_play 51 = .ok (.invokespecial 95, 3) := by decide +kernel
theorem dX8_play_54 : decode cX8_play 54 = .ok (.athrow, 1) := by decide +kernel
theorem dX8_play_55 : decode cX8_play 55 = .ok (.aload_n 0, 1) := by decide +kernel
theorem dX8_play_56 : decode cX8_play 56 = .ok (.getfield 29, 3) := by decide +kernel
theorem dX8_play_59 : decode cX8_play 59 = .ok (.aload_n 0, 1) := by decide +kernel
theorem dX8_play_60 : decode cX8_play 60 = .ok (.getfield 10, 3) := by decide +kernel
theorem dX8_play_63 : decode cX8_play 63 = .ok (.invokevirtual 113, 3) := by decide +kernel
theorem dX8_play_66 : decode cX8_play 66 = .ok (.aload_n 0, 1) := by decide +kernel
theorem dX8_play_67 : decode cX8_play 67 = .ok (.getfield 10, 3) := by decide +kernel
theorem dX8_play_70 : decode cX8_play 70 = .ok (.aload_n 0, 1) := by decide +kernel
theorem dX8_play_71 : decode cX8_play 71 = .ok (.getfield 22, 3) := by decide +kernel
theorem dX8_play_74 : decode cX8_play 74 = .ok (.getfield 98, 3) := by decide +kernel
theorem dX8_play_77 : decode cX8_play 77 = .ok (.invokevirtual 101, 3) := by decide +kernel
theorem dX8_play_80 : decode cX8_play 80 = .ok (.aload_n 0, 1) := by decide +kernel
theorem dX8_play_81 : decode cX8_play 81 = .ok (.getfield 22, 3) := by decide +kernel
theorem dX8_play_84 : decode cX8_play 84 = .ok (.getfield 116, 3) := by decide +kernel
theorem dX8_play_87 : decode cX8_play 87 = .ok (.ireturn, 1) := by decide +kernel
theorem dX8_parseError_0 : decode cX8_parseError 0 = .ok (.aload_n 0, 1) := by decide +kernel
theorem dX8_parseError_1 : decode cX8_parseError 1 = .ok (.getfield 22, 3) := by decide +kernel
theorem dX8_parseError_4 : decode cX8_parseError 4 = .ok (.getfield 88, 3) := by decide +kernel
theorem dX8_parseError_7 : decode cX8_parseError 7 = .ok (.ireturn, 1) := by decide +kernel
theorem dX8_parseErrorPosition_0 : decode cX8_parseErrorPosition 0 = .ok (.aload_n 0, 1) := by decide +kernel
theorem dX8_parseErrorPosition_1 : decode cX8_parseErrorPosition 1 = .ok (.getfield 22, 3) := by decide +kernel
theorem dX8_parseErrorPosition_4 : decode cX8_parseErrorPosition 4 = .ok (.getfield 119, 3) := by decide +kernel
theorem dX8_parseErrorPosition_7 : decode cX8_parseErrorPosition 7 = .ok (.ireturn, 1) := by decide +kernel
theorem dX8_variableCount_0 : decode cX8_variableCount 0 = .ok (.aload_n 0, 1) := by decide +kernel
theorem dX8_variableCount_1 : decode cX8_variableCount 1 = .ok (.getfield 10, 3) := by decide +kernel
theorem dX8_variableCount_4 : decode cX8_variableCount 4 = .ok (.getfield 122, 3) := by decide +kernel
theorem dX8_variableCount_7 : decode cX8_variableCount 7 = .ok (.ireturn, 1) := by decide +kernel
theorem dX8_clauseCount_0 : decode cX8_clauseCount 0 = .ok (.aload_n 0, 1) := by decide +kernel
theorem dX8_clauseCount_1 : decode cX8_clauseCount 1 = .ok (.getfield 10, 3) := by decide +kernel
theorem dX8_clauseCount_4 : decode cX8_clauseCount 4 = .ok (.getfield 108, 3) := by decide +kernel
theorem dX8_clauseCount_7 : decode cX8_clauseCount 7 = .ok (.ireturn, 1) := by decide +kernel
set_option maxRecDepth 20000 in
theorem ggX8_positiveOf_X8_checkClause : GoodIn wsX8_positiveOf wsX8_checkClause := goodIn_ca (goodIn_r _ [7, 8, 9, 1, 10, 11, 12, 13, 14, 15, 16, 17, 18, 19, 20, 21, 22, 23, 24, 25, 26, 27, 28, 29, 30, 31, 32] rfl (by decide +kernel)) (goodIn_sub (fun _ h => List.mem_cons_of_mem _ (List.mem_append_right _ h)) (by decide +kernel))
set_option maxRecDepth 20000 in
theorem gX8_positiveOf_X8_checkClause : GoodIn wsX8_positiveOf (wsV RX8 125 RX8 yX8_checkClause wsX8_checkClause) := goodIn_app (goodIn_r _ [3, 4, 5, 6] rfl (by decide +kernel)) ggX8_positiveOf_X8_checkClause
theorem dX8_positiveOf_0 : decode cX8_positiveOf 0 = .ok (.aload_n 0, 1) := by decide +kernel
theorem dX8_positiveOf_1 : decode cX8_positiveOf 1 = .ok (.iload_n 1, 1) := by decide +kernel
theorem dX8_positiveOf_2 : decode cX8_positiveOf 2 = .ok (.invokevirtual 125, 3) := by decide +kernel
theorem dX8_positiveOf_5 : decode cX8_positiveOf 5 = .ok (.aload_n 0, 1) := by decide +kernel
theorem dX8_positiveOf_6 : decode cX8_positiveOf 6 = .ok (.getfield 10, 3) := by decide +kernel
theorem dX8_positiveOf_9 : decode cX8_positiveOf 9 = .ok (.getfield 128, 3) := by decide +kernel
theorem dX8_positiveOf_12 : decode cX8_positiveOf 12 = .ok (.iload_n 1, 1) := by decide +kernel
theorem dX8_positiveOf_13 : decode cX8_positiveOf 13 = .ok (.iaload, 1) := by decide +kernel
theorem dX8_positiveOf_14 : decode cX8_positiveOf 14 = .ok (.ireturn, 1) := by decide +kernel
set_option maxRecDepth 20000 in
theorem ggX8_negativeOf_X8_checkClause : GoodIn wsX8_negativeOf wsX8_checkClause := goodIn_ca (goodIn_r _ [7, 8, 9, 1, 10, 11, 12, 13, 14, 15, 16, 17, 18, 19, 20, 21, 22, 23, 24, 25, 26, 27, 28, 29, 30, 31, 32] rfl (by decide +kernel)) (goodIn_sub (fun _ h => List.mem_cons_of_mem _ (List.mem_append_right _ h)) (by decide +kernel))
set_option maxRecDepth 20000 in
theorem gX8_negativeOf_X8_checkClause : GoodIn wsX8_negativeOf (wsV RX8 125 RX8 yX8_checkClause wsX8_checkClause) := goodIn_app (goodIn_r _ [3, 4, 5, 6] rfl (by decide +kernel)) ggX8_negativeOf_X8_checkClause
theorem dX8_negativeOf_0 : decode cX8_negativeOf 0 = .ok (.aload_n 0, 1) := by decide +kernel
theorem dX8_negativeOf_1 : decode cX8_negativeOf 1 = .ok (.iload_n 1, 1) := by decide +kernel
theorem dX8_negativeOf_2 : decode cX8_negativeOf 2 = .ok (.invokevirtual 125, 3) := by decide +kernel
theorem dX8_negativeOf_5 : decode cX8_negativeOf 5 = .ok (.aload_n 0, 1) := by decide +kernel
theorem dX8_negativeOf_6 : decode cX8_negativeOf 6 = .ok (.getfield 10, 3) := by decide +kernel
theorem dX8_negativeOf_9 : decode cX8_negativeOf 9 = .ok (.getfield 132, 3) := by decide +kernel
theorem dX8_negativeOf_12 : decode cX8_negativeOf 12 = .ok (.iload_n 1, 1) := by decide +kernel
theorem dX8_negativeOf_13 : decode cX8_negativeOf 13 = .ok (.iaload, 1) := by decide +kernel
theorem dX8_negativeOf_14 : decode cX8_negativeOf 14 = .ok (.ireturn, 1) := by decide +kernel
set_option maxRecDepth 20000 in
theorem ggX8_sizeOf_X8_checkClause : GoodIn wsX8_sizeOf wsX8_checkClause := goodIn_ca (goodIn_r _ [6, 7, 8, 1, 9, 10, 11, 12, 13, 14, 28, 29, 30, 31, 32, 33, 34, 35, 36, 37, 38, 39, 40, 41, 42, 43, 44] rfl (by decide +kernel)) (goodIn_sub (fun _ h => List.mem_cons_of_mem _ (List.mem_append_right _ h)) (by decide +kernel))
set_option maxRecDepth 20000 in
theorem gX8_sizeOf_X8_checkClause : GoodIn wsX8_sizeOf (wsV RX8 125 RX8 yX8_checkClause wsX8_checkClause) := goodIn_app (goodIn_r _ [2, 3, 4, 5] rfl (by decide +kernel)) ggX8_sizeOf_X8_checkClause
set_option maxRecDepth 20000 in
theorem ggX8_sizeOf_X0_literalsIn : GoodIn wsX8_sizeOf wsX0_literalsIn := goodIn_r _ [18, 19, 20, 21, 22, 23, 24, 25, 26, 27, 37, 38, 39, 40, 41, 42, 43, 44] rfl (by decide +kernel)
set_option maxRecDepth 20000 in
theorem gX8_sizeOf_X0_literalsIn : GoodIn wsX8_sizeOf (wsV RX8 135 RX0 yX0_literalsIn wsX0_literalsIn) := goodIn_app (goodIn_r _ [15, 16, 17, 12] rfl (by decide +kernel)) ggX8_sizeOf_X0_literalsIn
theorem dX8_sizeOf_0 : decode cX8_sizeOf 0 = .ok (.aload_n 0, 1) := by decide +kernel
theorem dX8_sizeOf_1 : decode cX8_sizeOf 1 = .ok (.iload_n 1, 1) := by decide +kernel
theorem dX8_sizeOf_2 : decode cX8_sizeOf 2 = .ok (.invokevirtual 125, 3) := by decide +kernel
theorem dX8_sizeOf_5 : decode cX8_sizeOf 5 = .ok (.aload_n 0, 1) := by decide +kernel
theorem dX8_sizeOf_6 : decode cX8_sizeOf 6 = .ok (.getfield 10, 3) := by decide +kernel
theorem dX8_sizeOf_9 : decode cX8_sizeOf 9 = .ok (.iload_n 1, 1) := by decide +kernel
theorem dX8_sizeOf_10 : decode cX8_sizeOf 10 = .ok (.invokevirtual 135, 3) := by decide +kernel
theorem dX8_sizeOf_13 : decode cX8_sizeOf 13 = .ok (.ireturn, 1) := by decide +kernel
set_option maxRecDepth 20000 in
theorem ggX8_find_X8_checkLiterals : GoodIn wsX8_find wsX8_checkLiterals := goodIn_ca (goodIn_r _ [6, 7, 8, 9, 10, 11, 5, 12, 1, 13, 14, 15, 16, 17, 18, 19, 20, 21, 22, 30, 31, 32, 33, 34, 35, 36, 37, 38, 39, 40, 41, 42, 43, 44, 45, 46] rfl (by decide +kernel)) (goodIn_sub (fun _ h => List.mem_cons_of_mem _ (List.mem_append_right _ h)) (by decide +kernel))
set_option maxRecDepth 20000 in
theorem gX8_find_X8_checkLiterals : GoodIn wsX8_find (wsV RX8 139 RX8 yX8_checkLiterals wsX8_checkLiterals) := goodIn_app (goodIn_r _ [2, 3, 4, 5] rfl (by decide +kernel)) ggX8_find_X8_checkLiterals
set_option maxRecDepth 20000 in
theorem ggX8_find_X0_indexOf : GoodIn wsX8_find wsX0_indexOf := goodIn_r _ [26, 27, 28, 29, 39, 40, 41, 42, 43, 44, 45, 46] rfl (by decide +kernel)
set_option maxRecDepth 20000 in
theorem gX8_find_X0_indexOf : GoodIn wsX8_find (wsV RX8 143 RX0 yX0_indexOf wsX0_indexOf) := goodIn_app (goodIn_r _ [23, 24, 25, 16] rfl (by decide +kernel)) ggX8_find_X0_indexOf
theorem dX8_find_0 : decode cX8_find 0 = .ok (.aload_n 0, 1) := by decide +kernel
theorem dX8_find_1 : decode cX8_find 1 = .ok (.iload_n 1, 1) := by decide +kernel
theorem dX8_find_2 : decode cX8_find 2 = .ok (.iload_n 2, 1) := by decide +kernel
theorem dX8_find_3 : decode cX8_find 3 = .ok (.invokevirtual 139, 3) := by decide +kernel
theorem dX8_find_6 : decode cX8_find 6 = .ok (.aload_n 0, 1) := by decide +kernel
theorem dX8_find_7 : decode cX8_find 7 = .ok (.getfield 10, 3) := by decide +kernel
theorem dX8_find_10 : decode cX8_find 10 = .ok (.iload_n 1, 1) := by decide +kernel
theorem dX8_find_11 : decode cX8_find 11 = .ok (.iload_n 2, 1) := by decide +kernel
theorem dX8_find_12 : decode cX8_find 12 = .ok (.invokevirtual 143, 3) := by decide +kernel
theorem dX8_find_15 : decode cX8_find 15 = .ok (.ireturn, 1) := by decide +kernel
set_option maxRecDepth 20000 in
theorem ggX8_isGiven_X8_checkClause : GoodIn wsX8_isGiven wsX8_checkClause := goodIn_ca (goodIn_r _ [7, 8, 9, 1, 10, 11, 12, 13, 14, 15, 16, 17, 18, 19, 20, 21, 22, 23, 24, 25, 26, 27, 28, 29, 30, 31, 32] rfl (by decide +kernel)) (goodIn_sub (fun _ h => List.mem_cons_of_mem _ (List.mem_append_right _ h)) (by decide +kernel))
set_option maxRecDepth 20000 in
theorem gX8_isGiven_X8_checkClause : GoodIn wsX8_isGiven (wsV RX8 125 RX8 yX8_checkClause wsX8_checkClause) := goodIn_app (goodIn_r _ [3, 4, 5, 6] rfl (by decide +kernel)) ggX8_isGiven_X8_checkClause
theorem dX8_isGiven_0 : decode cX8_isGiven 0 = .ok (.aload_n 0, 1) := by decide +kernel
theorem dX8_isGiven_1 : decode cX8_isGiven 1 = .ok (.iload_n 1, 1) := by decide +kernel
theorem dX8_isGiven_2 : decode cX8_isGiven 2 = .ok (.invokevirtual 125, 3) := by decide +kernel
theorem dX8_isGiven_5 : decode cX8_isGiven 5 = .ok (.aload_n 0, 1) := by decide +kernel
theorem dX8_isGiven_6 : decode cX8_isGiven 6 = .ok (.getfield 10, 3) := by decide +kernel
theorem dX8_isGiven_9 : decode cX8_isGiven 9 = .ok (.getfield 147, 3) := by decide +kernel
theorem dX8_isGiven_12 : decode cX8_isGiven 12 = .ok (.iload_n 1, 1) := by decide +kernel
theorem dX8_isGiven_13 : decode cX8_isGiven 13 = .ok (.iaload, 1) := by decide +kernel
theorem dX8_isGiven_14 : decode cX8_isGiven 14 = .ok (.iconst (-1), 1) := by decide +kernel
theorem dX8_isGiven_15 : decode cX8_isGiven 15 = .ok (.if_icmp .ne 7, 3) := by decide +kernel
theorem dX8_isGiven_18 : decode cX8_isGiven 18 = .ok (.iconst 1, 1) := by decide +kernel
theorem dX8_isGiven_19 : decode cX8_isGiven 19 = .ok (.goto 4, 3) := by decide +kernel
theorem dX8_isGiven_22 : decode cX8_isGiven 22 = .ok (.iconst 0, 1) := by decide +kernel
theorem dX8_isGiven_23 : decode cX8_isGiven 23 = .ok (.ireturn, 1) := by decide +kernel
set_option maxRecDepth 20000 in
theorem ggX8_positiveParent_X8_checkClause : GoodIn wsX8_positiveParent wsX8_checkClause := goodIn_ca (goodIn_r _ [7, 8, 9, 1, 10, 11, 12, 13, 14, 15, 16, 17, 18, 19, 20, 21, 22, 23, 24, 25, 26, 27, 28, 29, 30, 31, 32] rfl (by decide +kernel)) (goodIn_sub (fun _ h => List.mem_cons_of_mem _ (List.mem_append_right _ h)) (by decide +kernel))
set_option maxRecDepth 20000 in
theorem gX8_positiveParent_X8_checkClause : GoodIn wsX8_positiveParent (wsV RX8 125 RX8 yX8_checkClause wsX8_checkClause) := goodIn_app (goodIn_r _ [3, 4, 5, 6] rfl (by decide +kernel)) ggX8_positiveParent_X8_checkClause
theorem dX8_positiveParent_0 : decode cX8_positiveParent 0 = .ok (.aload_n 0, 1) := by decide +kernel
theorem dX8_positiveParent_1 : decode cX8_positiveParent 1 = .ok (.iload_n 1, 1) := by decide +kernel
theorem dX8_positiveParent_2 : decode cX8_positiveParent 2 = .ok (.invokevirtual 125, 3) := by decide +kernel
theorem dX8_positiveParent_5 : decode cX8_positiveParent 5 = .ok (.aload_n 0, 1) := by decide +kernel
theorem dX8_positiveParent_6 : decode cX8_positiveParent 6 = .ok (.getfield 10, 3) := by decide +kernel
theorem dX8_positiveParent_9 : decode cX8_positiveParent 9 = .ok (.getfield 150, 3) := by decide +kernel
theorem dX8_positiveParent_12 : decode cX8_positiveParent 12 = .ok (.iload_n 1, 1) := by decide +kernel
theorem dX8_positiveParent_13 : decode cX8_positiveParent 13 = .ok (.iaload, 1) := by decide +kernel
theorem dX8_positiveParent_14 : decode cX8_positiveParent 14 = .ok (.ireturn, 1) := by decide +kernel
set_option maxRecDepth 20000 in
theorem ggX8_negativeParent_X8_checkClause : GoodIn wsX8_negativeParent wsX8_checkClause := goodIn_ca (goodIn_r _ [7, 8, 9, 1, 10, 11, 12, 13, 14, 15, 16, 17, 18, 19, 20, 21, 22, 23, 24, 25, 26, 27, 28, 29, 30, 31, 32] rfl (by decide +kernel)) (goodIn_sub (fun _ h => List.mem_cons_of_mem _ (List.mem_append_right _ h)) (by decide +kernel))
set_option maxRecDepth 20000 in
theorem gX8_negativeParent_X8_checkClause : GoodIn wsX8_negativeParent (wsV RX8 125 RX8 yX8_checkClause wsX8_checkClause) := goodIn_app (goodIn_r _ [3, 4, 5, 6] rfl (by decide +kernel)) ggX8_negativeParent_X8_checkClause
theorem dX8_negativeParent_0 : decode cX8_negativeParent 0 = .ok (.aload_n 0, 1) := by decide +kernel
theorem dX8_negativeParent_1 : decode cX8_negativeParent 1 = .ok (.iload_n 1, 1) := by decide +kernel
theorem dX8_negativeParent_2 : decode cX8_negativeParent 2 = .ok (.invokevirtual 125, 3) := by decide +kernel
theorem dX8_negativeParent_5 : decode cX8_negativeParent 5 = .ok (.aload_n 0, 1) := by decide +kernel
theorem dX8_negativeParent_6 : decode cX8_negativeParent 6 = .ok (.getfield 10, 3) := by decide +kernel
theorem dX8_negativeParent_9 : decode cX8_negativeParent 9 = .ok (.getfield 153, 3) := by decide +kernel
theorem dX8_negativeParent_12 : decode cX8_negativeParent 12 = .ok (.iload_n 1, 1) := by decide +kernel
theorem dX8_negativeParent_13 : decode cX8_negativeParent 13 = .ok (.iaload, 1) := by decide +kernel
theorem dX8_negativeParent_14 : decode cX8_negativeParent 14 = .ok (.ireturn, 1) := by decide +kernel
set_option maxRecDepth 20000 in
theorem ggX8_variableOf_X8_checkClause : GoodIn wsX8_variableOf wsX8_checkClause := goodIn_ca (goodIn_r _ [7, 8, 9, 1, 10, 11, 12, 13, 14, 15, 16, 17, 18, 19, 20, 21, 22, 23, 24, 25, 26, 27, 28, 29, 30, 31, 32] rfl (by decide +kernel)) (goodIn_sub (fun _ h => List.mem_cons_of_mem _ (List.mem_append_right _ h)) (by decide +kernel))
set_option maxRecDepth 20000 in
theorem gX8_variableOf_X8_checkClause : GoodIn wsX8_variableOf (wsV RX8 125 RX8 yX8_checkClause wsX8_checkClause) := goodIn_app (goodIn_r _ [3, 4, 5, 6] rfl (by decide +kernel)) ggX8_variableOf_X8_checkClause
theorem dX8_variableOf_0 : decode cX8_variableOf 0 = .ok (.aload_n 0, 1) := by decide +kernel
theorem dX8_variableOf_1 : decode cX8_variableOf 1 = .ok (.iload_n 1, 1) := by decide +kernel
theorem dX8_variableOf_2 : decode cX8_variableOf 2 = .ok (.invokevirtual 125, 3) := by decide +kernel
theorem dX8_variableOf_5 : decode cX8_variableOf 5 = .ok (.aload_n 0, 1) := by decide +kernel
theorem dX8_variableOf_6 : decode cX8_variableOf 6 = .ok (.getfield 10, 3) := by decide +kernel
theorem dX8_variableOf_9 : decode cX8_variableOf 9 = .ok (.getfield 147, 3) := by decide +kernel
theorem dX8_variableOf_12 : decode cX8_variableOf 12 = .ok (.iload_n 1, 1) := by decide +kernel
theorem dX8_variableOf_13 : decode cX8_variableOf 13 = .ok (.iaload, 1) := by decide +kernel
theorem dX8_variableOf_14 : decode cX8_variableOf 14 = .ok (.ireturn, 1) := by decide +kernel
set_option maxRecDepth 20000 in
theorem ggX8_depthOf_X8_checkClause : GoodIn wsX8_depthOf wsX8_checkClause := goodIn_ca (goodIn_r _ [7, 8, 9, 1, 10, 11, 12, 13, 14, 15, 16, 17, 18, 19, 20, 21, 22, 23, 24, 25, 26, 27, 28, 29, 30, 31, 32] rfl (by decide +kernel)) (goodIn_sub (fun _ h => List.mem_cons_of_mem _ (List.mem_append_right _ h)) (by decide +kernel))
set_option maxRecDepth 20000 in
theorem gX8_depthOf_X8_checkClause : GoodIn wsX8_depthOf (wsV RX8 125 RX8 yX8_checkClause wsX8_checkClause) := goodIn_app (goodIn_r _ [3, 4, 5, 6] rfl (by decide +kernel)) ggX8_depthOf_X8_checkClause
theorem dX8_depthOf_0 : decode cX8_depthOf 0 = .ok (.aload_n 0, 1) := by decide +kernel
theorem dX8_depthOf_1 : decode cX8_depthOf 1 = .ok (.iload_n 1, 1) := by decide +kernel
theorem dX8_depthOf_2 : decode cX8_depthOf 2 = .ok (.invokevirtual 125, 3) := by decide +kernel
theorem dX8_depthOf_5 : decode cX8_depthOf 5 = .ok (.aload_n 0, 1) := by decide +kernel
theorem dX8_depthOf_6 : decode cX8_depthOf 6 = .ok (.getfield 10, 3) := by decide +kernel
theorem dX8_depthOf_9 : decode cX8_depthOf 9 = .ok (.getfield 156, 3) := by decide +kernel
theorem dX8_depthOf_12 : decode cX8_depthOf 12 = .ok (.iload_n 1, 1) := by decide +kernel
theorem dX8_depthOf_13 : decode cX8_depthOf 13 = .ok (.iaload, 1) := by decide +kernel
theorem dX8_depthOf_14 : decode cX8_depthOf 14 = .ok (.ireturn, 1) := by decide +kernel
set_option maxRecDepth 20000 in
theorem ggX8_deepestClause_X0_firstOfGreatestDepth : GoodIn wsX8_deepestClause wsX0_firstOfGreatestDepth := goodIn_r _ [6, 7, 8, 18, 19, 20, 21, 22, 23, 24, 25] rfl (by decide +kernel)
set_option maxRecDepth 20000 in
theorem gX8_deepestClause_X0_firstOfGreatestDepth : GoodIn wsX8_deepestClause (wsV RX8 159 RX0 yX0_firstOfGreatestDepth wsX0_firstOfGreatestDepth) := goodIn_app (goodIn_r _ [2, 3, 4, 5] rfl (by decide +kernel)) ggX8_deepestClause_X0_firstOfGreatestDepth
theorem dX8_deepestClause_0 : decode cX8_deepestClause 0 = .ok (.aload_n 0, 1) := by decide +kernel
theorem dX8_deepestClause_1 : decode cX8_deepestClause 1 = .ok (.getfield 10, 3) := by decide +kernel
theorem dX8_deepestClause_4 : decode cX8_deepestClause 4 = .ok (.invokevirtual 159, 3) := by decide +kernel
theorem dX8_deepestClause_7 : decode cX8_deepestClause 7 = .ok (.ireturn, 1) := by decide +kernel
set_option maxRecDepth 20000 in
theorem ggX8_derivationSize_X8_checkClause : GoodIn wsX8_derivationSize wsX8_checkClause := goodIn_ca (goodIn_r _ [6, 7, 8, 1, 9, 10, 11, 12, 13, 14, 29, 30, 31, 32, 33, 34, 35, 36, 37, 38, 39, 40, 41, 42, 43, 44, 45] rfl (by decide +kernel)) (goodIn_sub (fun _ h => List.mem_cons_of_mem _ (List.mem_append_right _ h)) (by decide +kernel))
set_option maxRecDepth 20000 in
theorem gX8_derivationSize_X8_checkClause : GoodIn wsX8_derivationSize (wsV RX8 125 RX8 yX8_checkClause wsX8_checkClause) := goodIn_app (goodIn_r _ [2, 3, 4, 5] rfl (by decide +kernel)) ggX8_derivationSize_X8_checkClause
set_option maxRecDepth 20000 in
theorem ggX8_derivationSize_X0_derivationMask : GoodIn wsX8_derivationSize wsX0_derivationMask := goodIn_r _ [18, 19, 20, 21, 38, 39, 40, 41, 42, 43, 44, 45] rfl (by decide +kernel)
set_option maxRecDepth 20000 in
theorem gX8_derivationSize_X0_derivationMask : GoodIn wsX8_derivationSize (wsV RX8 163 RX0 yX0_derivationMask wsX0_derivationMask) := goodIn_app (goodIn_r _ [15, 16, 17, 12] rfl (by decide +kernel)) ggX8_derivationSize_X0_derivationMask
set_option maxRecDepth 20000 in
theorem ggX8_derivationSize_J13_bitCount_95d88 : GoodIn wsX8_derivationSize wsJ13_bitCount_95d88 := goodIn_r _ [25, 26, 27, 28] rfl (by decide +kernel)
set_option maxRecDepth 20000 in
theorem gX8_derivationSize_J13_bitCount_95d88 : GoodIn wsX8_derivationSize (va_wsS RX8 167 yJ13_bitCount_95d88 wsJ13_bitCount_95d88) := goodIn_app (goodIn_r _ [22, 23, 24] rfl (by decide +kernel)) ggX8_derivationSize_J13_bitCount_95d88
theorem dX8_derivationSize_0 : decode cX8_derivationSize 0 = .ok (.aload_n 0, 1) := by decide +kernel
theorem dX8_derivationSize_1 : decode cX8_derivationSize 1 = .ok (.iload_n 1, 1) := by decide +kernel
theorem dX8_derivationSize_2 : decode cX8_derivationSize 2 = .ok (.invokevirtual 125, 3) := by decide +kernel
theorem dX8_derivationSize_5 : decode cX8_derivationSize 5 = .ok (.aload_n 0, 1) := by decide +kernel
theorem dX8_derivationSize_6 : decode cX8_derivationSize 6 = .ok (.getfield 10, 3) := by decide +kernel
theorem dX8_derivationSize_9 : decode cX8_derivationSize 9 = .ok (.iload_n 1, 1) := by decide +kernel
theorem dX8_derivationSize_10 : decode cX8_derivationSize 10 = .ok (.invokevirtual 163, 3) := by decide +kernel
theorem dX8_derivationSize_13 : decode cX8_derivationSize 13 = .ok (.invokestatic 167, 3) := by decide +kernel
theorem dX8_derivationSize_16 : decode cX8_derivationSize 16 = .ok (.ireturn, 1) := by decide +kernel
set_option maxRecDepth 20000 in
theorem ggX8_premises_X8_checkClause : GoodIn wsX8_premises wsX8_checkClause := goodIn_ca (goodIn_r _ [6, 7, 8, 1, 9, 10, 11, 12, 13, 14, 26, 27, 28, 29, 30, 31, 32, 33, 34, 35, 36, 37, 38, 39, 40, 41, 42] rfl (by decide +kernel)) (goodIn_sub (fun _ h => List.mem_cons_of_mem _ (List.mem_append_right _ h)) (by decide +kernel))
set_option maxRecDepth 20000 in
theorem gX8_premises_X8_checkClause : GoodIn wsX8_premises (wsV RX8 125 RX8 yX8_checkClause wsX8_checkClause) := goodIn_app (goodIn_r _ [2, 3, 4, 5] rfl (by decide +kernel)) ggX8_premises_X8_checkClause
set_option maxRecDepth 20000 in
theorem ggX8_premises_X0_derivationMask : GoodIn wsX8_premises wsX0_derivationMask := goodIn_r _ [18, 19, 20, 21, 35, 36, 37, 38, 39, 40, 41, 42] rfl (by decide +kernel)
set_option maxRecDepth 20000 in
theorem gX8_premises_X0_derivationMask : GoodIn wsX8_premises (wsV RX8 163 RX0 yX0_derivationMask wsX0_derivationMask) := goodIn_app (goodIn_r _ [15, 16, 17, 12] rfl (by decide +kernel)) ggX8_premises_X0_derivationMask
set_option maxRecDepth 20000 in
theorem ggX8_premises_X0_givenMask : GoodIn wsX8_premises wsX0_givenMask := goodIn_r _ [25, 14, 19, 35, 36, 37, 38, 39, 40, 41, 42] rfl (by decide +kernel)
set_option maxRecDepth 20000 in
theorem gX8_premises_X0_givenMask : GoodIn wsX8_premises (wsV RX8 173 RX0 yX0_givenMask wsX0_givenMask) := goodIn_app (goodIn_r _ [22, 23, 24, 12] rfl (by decide +kernel)) ggX8_premises_X0_givenMask
theorem dX8_premises_0 : decode cX8_premises 0 = .ok (.aload_n 0, 1) := by decide +kernel
theorem dX8_premises_1 : decode cX8_premises 1 = .ok (.iload_n 1, 1) := by decide +kernel
theorem dX8_premises_2 : decode cX8_premises 2 = .ok (.invokevirtual 125, 3) := by decide +kernel
theorem dX8_premises_5 : decode cX8_premises 5 = .ok (.aload_n 0, 1) := by decide +kernel
theorem dX8_premises_6 : decode cX8_premises 6 = .ok (.getfield 10, 3) := by decide +kernel
theorem dX8_premises_9 : decode cX8_premises 9 = .ok (.iload_n 1, 1) := by decide +kernel
theorem dX8_premises_10 : decode cX8_premises 10 = .ok (.invokevirtual 163, 3) := by decide +kernel
theorem dX8_premises_13 : decode cX8_premises 13 = .ok (.aload_n 0, 1) := by decide +kernel
theorem dX8_premises_14 : decode cX8_premises 14 = .ok (.getfield 10, 3) := by decide +kernel
theorem dX8_premises_17 : decode cX8_premises 17 = .ok (.invokevirtual 173, 3) := by decide +kernel
theorem dX8_premises_20 : decode cX8_premises 20 = .ok (.land, 1) := by decide +kernel
theorem dX8_premises_21 : decode cX8_premises 21 = .ok (.lreturn, 1) := by decide +kernel
set_option maxRecDepth 20000 in
theorem ggX8_emptyClause_X0_indexOf : GoodIn wsX8_emptyClause wsX0_indexOf := goodIn_r _ [6, 7, 8, 9, 19, 20, 21, 22, 23, 24, 25, 26] rfl (by decide +kernel)
set_option maxRecDepth 20000 in
theorem gX8_emptyClause_X0_indexOf : GoodIn wsX8_emptyClause (wsV RX8 143 RX0 yX0_indexOf wsX0_indexOf) := goodIn_app (goodIn_r _ [2, 3, 4, 5] rfl (by decide +kernel)) ggX8_emptyClause_X0_indexOf
theorem dX8_emptyClause_0 : decode cX8_emptyClause 0 = .ok (.aload_n 0, 1) := by decide +kernel
theorem dX8_emptyClause_1 : decode cX8_emptyClause 1 = .ok (.getfield 10, 3) := by decide +kernel
theorem dX8_emptyClause_4 : decode cX8_emptyClause 4 = .ok (.iconst 0, 1) := by decide +kernel
theorem dX8_emptyClause_5 : decode cX8_emptyClause 5 = .ok (.iconst 0, 1) := by decide +kernel
theorem dX8_emptyClause_6 : decode cX8_emptyClause 6 = .ok (.invokevirtual 143, 3) := by decide +kernel
theorem dX8_emptyClause_9 : decode cX8_emptyClause 9 = .ok (.ireturn, 1) := by decide +kernel
set_option maxRecDepth 20000 in
theorem ggX8_clausesOfSize_X0_countWithLiterals : GoodIn wsX8_clausesOfSize wsX0_countWithLiterals := goodIn_r _ [6, 7, 8, 9, 10, 5, 11, 12, 13, 14, 15, 16, 17, 18, 19, 20, 30, 31, 32, 33, 34, 35, 36, 37] rfl (by decide +kernel)
set_option maxRecDepth 20000 in
theorem gX8_clausesOfSize_X0_countWithLiterals : GoodIn wsX8_clausesOfSize (wsV RX8 177 RX0 yX0_countWithLiterals wsX0_countWithLiterals) := goodIn_app (goodIn_r _ [2, 3, 4, 5] rfl (by decide +kernel)) ggX8_clausesOfSize_X0_countWithLiterals
theorem dX8_clausesOfSize_0 : decode cX8_clausesOfSize 0 = .ok (.aload_n 0, 1) := by decide +kernel
theorem dX8_clausesOfSize_1 : decode cX8_clausesOfSize 1 = .ok (.getfield 10, 3) := by decide +kernel
theorem dX8_clausesOfSize_4 : decode cX8_clausesOfSize 4 = .ok (.iload_n 1, 1) := by decide +kernel
theorem dX8_clausesOfSize_5 : decode cX8_clausesOfSize 5 = .ok (.invokevirtual 177, 3) := by decide +kernel
theorem dX8_clausesOfSize_8 : decode cX8_clausesOfSize 8 = .ok (.ireturn, 1) := by decide +kernel
set_option maxRecDepth 20000 in
theorem ggX8_hornClauses_X0_countHorn : GoodIn wsX8_hornClauses wsX0_countHorn := goodIn_r _ [6, 7, 8, 9, 10, 11, 12, 13, 14, 15, 25, 26, 27, 28, 29, 30, 31, 32] rfl (by decide +kernel)
set_option maxRecDepth 20000 in
theorem gX8_hornClauses_X0_countHorn : GoodIn wsX8_hornClauses (wsV RX8 180 RX0 yX0_countHorn wsX0_countHorn) := goodIn_app (goodIn_r _ [2, 3, 4, 5] rfl (by decide +kernel)) ggX8_hornClauses_X0_countHorn
theorem dX8_hornClauses_0 : decode cX8_hornClauses 0 = .ok (.aload_n 0, 1) := by decide +kernel
theorem dX8_hornClauses_1 : decode cX8_hornClauses 1 = .ok (.getfield 10, 3) := by decide +kernel
theorem dX8_hornClauses_4 : decode cX8_hornClauses 4 = .ok (.invokevirtual 180, 3) := by decide +kernel
theorem dX8_hornClauses_7 : decode cX8_hornClauses 7 = .ok (.ireturn, 1) := by decide +kernel
set_option maxRecDepth 20000 in
theorem ggX8_occurrences_X8_checkVariable : GoodIn wsX8_occurrences wsX8_checkVariable := goodIn_ca (goodIn_r _ [6, 7, 8, 1, 9, 18, 19, 20, 21, 22, 23, 24, 25, 26, 27, 28, 29, 30, 31, 32, 33, 34] rfl (by decide +kernel)) (goodIn_sub (fun _ h => List.mem_cons_of_mem _ (List.mem_append_right _ h)) (by decide +kernel))
set_option maxRecDepth 20000 in
theorem gX8_occurrences_X8_checkVariable : GoodIn wsX8_occurrences (wsV RX8 183 RX8 yX8_checkVariable wsX8_checkVariable) := goodIn_app (goodIn_r _ [2, 3, 4, 5] rfl (by decide +kernel)) ggX8_occurrences_X8_checkVariable
set_option maxRecDepth 20000 in
theorem ggX8_occurrences_X0_countTouching : GoodIn wsX8_occurrences wsX0_countTouching := goodIn_r _ [14, 15, 16, 17, 27, 28, 29, 30, 31, 32, 33, 34] rfl (by decide +kernel)
set_option maxRecDepth 20000 in
theorem gX8_occurrences_X0_countTouching : GoodIn wsX8_occurrences (wsV RX8 186 RX0 yX0_countTouching wsX0_countTouching) := goodIn_app (goodIn_r _ [10, 11, 12, 13] rfl (by decide +kernel)) ggX8_occurrences_X0_countTouching
theorem dX8_occurrences_0 : decode cX8_occurrences 0 = .ok (.aload_n 0, 1) := by decide +kernel
theorem dX8_occurrences_1 : decode cX8_occurrences 1 = .ok (.iload_n 1, 1) := by decide +kernel
theorem dX8_occurrences_2 : decode cX8_occurrences 2 = .ok (.invokevirtual 183, 3) := by decide +kernel
theorem dX8_occurrences_5 : decode cX8_occurrences 5 = .ok (.iconst 1, 1) := by decide +kernel
theorem dX8_occurrences_6 : decode cX8_occurrences 6 = .ok (.iload_n 1, 1) := by decide +kernel
theorem dX8_occurrences_7 : decode cX8_occurrences 7 = .ok (.ishl, 1) := by decide +kernel
theorem dX8_occurrences_8 : decode cX8_occurrences 8 = .ok (.istore_n 3, 1) := by decide +kernel
theorem dX8_occurrences_9 : decode cX8_occurrences 9 = .ok (.iload_n 2, 1) := by decide +kernel
theorem dX8_occurrences_10 : decode cX8_occurrences 10 = .ok (.ifCond .eq 15, 3) := by decide +kernel
theorem dX8_occurrences_13 : decode cX8_occurrences 13 = .ok (.aload_n 0, 1) := by decide +kernel
theorem dX8_occurrences_14 : decode cX8_occurrences 14 = .ok (.getfield 10, 3) := by decide +kernel
theorem dX8_occurrences_17 : decode cX8_occurrences 17 = .ok (.iload_n 3, 1) := by decide +kernel
theorem dX8_occurrences_18 : decode cX8_occurrences 18 = .ok (.iconst 0, 1) := by decide +kernel
theorem dX8_occurrences_19 : decode cX8_occurrences 19 = .ok (.invokevirtual 186, 3) := by decide +kernel
theorem dX8_occurrences_22 : decode cX8_occurrences 22 = .ok (.goto 12, 3) := by decide +kernel
theorem dX8_occurrences_25 : decode cX8_occurrences 25 = .ok (.aload_n 0, 1) := by decide +kernel
theorem dX8_occurrences_26 : decode cX8_occurrences 26 = .ok (.getfield 10, 3) := by decide +kernel
theorem dX8_occurrences_29 : decode cX8_occurrences 29 = .ok (.iconst 0, 1) := by decide +kernel
theorem dX8_occurrences_30 : decode cX8_occurrences 30 = .ok (.iload_n 3, 1) := by decide +kernel
theorem dX8_occurrences_31 : decode cX8_occurrences 31 = .ok (.invokevirtual 186, 3) := by decide +kernel
theorem dX8_occurrences_34 : decode cX8_occurrences 34 = .ok (.ireturn, 1) := by decide +kernel
set_option maxRecDepth 20000 in
theorem ggX8_mostFrequentVariable_X0_firstOfMostClauses : GoodIn wsX8_mostFrequentVariable wsX0_firstOfMostClauses := goodIn_r _ [6, 7, 8, 9, 10, 5, 11, 12, 13, 14, 24, 25, 26, 27, 28, 29, 30, 31] rfl (by decide +kernel)
set_option maxRecDepth 20000 in
theorem gX8_mostFrequentVariable_X0_firstOfMostClauses : GoodIn wsX8_mostFrequentVariable (wsV RX8 189 RX0 yX0_firstOfMostClauses wsX0_firstOfMostClauses) := goodIn_app (goodIn_r _ [2, 3, 4, 5] rfl (by decide +kernel)) ggX8_mostFrequentVariable_X0_firstOfMostClauses
theorem dX8_mostFrequentVariable_0 : decode cX8_mostFrequentVariable 0 = .ok (.aload_n 0, 1) := by decide +kernel
theorem dX8_mostFrequentVariable_1 : decode cX8_mostFrequentVariable 1 = .ok (.getfield 10, 3) := by decide +kernel
theorem dX8_mostFrequentVariable_4 : decode cX8_mostFrequentVariable 4 = .ok (.invokevirtual 189, 3) := by decide +kernel
theorem dX8_mostFrequentVariable_7 : decode cX8_mostFrequentVariable 7 = .ok (.ireturn, 1) := by decide +kernel
set_option maxRecDepth 20000 in
theorem ggX8_purePositive_X0_allPositive : GoodIn wsX8_purePositive wsX0_allPositive := goodIn_r _ [6, 7, 8, 23, 24, 25, 26, 27, 28, 29, 30] rfl (by decide +kernel)
set_option maxRecDepth 20000 in
theorem gX8_purePositive_X0_allPositive : GoodIn wsX8_purePositive (wsV RX8 192 RX0 yX0_allPositive wsX0_allPositive) := goodIn_app (goodIn_r _ [2, 3, 4, 5] rfl (by decide +kernel)) ggX8_purePositive_X0_allPositive
set_option maxRecDepth 20000 in
theorem ggX8_purePositive_X0_allNegative : GoodIn wsX8_purePositive wsX0_allNegative := goodIn_r _ [12, 7, 13, 23, 24, 25, 26, 27, 28, 29, 30] rfl (by decide +kernel)
set_option maxRecDepth 20000 in
theorem gX8_purePositive_X0_allNegative : GoodIn wsX8_purePositive (wsV RX8 195 RX0 yX0_allNegative wsX0_allNegative) := goodIn_app (goodIn_r _ [9, 10, 11, 5] rfl (by decide +kernel)) ggX8_purePositive_X0_allNegative
theorem dX8_purePositive_0 : decode cX8_purePositive 0 = .ok (.aload_n 0, 1) := by decide +kernel
theorem dX8_purePositive_1 : decode cX8_purePositive 1 = .ok (.getfield 10, 3) := by decide +kernel
theorem dX8_purePositive_4 : decode cX8_purePositive 4 = .ok (.invokevirtual 192, 3) := by decide +kernel
theorem dX8_purePositive_7 : decode cX8_purePositive 7 = .ok (.aload_n 0, 1) := by decide +kernel
theorem dX8_purePositive_8 : decode cX8_purePositive 8 = .ok (.getfield 10, 3) := by decide +kernel
theorem dX8_purePositive_11 : decode cX8_purePositive 11 = .ok (.invokevirtual 195, 3) := by decide +kernel
theorem dX8_purePositive_14 : decode cX8_purePositive 14 = .ok (.iconst (-1), 1) := by decide +kernel
theorem dX8_purePositive_15 : decode cX8_purePositive 15 = .ok (.ixor, 1) := by decide +kernel
theorem dX8_purePositive_16 : decode cX8_purePositive 16 = .ok (.iand, 1) := by decide +kernel
theorem dX8_purePositive_17 : decode cX8_purePositive 17 = .ok (.ireturn, 1) := by decide +kernel
set_option maxRecDepth 20000 in
theorem ggX8_pureNegative_X0_allNegative : GoodIn wsX8_pureNegative wsX0_allNegative := goodIn_r _ [6, 7, 8, 23, 24, 25, 26, 27, 28, 29, 30] rfl (by decide +kernel)
set_option maxRecDepth 20000 in
theorem gX8_pureNegative_X0_allNegative : GoodIn wsX8_pureNegative (wsV RX8 195 RX0 yX0_allNegative wsX0_allNegative) := goodIn_app (goodIn_r _ [2, 3, 4, 5] rfl (by decide +kernel)) ggX8_pureNegative_X0_allNegative
set_option maxRecDepth 20000 in
theorem ggX8_pureNegative_X0_allPositive : GoodIn wsX8_pureNegative wsX0_allPositive := goodIn_r _ [12, 7, 13, 23, 24, 25, 26, 27, 28, 29, 30] rfl (by decide +kernel)
set_option maxRecDepth 20000 in
theorem gX8_pureNegative_X0_allPositive : GoodIn wsX8_pureNegative (wsV RX8 192 RX0 yX0_allPositive wsX0_allPositive) := goodIn_app (goodIn_r _ [9, 10, 11, 5] rfl (by decide +kernel)) ggX8_pureNegative_X0_allPositive
theorem dX8_pureNegative_0 : decode cX8_pureNegative 0 = .ok (.aload_n 0, 1) := by decide +kernel
theorem dX8_pureNegative_1 : decode cX8_pureNegative 1 = .ok (.getfield 10, 3) := by decide +kernel
theorem dX8_pureNegative_4 : decode cX8_pureNegative 4 = .ok (.invokevirtual 195, 3) := by decide +kernel
theorem dX8_pureNegative_7 : decode cX8_pureNegative 7 = .ok (.aload_n 0, 1) := by decide +kernel
theorem dX8_pureNegative_8 : decode cX8_pureNegative 8 = .ok (.getfield 10, 3) := by decide +kernel
theorem dX8_pureNegative_11 : decode cX8_pureNegative 11 = .ok (.invokevirtual 192, 3) := by decide +kernel
theorem dX8_pureNegative_14 : decode cX8_pureNegative 14 = .ok (.iconst (-1), 1) := by decide +kernel
theorem dX8_pureNegative_15 : decode cX8_pureNegative 15 = .ok (.ixor, 1) := by decide +kernel
theorem dX8_pureNegative_16 : decode cX8_pureNegative 16 = .ok (.iand, 1) := by decide +kernel
theorem dX8_pureNegative_17 : decode cX8_pureNegative 17 = .ok (.ireturn, 1) := by decide +kernel
set_option maxRecDepth 20000 in
theorem ggX8_clashes_X8_checkClause : GoodIn wsX8_clashes wsX8_checkClause := goodIn_ca (goodIn_r _ [6, 7, 8, 1, 9, 10, 11, 12, 13, 14, 28, 29, 30, 31, 32, 33, 34, 35, 36, 37, 38, 39, 40, 41, 42, 43, 44] rfl (by decide +kernel)) (goodIn_sub (fun _ h => List.mem_cons_of_mem _ (List.mem_append_right _ h)) (by decide +kernel))
set_option maxRecDepth 20000 in
theorem gX8_clashes_X8_checkClause : GoodIn wsX8_clashes (wsV RX8 125 RX8 yX8_checkClause wsX8_checkClause) := goodIn_app (goodIn_r _ [2, 3, 4, 5] rfl (by decide +kernel)) ggX8_clashes_X8_checkClause
set_option maxRecDepth 20000 in
theorem ggX8_clashes_X0_clashMask : GoodIn wsX8_clashes wsX0_clashMask := goodIn_r _ [18, 19, 20, 37, 38, 39, 40, 41, 42, 43, 44] rfl (by decide +kernel)
set_option maxRecDepth 20000 in
theorem gX8_clashes_X0_clashMask : GoodIn wsX8_clashes (wsV RX8 198 RX0 yX0_clashMask wsX0_clashMask) := goodIn_app (goodIn_r _ [15, 16, 17, 12] rfl (by decide +kernel)) ggX8_clashes_X0_clashMask
set_option maxRecDepth 20000 in
theorem ggX8_clashes_J6_bitCount_0f7a4 : GoodIn wsX8_clashes wsJ6_bitCount_0f7a4 := goodIn_r _ [24, 25, 26, 27] rfl (by decide +kernel)
set_option maxRecDepth 20000 in
theorem gX8_clashes_J6_bitCount_0f7a4 : GoodIn wsX8_clashes (va_wsS RX8 201 yJ6_bitCount_0f7a4 wsJ6_bitCount_0f7a4) := goodIn_app (goodIn_r _ [21, 22, 23] rfl (by decide +kernel)) ggX8_clashes_J6_bitCount_0f7a4
theorem dX8_clashes_0 : decode cX8_clashes 0 = .ok (.aload_n 0, 1) := by decide +kernel
theorem dX8_clashes_1 : decode cX8_clashes 1 = .ok (.iload_n 1, 1) := by decide +kernel
theorem dX8_clashes_2 : decode cX8_clashes 2 = .ok (.invokevirtual 125, 3) := by decide +kernel
theorem dX8_clashes_5 : decode cX8_clashes 5 = .ok (.aload_n 0, 1) := by decide +kernel
theorem dX8_clashes_6 : decode cX8_clashes 6 = .ok (.iload_n 2, 1) := by decide +kernel
theorem dX8_clashes_7 : decode cX8_clashes 7 = .ok (.invokevirtual 125, 3) := by decide +kernel
theorem dX8_clashes_10 : decode cX8_clashes 10 = .ok (.aload_n 0, 1) := by decide +kernel
theorem dX8_clashes_11 : decode cX8_clashes 11 = .ok (.getfield 10, 3) := by decide +kernel
theorem dX8_clashes_14 : decode cX8_clashes 14 = .ok (.iload_n 1, 1) := by decide +kernel
theorem dX8_clashes_15 : decode cX8_clashes 15 = .ok (.iload_n 2, 1) := by decide +kernel
theorem dX8_clashes_16 : decode cX8_clashes 16 = .ok (.invokevirtual 198, 3) := by decide +kernel
theorem dX8_clashes_19 : decode cX8_clashes 19 = .ok (.invokestatic 201, 3) := by decide +kernel
theorem dX8_clashes_22 : decode cX8_clashes 22 = .ok (.ireturn, 1) := by decide +kernel
set_option maxRecDepth 20000 in
theorem ggX8_areResolvable_X8_checkClause : GoodIn wsX8_areResolvable wsX8_checkClause := goodIn_ca (goodIn_r _ [6, 7, 8, 1, 9, 10, 11, 12, 13, 14, 32, 33, 34, 35, 36, 37, 38, 39, 40, 41, 42, 43, 44, 45, 46, 47, 48] rfl (by decide +kernel)) (goodIn_sub (fun _ h => List.mem_cons_of_mem _ (List.mem_append_right _ h)) (by decide +kernel))
set_option maxRecDepth 20000 in
theorem gX8_areResolvable_X8_checkClause : GoodIn wsX8_areResolvable (wsV RX8 125 RX8 yX8_checkClause wsX8_checkClause) := goodIn_app (goodIn_r _ [2, 3, 4, 5] rfl (by decide +kernel)) ggX8_areResolvable_X8_checkClause
set_option maxRecDepth 20000 in
theorem ggX8_areResolvable_X0_clashOnce : GoodIn wsX8_areResolvable wsX0_clashOnce := goodIn_r _ [18, 19, 20, 21, 12, 22, 23, 24, 25, 26, 27, 28, 29, 30, 31, 41, 42, 43, 44, 45, 46, 47, 48] rfl (by decide +kernel)
set_option maxRecDepth 20000 in
theorem gX8_areResolvable_X0_clashOnce : GoodIn wsX8_areResolvable (wsV RX8 205 RX0 yX0_clashOnce wsX0_clashOnce) := goodIn_app (goodIn_r _ [15, 16, 17, 12] rfl (by decide +kernel)) ggX8_areResolvable_X0_clashOnce
theorem dX8_areResolvable_0 : decode cX8_areResolvable 0 = .ok (.aload_n 0, 1) := by decide +kernel
theorem dX8_areResolvable_1 : decode cX8_areResolvable 1 = .ok (.iload_n 1, 1) := by decide +kernel
theorem dX8_areResolvable_2 : decode cX8_areResolvable 2 = .ok (.invokevirtual 125, 3) := by decide +kernel
theorem dX8_areResolvable_5 : decode cX8_areResolvable 5 = .ok (.aload_n 0, 1) := by decide +kernel
theorem dX8_areResolvable_6 : decode cX8_areResolvable 6 = .ok (.iload_n 2, 1) := by decide +kernel
theorem dX8_areResolvable_7 : decode cX8_areResolvable 7 = .ok (.invokevirtual 125, 3) := by decide +kernel
theorem dX8_areResolvable_10 : decode cX8_areResolvable 10 = .ok (.aload_n 0, 1) := by decide +kernel
theorem dX8_areResolvable_11 : decode cX8_areResolvable 11 = .ok (.getfield 10, 3) := by decide +kernel
theorem dX8_areResolvable_14 : decode cX8_areResolvable 14 = .ok (.iload_n 1, 1) := by decide +kernel
theorem dX8_areResolvable_15 : decode cX8_areResolvable 15 = .ok (.iload_n 2, 1) := by decide +kernel
theorem dX8_areResolvable_16 : decode cX8_areResolvable 16 = .ok (.invokevirtual 205, 3) := by decide +kernel
theorem dX8_areResolvable_19 : decode cX8_areResolvable 19 = .ok (.ireturn, 1) := by decide +kernel
set_option maxRecDepth 20000 in
theorem ggX8_resolventPositive_X8_checkClause : GoodIn wsX8_resolventPositive wsX8_checkClause := goodIn_ca (goodIn_r _ [6, 7, 8, 1, 9, 10, 11, 12, 13, 14, 36, 37, 38, 39, 40, 41, 42, 43, 44, 45, 46, 47, 48, 49, 50, 51, 52] rfl (by decide +kernel)) (goodIn_sub (fun _ h => List.mem_cons_of_mem _ (List.mem_append_right _ h)) (by decide +kernel))
set_option maxRecDepth 20000 in
theorem gX8_resolventPositive_X8_checkClause : GoodIn wsX8_resolventPositive (wsV RX8 125 RX8 yX8_checkClause wsX8_checkClause) := goodIn_app (goodIn_r _ [2, 3, 4, 5] rfl (by decide +kernel)) ggX8_resolventPositive_X8_checkClause
set_option maxRecDepth 20000 in
theorem ggX8_resolventPositive_X0_clashOnce : GoodIn wsX8_resolventPositive wsX0_clashOnce := goodIn_r _ [18, 19, 20, 21, 12, 22, 23, 24, 25, 26, 27, 28, 29, 30, 31, 45, 46, 47, 48, 49, 50, 51, 52] rfl (by decide +kernel)
set_option maxRecDepth 20000 in
theorem gX8_resolventPositive_X0_clashOnce : GoodIn wsX8_resolventPositive (wsV RX8 205 RX0 yX0_clashOnce wsX0_clashOnce) := goodIn_app (goodIn_r _ [15, 16, 17, 12] rfl (by decide +kernel)) ggX8_resolventPositive_X0_clashOnce
set_option maxRecDepth 20000 in
theorem ggX8_resolventPositive_X0_mergedPositive : GoodIn wsX8_resolventPositive wsX0_mergedPositive := goodIn_r _ [35, 23, 19, 20, 21, 12, 22, 24, 45, 46, 47, 48, 49, 50, 51, 52] rfl (by decide +kernel)
set_option maxRecDepth 20000 in
theorem gX8_resolventPositive_X0_mergedPositive : GoodIn wsX8_resolventPositive (wsV RX8 209 RX0 yX0_mergedPositive wsX0_mergedPositive) := goodIn_app (goodIn_r _ [32, 33, 34, 12] rfl (by decide +kernel)) ggX8_resolventPositive_X0_mergedPositive
theorem dX8_resolventPositive_0 : decode cX8_resolventPositive 0 = .ok (.aload_n 0, 1) := by decide +kernel
theorem dX8_resolventPositive_1 : decode cX8_resolventPositive 1 = .ok (.iload_n 1, 1) := by decide +kernel
theorem dX8_resolventPositive_2 : decode cX8_resolventPositive 2 = .ok (.invokevirtual 125, 3) := by decide +kernel
theorem dX8_resolventPositive_5 : decode cX8_resolventPositive 5 = .ok (.aload_n 0, 1) := by decide +kernel
theorem dX8_resolventPositive_6 : decode cX8_resolventPositive 6 = .ok (.iload_n 2, 1) := by decide +kernel
theorem dX8_resolventPositive_7 : decode cX8_resolventPositive 7 = .ok (.invokevirtual 125, 3) := by decide +kernel
theorem dX8_resolventPositive_10 : decode cX8_resolventPositive 10 = .ok (.aload_n 0, 1) := by decide +kernel
theorem dX8_resolventPositive_11 : decode cX8_resolventPositive 11 = .ok (.getfield 10, 3) := by decide +kernel
theorem dX8_resolventPositive_14 : decode cX8_resolventPositive 14 = .ok (.iload_n 1, 1) := by decide +kernel
theorem dX8_resolventPositive_15 : decode cX8_resolventPositive 15 = .ok (.iload_n 2, 1) := by decide +kernel
theorem dX8_resolventPositive_16 : decode cX8_resolventPositive 16 = .ok (.invokevirtual 205, 3) := by decide +kernel
theorem dX8_resolventPositive_19 : decode cX8_resolventPositive 19 = .ok (.ifCond .eq 15, 3) := by decide +kernel
theorem dX8_resolventPositive_22 : decode cX8_resolventPositive 22 = .ok (.aload_n 0, 1) := by decide +kernel
theorem dX8_resolventPositive_23 : decode cX8_resolventPositive 23 = .ok (.getfield 10, 3) := by decide +kernel
theorem dX8_resolventPositive_26 : decode cX8_resolventPositive 26 = .ok (.iload_n 1, 1) := by decide +kernel
theorem dX8_resolventPositive_27 : decode cX8_resolventPositive 27 = .ok (.iload_n 2, 1) := by decide +kernel
theorem dX8_resolventPositive_28 : decode cX8_resolventPositive 28 = .ok (.invokevirtual 209, 3) := by decide +kernel
theorem dX8_resolventPositive_31 : decode cX8_resolventPositive 31 = .ok (.goto 4, 3) := by decide +kernel
theorem dX8_resolventPositive_34 : decode cX8_resolventPositive 34 = .ok (.iconst (-1), 1) := by decide +kernel
theorem dX8_resolventPositive_35 : decode cX8_resolventPositive 35 = .ok (.ireturn, 1) := by decide +kernel
set_option maxRecDepth 20000 in
theorem ggX8_resolventNegative_X8_checkClause : GoodIn wsX8_resolventNegative wsX8_checkClause := goodIn_ca (goodIn_r _ [6, 7, 8, 1, 9, 10, 11, 12, 13, 14, 36, 37, 38, 39, 40, 41, 42, 43, 44, 45, 46, 47, 48, 49, 50, 51, 52] rfl (by decide +kernel)) (goodIn_sub (fun _ h => List.mem_cons_of_mem _ (List.mem_append_right _ h)) (by decide +kernel))
set_option maxRecDepth 20000 in
theorem gX8_resolventNegative_X8_checkClause : GoodIn wsX8_resolventNegative (wsV RX8 125 RX8 yX8_checkClause wsX8_checkClause) := goodIn_app (goodIn_r _ [2, 3, 4, 5] rfl (by decide +kernel)) ggX8_resolventNegative_X8_checkClause
set_option maxRecDepth 20000 in
theorem ggX8_resolventNegative_X0_clashOnce : GoodIn wsX8_resolventNegative wsX0_clashOnce := goodIn_r _ [18, 19, 20, 21, 12, 22, 23, 24, 25, 26, 27, 28, 29, 30, 31, 45, 46, 47, 48, 49, 50, 51, 52] rfl (by decide +kernel)
set_option maxRecDepth 20000 in
theorem gX8_resolventNegative_X0_clashOnce : GoodIn wsX8_resolventNegative (wsV RX8 205 RX0 yX0_clashOnce wsX0_clashOnce) := goodIn_app (goodIn_r _ [15, 16, 17, 12] rfl (by decide +kernel)) ggX8_resolventNegative_X0_clashOnce
set_option maxRecDepth 20000 in
theorem ggX8_resolventNegative_X0_mergedNegative : GoodIn wsX8_resolventNegative wsX0_mergedNegative := goodIn_r _ [35, 24, 19, 20, 21, 12, 22, 23, 45, 46, 47, 48, 49, 50, 51, 52] rfl (by decide +kernel)
set_option maxRecDepth 20000 in
theorem gX8_resolventNegative_X0_mergedNegative : GoodIn wsX8_resolventNegative (wsV RX8 212 RX0 yX0_mergedNegative wsX0_mergedNegative) := goodIn_app (goodIn_r _ [32, 33, 34, 12] rfl (by decide +kernel)) ggX8_resolventNegative_X0_mergedNegative
theorem dX8_resolventNegative_0 : decode cX8_resolventNegative 0 = .ok (.aload_n 0, 1) := by decide +kernel
theorem dX8_resolventNegative_1 : decode cX8_resolventNegative 1 = .ok (.iload_n 1, 1) := by decide +kernel
theorem dX8_resolventNegative_2 : decode cX8_resolventNegative 2 = .ok (.invokevirtual 125, 3) := by decide +kernel
theorem dX8_resolventNegative_5 : decode cX8_resolventNegative 5 = .ok (.aload_n 0, 1) := by decide +kernel
theorem dX8_resolventNegative_6 : decode cX8_resolventNegative 6 = .ok (.iload_n 2, 1) := by decide +kernel
theorem dX8_resolventNegative_7 : decode cX8_resolventNegative 7 = .ok (.invokevirtual 125, 3) := by decide +kernel
theorem dX8_resolventNegative_10 : decode cX8_resolventNegative 10 = .ok (.aload_n 0, 1) := by decide +kernel
theorem dX8_resolventNegative_11 : decode cX8_resolventNegative 11 = .ok (.getfield 10, 3) := by decide +kernel
theorem dX8_resolventNegative_14 : decode cX8_resolventNegative 14 = .ok (.iload_n 1, 1) := by decide +kernel
theorem dX8_resolventNegative_15 : decode cX8_resolventNegative 15 = .ok (.iload_n 2, 1) := by decide +kernel
theorem dX8_resolventNegative_16 : decode cX8_resolventNegative 16 = .ok (.invokevirtual 205, 3) := by decide +kernel
theorem dX8_resolventNegative_19 : decode cX8_resolventNegative 19 = .ok (.ifCond .eq 15, 3) := by decide +kernel
theorem dX8_resolventNegative_22 : decode cX8_resolventNegative 22 = .ok (.aload_n 0, 1) := by decide +kernel
theorem dX8_resolventNegative_23 : decode cX8_resolventNegative 23 = .ok (.getfield 10, 3) := by decide +kernel
theorem dX8_resolventNegative_26 : decode cX8_resolventNegative 26 = .ok (.iload_n 1, 1) := by decide +kernel
theorem dX8_resolventNegative_27 : decode cX8_resolventNegative 27 = .ok (.iload_n 2, 1) := by decide +kernel
theorem dX8_resolventNegative_28 : decode cX8_resolventNegative 28 = .ok (.invokevirtual 212, 3) := by decide +kernel
theorem dX8_resolventNegative_31 : decode cX8_resolventNegative 31 = .ok (.goto 4, 3) := by decide +kernel
theorem dX8_resolventNegative_34 : decode cX8_resolventNegative 34 = .ok (.iconst (-1), 1) := by decide +kernel
theorem dX8_resolventNegative_35 : decode cX8_resolventNegative 35 = .ok (.ireturn, 1) := by decide +kernel
set_option maxRecDepth 20000 in
theorem ggX8_resolvablePairs_X0_countPairsThatClashOnce : GoodIn wsX8_resolvablePairs wsX0_countPairsThatClashOnce := goodIn_r _ [6, 7, 8, 9, 10, 5, 11, 12, 13, 14, 15, 16, 17, 18, 19, 20, 21, 22, 23, 24, 34, 35, 36, 37, 38, 39, 40, 41] rfl (by decide +kernel)
set_option maxRecDepth 20000 in
theorem gX8_resolvablePairs_X0_countPairsThatClashOnce : GoodIn wsX8_resolvablePairs (wsV RX8 215 RX0 yX0_countPairsThatClashOnce wsX0_countPairsThatClashOnce) := goodIn_app (goodIn_r _ [2, 3, 4, 5] rfl (by decide +kernel)) ggX8_resolvablePairs_X0_countPairsThatClashOnce
theorem dX8_resolvablePairs_0 : decode cX8_resolvablePairs 0 = .ok (.aload_n 0, 1) := by decide +kernel
theorem dX8_resolvablePairs_1 : decode cX8_resolvablePairs 1 = .ok (.getfield 10, 3) := by decide +kernel
theorem dX8_resolvablePairs_4 : decode cX8_resolvablePairs 4 = .ok (.invokevirtual 215, 3) := by decide +kernel
theorem dX8_resolvablePairs_7 : decode cX8_resolvablePairs 7 = .ok (.ireturn, 1) := by decide +kernel
set_option maxRecDepth 20000 in
theorem ggX8_subsumes_X8_checkClause : GoodIn wsX8_subsumes wsX8_checkClause := goodIn_ca (goodIn_r _ [8, 9, 10, 1, 11, 12, 13, 14, 15, 16, 23, 24, 25, 26, 27, 28, 29, 30, 31, 32, 33, 34, 35, 36, 37, 38, 39] rfl (by decide +kernel)) (goodIn_sub (fun _ h => List.mem_cons_of_mem _ (List.mem_append_right _ h)) (by decide +kernel))
set_option maxRecDepth 20000 in
theorem gX8_subsumes_X8_checkClause : GoodIn wsX8_subsumes (wsV RX8 125 RX8 yX8_checkClause wsX8_checkClause) := goodIn_app (goodIn_r _ [4, 5, 6, 7] rfl (by decide +kernel)) ggX8_subsumes_X8_checkClause
set_option maxRecDepth 20000 in
theorem ggX8_subsumes_X0_isWithin : GoodIn wsX8_subsumes wsX0_isWithin := goodIn_r _ [20, 21, 22, 32, 33, 34, 35, 36, 37, 38, 39] rfl (by decide +kernel)
set_option maxRecDepth 20000 in
theorem gX8_subsumes_X0_isWithin : GoodIn wsX8_subsumes (wsV RX8 218 RX0 yX0_isWithin wsX0_isWithin) := goodIn_app (goodIn_r _ [17, 18, 19, 14] rfl (by decide +kernel)) ggX8_subsumes_X0_isWithin
theorem dX8_subsumes_0 : decode cX8_subsumes 0 = .ok (.aload_n 0, 1) := by decide +kernel
theorem dX8_subsumes_1 : decode cX8_subsumes 1 = .ok (.iload_n 1, 1) := by decide +kernel
theorem dX8_subsumes_2 : decode cX8_subsumes 2 = .ok (.invokevirtual 125, 3) := by decide +kernel
theorem dX8_subsumes_5 : decode cX8_subsumes 5 = .ok (.aload_n 0, 1) := by decide +kernel
theorem dX8_subsumes_6 : decode cX8_subsumes 6 = .ok (.iload_n 2, 1) := by decide +kernel
theorem dX8_subsumes_7 : decode cX8_subsumes 7 = .ok (.invokevirtual 125, 3) := by decide +kernel
theorem dX8_subsumes_10 : decode cX8_subsumes 10 = .ok (.aload_n 0, 1) := by decide +kernel
theorem dX8_subsumes_11 : decode cX8_subsumes 11 = .ok (.getfield 10, 3) := by decide +kernel
theorem dX8_subsumes_14 : decode cX8_subsumes 14 = .ok (.iload_n 1, 1) := by decide +kernel
theorem dX8_subsumes_15 : decode cX8_subsumes 15 = .ok (.aload_n 0, 1) := by decide +kernel
theorem dX8_subsumes_16 : decode cX8_subsumes 16 = .ok (.getfield 10, 3) := by decide +kernel
theorem dX8_subsumes_19 : decode cX8_subsumes 19 = .ok (.getfield 128, 3) := by decide +kernel
theorem dX8_subsumes_22 : decode cX8_subsumes 22 = .ok (.iload_n 2, 1) := by decide +kernel
theorem dX8_subsumes_23 : decode cX8_subsumes 23 = .ok (.iaload, 1) := by decide +kernel
theorem dX8_subsumes_24 : decode cX8_subsumes 24 = .ok (.aload_n 0, 1) := by decide +kernel
theorem dX8_subsumes_25 : decode cX8_subsumes 25 = .ok (.getfield 10, 3) := by decide +kernel
theorem dX8_subsumes_28 : decode cX8_subsumes 28 = .ok (.getfield 132, 3) := by decide +kernel
theorem dX8_subsumes_31 : decode cX8_subsumes 31 = .ok (.iload_n 2, 1) := by decide +kernel
theorem dX8_subsumes_32 : decode cX8_subsumes 32 = .ok (.iaload, 1) := by decide +kernel
theorem dX8_subsumes_33 : decode cX8_subsumes 33 = .ok (.invokevirtual 218, 3) := by decide +kernel
theorem dX8_subsumes_36 : decode cX8_subsumes 36 = .ok (.ireturn, 1) := by decide +kernel
set_option maxRecDepth 20000 in
theorem ggX8_subsumerOf_X8_checkClause : GoodIn wsX8_subsumerOf wsX8_checkClause := goodIn_ca (goodIn_r _ [6, 7, 8, 1, 9, 10, 11, 12, 13, 14, 25, 26, 27, 28, 29, 30, 31, 32, 33, 34, 35, 36, 37, 38, 39, 40, 41] rfl (by decide +kernel)) (goodIn_sub (fun _ h => List.mem_cons_of_mem _ (List.mem_append_right _ h)) (by decide +kernel))
set_option maxRecDepth 20000 in
theorem gX8_subsumerOf_X8_checkClause : GoodIn wsX8_subsumerOf (wsV RX8 125 RX8 yX8_checkClause wsX8_checkClause) := goodIn_app (goodIn_r _ [2, 3, 4, 5] rfl (by decide +kernel)) ggX8_subsumerOf_X8_checkClause
set_option maxRecDepth 20000 in
theorem ggX8_subsumerOf_X0_firstSubsumer : GoodIn wsX8_subsumerOf wsX0_firstSubsumer := goodIn_r _ [18, 14, 19, 20, 21, 22, 23, 12, 24, 34, 35, 36, 37, 38, 39, 40, 41] rfl (by decide +kernel)
set_option maxRecDepth 20000 in
theorem gX8_subsumerOf_X0_firstSubsumer : GoodIn wsX8_subsumerOf (wsV RX8 222 RX0 yX0_firstSubsumer wsX0_firstSubsumer) := goodIn_app (goodIn_r _ [15, 16, 17, 12] rfl (by decide +kernel)) ggX8_subsumerOf_X0_firstSubsumer
theorem dX8_subsumerOf_0 : decode cX8_subsumerOf 0 = .ok (.aload_n 0, 1) := by decide +kernel
theorem dX8_subsumerOf_1 : decode cX8_subsumerOf 1 = .ok (.iload_n 1, 1) := by decide +kernel
theorem dX8_subsumerOf_2 : decode cX8_subsumerOf 2 = .ok (.invokevirtual 125, 3) := by decide +kernel
theorem dX8_subsumerOf_5 : decode cX8_subsumerOf 5 = .ok (.aload_n 0, 1) := by decide +kernel
theorem dX8_subsumerOf_6 : decode cX8_subsumerOf 6 = .ok (.getfield 10, 3) := by decide +kernel
theorem dX8_subsumerOf_9 : decode cX8_subsumerOf 9 = .ok (.iload_n 1, 1) := by decide +kernel
theorem dX8_subsumerOf_10 : decode cX8_subsumerOf 10 = .ok (.invokevirtual 222, 3) := by decide +kernel
theorem dX8_subsumerOf_13 : decode cX8_subsumerOf 13 = .ok (.ireturn, 1) := by decide +kernel
set_option maxRecDepth 20000 in
theorem ggX8_subsumedClauses_X0_countSubsumed : GoodIn wsX8_subsumedClauses wsX0_countSubsumed := goodIn_r _ [6, 7, 8, 9, 10, 5, 11, 12, 13, 14, 15, 16, 17, 27, 28, 29, 30, 31, 32, 33, 34] rfl (by decide +kernel)
set_option maxRecDepth 20000 in
theorem gX8_subsumedClauses_X0_countSubsumed : GoodIn wsX8_subsumedClauses (wsV RX8 225 RX0 yX0_countSubsumed wsX0_countSubsumed) := goodIn_app (goodIn_r _ [2, 3, 4, 5] rfl (by decide +kernel)) ggX8_subsumedClauses_X0_countSubsumed
theorem dX8_subsumedClauses_0 : decode cX8_subsumedClauses 0 = .ok (.aload_n 0, 1) := by decide +kernel
theorem dX8_subsumedClauses_1 : decode cX8_subsumedClauses 1 = .ok (.getfield 10, 3) := by decide +kernel
theorem dX8_subsumedClauses_4 : decode cX8_subsumedClauses 4 = .ok (.invokevirtual 225, 3) := by decide +kernel
theorem dX8_subsumedClauses_7 : decode cX8_subsumedClauses 7 = .ok (.ireturn, 1) := by decide +kernel
set_option maxRecDepth 20000 in
theorem ggX8_nextFirst_X5_begin : GoodIn wsX8_nextFirst wsX5_begin := goodIn_r _ [8, 9, 10, 68, 69] rfl (by decide +kernel)
set_option maxRecDepth 20000 in
theorem gX8_nextFirst_X5_begin : GoodIn wsX8_nextFirst (wsV RX8 228 RX5 yX5_begin wsX5_begin) := goodIn_app (goodIn_r _ [4, 5, 6, 7] rfl (by decide +kernel)) ggX8_nextFirst_X5_begin
set_option maxRecDepth 20000 in
theorem ggX8_nextFirst_X5_findStep : GoodIn wsX8_nextFirst wsX5_findStep := goodIn_r _ [14, 10, 15, 9, 16, 17, 18, 19, 20, 21, 22, 23, 24, 25, 26, 27, 28, 29, 30, 31, 32, 33, 34, 35, 36, 37, 38, 39, 40, 41, 42, 43, 44, 45, 46, 47, 48, 49, 50, 51, 52, 53, 54, 55, 56, 57, 58, 68, 69, 70, 71, 72, 73, 74, 75, 76, 77] rfl (by decide +kernel)
set_option maxRecDepth 20000 in
theorem gX8_nextFirst_X5_findStep : GoodIn wsX8_nextFirst (wsV RX8 229 RX5 yX5_findStep wsX5_findStep) := goodIn_app (goodIn_r _ [11, 12, 13, 7] rfl (by decide +kernel)) ggX8_nextFirst_X5_findStep
theorem dX8_nextFirst_0 : decode cX8_nextFirst 0 = .ok (.aload_n 0, 1) := by decide +kernel
theorem dX8_nextFirst_1 : decode cX8_nextFirst 1 = .ok (.getfield 44, 3) := by decide +kernel
theorem dX8_nextFirst_4 : decode cX8_nextFirst 4 = .ok (.invokevirtual 228, 3) := by decide +kernel
theorem dX8_nextFirst_7 : decode cX8_nextFirst 7 = .ok (.aload_n 0, 1) := by decide +kernel
theorem dX8_nextFirst_8 : decode cX8_nextFirst 8 = .ok (.getfield 44, 3) := by decide +kernel
theorem dX8_nextFirst_11 : decode cX8_nextFirst 11 = .ok (.aload_n 0, 1) := by decide +kernel
theorem dX8_nextFirst_12 : decode cX8_nextFirst 12 = .ok (.getfield 10, 3) := by decide +kernel
theorem dX8_nextFirst_15 : decode cX8_nextFirst 15 = .ok (.invokevirtual 229, 3) := by decide +kernel
theorem dX8_nextFirst_18 : decode cX8_nextFirst 18 = .ok (.ifCond .eq 13, 3) := by decide +kernel
theorem dX8_nextFirst_21 : decode cX8_nextFirst 21 = .ok (.aload_n 0, 1) := by decide +kernel
theorem dX8_nextFirst_22 : decode cX8_nextFirst 22 = .ok (.getfield 44, 3) := by decide +kernel
theorem dX8_nextFirst_25 : decode cX8_nextFirst 25 = .ok (.getfield 233, 3) := by decide +kernel
theorem dX8_nextFirst_28 : decode cX8_nextFirst 28 = .ok (.goto 4, 3) := by decide +kernel
theorem dX8_nextFirst_31 : decode cX8_nextFirst 31 = .ok (.iconst (-1), 1) := by decide +kernel
theorem dX8_nextFirst_32 : decode cX8_nextFirst 32 = .ok (.ireturn, 1) := by decide +kernel
set_option maxRecDepth 20000 in
theorem ggX8_nextSecond_X5_begin : GoodIn wsX8_nextSecond wsX5_begin := goodIn_r _ [8, 9, 10, 68, 69] rfl (by decide +kernel)
set_option maxRecDepth 20000 in
theorem gX8_nextSecond_X5_begin : GoodIn wsX8_nextSecond (wsV RX8 228 RX5 yX5_begin wsX5_begin) := goodIn_app (goodIn_r _ [4, 5, 6, 7] rfl (by decide +kernel)) ggX8_nextSecond_X5_begin
set_option maxRecDepth 20000 in
theorem ggX8_nextSecond_X5_findStep : GoodIn wsX8_nextSecond wsX5_findStep := goodIn_r _ [14, 10, 15, 9, 16, 17, 18, 19, 20, 21, 22, 23, 24, 25, 26, 27, 28, 29, 30, 31, 32, 33, 34, 35, 36, 37, 38, 39, 40, 41, 42, 43, 44, 45, 46, 47, 48, 49, 50, 51, 52, 53, 54, 55, 56, 57, 58, 68, 69, 70, 71, 72, 73, 74, 75, 76, 77] rfl (by decide +kernel)
set_option maxRecDepth 20000 in
theorem gX8_nextSecond_X5_findStep : GoodIn wsX8_nextSecond (wsV RX8 229 RX5 yX5_findStep wsX5_findStep) := goodIn_app (goodIn_r _ [11, 12, 13, 7] rfl (by decide +kernel)) ggX8_nextSecond_X5_findStep
theorem dX8_nextSecond_0 : decode cX8_nextSecond 0 = .ok (.aload_n 0, 1) := by decide +kernel
theorem dX8_nextSecond_1 : decode cX8_nextSecond 1 = .ok (.getfield 44, 3) := by decide +kernel
theorem dX8_nextSecond_4 : decode cX8_nextSecond 4 = .ok (.invokevirtual 228, 3) := by decide +kernel
theorem dX8_nextSecond_7 : decode cX8_nextSecond 7 = .ok (.aload_n 0, 1) := by decide +kernel
theorem dX8_nextSecond_8 : decode cX8_nextSecond 8 = .ok (.getfield 44, 3) := by decide +kernel
theorem dX8_nextSecond_11 : decode cX8_nextSecond 11 = .ok (.aload_n 0, 1) := by decide +kernel
theorem dX8_nextSecond_12 : decode cX8_nextSecond 12 = .ok (.getfield 10, 3) := by decide +kernel
theorem dX8_nextSecond_15 : decode cX8_nextSecond 15 = .ok (.invokevirtual 229, 3) := by decide +kernel
theorem dX8_nextSecond_18 : decode cX8_nextSecond 18 = .ok (.ifCond .eq 13, 3) := by decide +kernel
theorem dX8_nextSecond_21 : decode cX8_nextSecond 21 = .ok (.aload_n 0, 1) := by decide +kernel
theorem dX8_nextSecond_22 : decode cX8_nextSecond 22 = .ok (.getfield 44, 3) := by decide +kernel
theorem dX8_nextSecond_25 : decode cX8_nextSecond 25 = .ok (.getfield 236, 3) := by decide +kernel
theorem dX8_nextSecond_28 : decode cX8_nextSecond 28 = .ok (.goto 4, 3) := by decide +kernel
theorem dX8_nextSecond_31 : decode cX8_nextSecond 31 = .ok (.iconst (-1), 1) := by decide +kernel
theorem dX8_nextSecond_32 : decode cX8_nextSecond 32 = .ok (.ireturn, 1) := by decide +kernel
set_option maxRecDepth 20000 in
theorem ggX8_stepsToEmpty_X0_copyFrom : GoodIn wsX8_stepsToEmpty wsX0_copyFrom := goodIn_r _ [8, 9, 10, 11, 12, 13, 14, 15, 16, 17, 18, 19, 20, 105, 106, 107, 108, 109, 110, 111, 112] rfl (by decide +kernel)
set_option maxRecDepth 20000 in
theorem gX8_stepsToEmpty_X0_copyFrom : GoodIn wsX8_stepsToEmpty (wsV RX8 101 RX0 yX0_copyFrom wsX0_copyFrom) := goodIn_app (goodIn_r _ [4, 5, 6, 7] rfl (by decide +kernel)) ggX8_stepsToEmpty_X0_copyFrom
set_option maxRecDepth 20000 in
theorem ggX8_stepsToEmpty_X5_makeSteps : GoodIn wsX8_stepsToEmpty wsX5_makeSteps := goodIn_r _ [25, 26, 27, 28, 29, 30, 24, 31, 32, 33, 34, 35, 36, 37, 38, 39, 7, 40, 10, 41, 42, 43, 44, 11, 16, 45, 46, 47, 48, 49, 50, 51, 52, 53, 54, 55, 56, 57, 58, 59, 60, 61, 62, 63, 64, 65, 66, 67, 68, 69, 70, 71, 72, 73, 74, 75, 76, 77, 78, 79, 20, 80, 81, 82, 83, 17, 18, 19, 84, 85, 86, 87, 88, 89, 90, 91, 92, 93, 94, 113, 114, 105, 106, 107, 108, 109, 110, 111, 112] rfl (by decide +kernel)
set_option maxRecDepth 20000 in
theorem gX8_stepsToEmpty_X5_makeSteps : GoodIn wsX8_stepsToEmpty (wsV RX8 239 RX5 yX5_makeSteps wsX5_makeSteps) := goodIn_app (goodIn_r _ [21, 22, 23, 24] rfl (by decide +kernel)) ggX8_stepsToEmpty_X5_makeSteps
set_option maxRecDepth 20000 in
theorem ggX8_stepsToEmpty_X0_indexOf : GoodIn wsX8_stepsToEmpty wsX0_indexOf := goodIn_r _ [44, 10, 11, 16, 105, 106, 107, 108, 109, 110, 111, 112] rfl (by decide +kernel)
set_option maxRecDepth 20000 in
theorem gX8_stepsToEmpty_X0_indexOf : GoodIn wsX8_stepsToEmpty (wsV RX8 143 RX0 yX0_indexOf wsX0_indexOf) := goodIn_app (goodIn_r _ [95, 42, 43, 7] rfl (by decide +kernel)) ggX8_stepsToEmpty_X0_indexOf
theorem dX8_stepsToEmpty_0 : decode cX8_stepsToEmpty 0 = .ok (.aload_n 0, 1) := by decide +kernel
theorem dX8_stepsToEmpty_1 : decode cX8_stepsToEmpty 1 = .ok (.getfield 16, 3) := by decide +kernel
theorem dX8_stepsToEmpty_4 : decode cX8_stepsToEmpty 4 = .ok (.aload_n 0, 1) := by decide +kernel
theorem dX8_stepsToEmpty_5 : decode cX8_stepsToEmpty 5 = .ok (.getfield 10, 3) := by decide +kernel
theorem dX8_stepsToEmpty_8 : decode cX8_stepsToEmpty 8 = .ok (.invokevirtual 101, 3) := by decide +kernel
theorem dX8_stepsToEmpty_11 : decode cX8_stepsToEmpty 11 = .ok (.aload_n 0, 1) := by decide +kernel
theorem dX8_stepsToEmpty_12 : decode cX8_stepsToEmpty 12 = .ok (.getfield 44, 3) := by decide +kernel
theorem dX8_stepsToEmpty_15 : decode cX8_stepsToEmpty 15 = .ok (.aload_n 0, 1) := by decide +kernel
theorem dX8_stepsToEmpty_16 : decode cX8_stepsToEmpty 16 = .ok (.getfield 16, 3) := by decide +kernel
theorem dX8_stepsToEmpty_19 : decode cX8_stepsToEmpty 19 = .ok (.bipush 60, 2) := by decide +kernel
theorem dX8_stepsToEmpty_21 : decode cX8_stepsToEmpty 21 = .ok (.invokevirtual 239, 3) := by decide +kernel
theorem dX8_stepsToEmpty_24 : decode cX8_stepsToEmpty 24 = .ok (.istore_n 1, 1) := by decide +kernel
theorem dX8_stepsToEmpty_25 : decode cX8_stepsToEmpty 25 = .ok (.aload_n 0, 1) := by decide +kernel
theorem dX8_stepsToEmpty_26 : decode cX8_stepsToEmpty 26 = .ok (.getfield 16, 3) := by decide +kernel
theorem dX8_stepsToEmpty_29 : decode cX8_stepsToEmpty 29 = .ok (.iconst 0, 1) := by decide +kernel
theorem dX8_stepsToEmpty_30 : decode cX8_stepsToEmpty 30 = .ok (.iconst 0, 1) := by decide +kernel
theorem dX8_stepsToEmpty_31 : decode cX8_stepsToEmpty 31 = .ok (.invokevirtual 143, 3) := by decide +kernel
theorem dX8_stepsToEmpty_34 : decode cX8_stepsToEmpty 34 = .ok (.iconst (-1), 1) := by decide +kernel
theorem dX8_stepsToEmpty_35 : decode cX8_stepsToEmpty 35 = .ok (.if_icmp .ne 7, 3) := by decide +kernel
theorem dX8_stepsToEmpty_38 : decode cX8_stepsToEmpty 38 = .ok (.iconst (-1), 1) := by decide +kernel
theorem dX8_stepsToEmpty_39 : decode cX8_stepsToEmpty 39 = .ok (.goto 4, 3) := by decide +kernel
theorem dX8_stepsToEmpty_42 : decode cX8_stepsToEmpty 42 = .ok (.iload_n 1, 1) := by decide +kernel
theorem dX8_stepsToEmpty_43 : decode cX8_stepsToEmpty 43 = .ok (.ireturn, 1) := by decide +kernel
set_option maxRecDepth 20000 in
theorem ggX8_modelCount_X2_count : GoodIn wsX8_modelCount wsX2_count := goodIn_r _ [5, 6, 7, 8, 9, 10, 11, 12, 13, 4, 14, 15, 16, 17, 18, 19, 20, 21, 31, 32, 33, 34, 35, 36, 37, 38] rfl (by decide +kernel)
set_option maxRecDepth 20000 in
theorem gX8_modelCount_X2_count : GoodIn wsX8_modelCount (va_wsS RX8 243 yX2_count wsX2_count) := goodIn_app (goodIn_r _ [2, 3, 4] rfl (by decide +kernel)) ggX8_modelCount_X2_count
theorem dX8_modelCount_0 : decode cX8_modelCount 0 = .ok (.aload_n 0, 1) := by decide +kernel
theorem dX8_modelCount_1 : decode cX8_modelCount 1 = .ok (.getfield 10, 3) := by decide +kernel
theorem dX8_modelCount_4 : decode cX8_modelCount 4 = .ok (.invokestatic 243, 3) := by decide +kernel
theorem dX8_modelCount_7 : decode cX8_modelCount 7 = .ok (.ireturn, 1) := by decide +kernel
set_option maxRecDepth 20000 in
theorem ggX8_firstModel_X2_at : GoodIn wsX8_firstModel wsX2_at := goodIn_r _ [5, 6, 7, 8, 9, 10, 11, 12, 13, 4, 14, 15, 16, 17, 18, 19, 20, 21, 31, 32, 33, 34, 35, 36, 37, 38] rfl (by decide +kernel)
set_option maxRecDepth 20000 in
theorem gX8_firstModel_X2_at : GoodIn wsX8_firstModel (va_wsS RX8 248 yX2_at wsX2_at) := goodIn_app (goodIn_r _ [2, 3, 4] rfl (by decide +kernel)) ggX8_firstModel_X2_at
theorem dX8_firstModel_0 : decode cX8_firstModel 0 = .ok (.aload_n 0, 1) := by decide +kernel
theorem dX8_firstModel_1 : decode cX8_firstModel 1 = .ok (.getfield 10, 3) := by decide +kernel
theorem dX8_firstModel_4 : decode cX8_firstModel 4 = .ok (.iconst 0, 1) := by decide +kernel
theorem dX8_firstModel_5 : decode cX8_firstModel 5 = .ok (.invokestatic 248, 3) := by decide +kernel
theorem dX8_firstModel_8 : decode cX8_firstModel 8 = .ok (.ireturn, 1) := by decide +kernel
set_option maxRecDepth 20000 in
theorem ggX8_modelAt_X2_at : GoodIn wsX8_modelAt wsX2_at := goodIn_r _ [5, 6, 7, 8, 9, 10, 11, 12, 13, 4, 14, 15, 16, 17, 18, 19, 20, 21, 31, 32, 33, 34, 35, 36, 37, 38] rfl (by decide +kernel)
set_option maxRecDepth 20000 in
theorem gX8_modelAt_X2_at : GoodIn wsX8_modelAt (va_wsS RX8 248 yX2_at wsX2_at) := goodIn_app (goodIn_r _ [2, 3, 4] rfl (by decide +kernel)) ggX8_modelAt_X2_at
theorem dX8_modelAt_0 : decode cX8_modelAt 0 = .ok (.aload_n 0, 1) := by decide +kernel
theorem dX8_modelAt_1 : decode cX8_modelAt 1 = .ok (.getfield 10, 3) := by decide +kernel
theorem dX8_modelAt_4 : decode cX8_modelAt 4 = .ok (.iload_n 1, 1) := by decide +kernel
theorem dX8_modelAt_5 : decode cX8_modelAt 5 = .ok (.invokestatic 248, 3) := by decide +kernel
theorem dX8_modelAt_8 : decode cX8_modelAt 8 = .ok (.ireturn, 1) := by decide +kernel
set_option maxRecDepth 20000 in
theorem ggX8_isTrue_X8_checkClause : GoodIn wsX8_isTrue wsX8_checkClause := goodIn_ca (goodIn_r _ [6, 7, 8, 1, 9, 10, 11, 12, 13, 14, 36, 37, 38, 39, 40, 41, 42, 43, 44, 45, 46, 47, 48, 49, 50, 51, 52] rfl (by decide +kernel)) (goodIn_sub (fun _ h => List.mem_cons_of_mem _ (List.mem_append_left _ (List.mem_append_right _ h))) (by decide +kernel))
set_option maxRecDepth 20000 in
theorem gX8_isTrue_X8_checkClause : GoodIn wsX8_isTrue (wsV RX8 125 RX8 yX8_checkClause wsX8_checkClause) := goodIn_app (goodIn_r _ [2, 3, 4, 5] rfl (by decide +kernel)) ggX8_isTrue_X8_checkClause
set_option maxRecDepth 20000 in
theorem ggX8_isTrue_X8_checkMask : GoodIn wsX8_isTrue wsX8_checkMask := goodIn_ca (goodIn_r _ [18, 19, 20, 1, 21, 22, 23, 12, 24, 25, 26, 27, 28, 29, 36, 37, 38, 39, 40, 41, 42, 43, 44, 45, 46, 47, 48, 49, 50, 51, 52] rfl (by decide +kernel)) (goodIn_sub (fun _ h => List.mem_cons_of_mem _ (List.mem_append_right _ h)) (by decide +kernel))
set_option maxRecDepth 20000 in
theorem gX8_isTrue_X8_checkMask : GoodIn wsX8_isTrue (wsV RX8 251 RX8 yX8_checkMask wsX8_checkMask) := goodIn_app (goodIn_r _ [15, 16, 17, 5] rfl (by decide +kernel)) ggX8_isTrue_X8_checkMask
set_option maxRecDepth 20000 in
theorem ggX8_isTrue_X0_isTrueUnder : GoodIn wsX8_isTrue wsX0_isTrueUnder := goodIn_r _ [33, 34, 35, 45, 46, 47, 48, 49, 50, 51, 52] rfl (by decide +kernel)
set_option maxRecDepth 20000 in
theorem gX8_isTrue_X0_isTrueUnder : GoodIn wsX8_isTrue (wsV RX8 254 RX0 yX0_isTrueUnder wsX0_isTrueUnder) := goodIn_app (goodIn_r _ [30, 31, 32, 12] rfl (by decide +kernel)) ggX8_isTrue_X0_isTrueUnder
theorem dX8_isTrue_0 : decode cX8_isTrue 0 = .ok (.aload_n 0, 1) := by decide +kernel
theorem dX8_isTrue_1 : decode cX8_isTrue 1 = .ok (.iload_n 1, 1) := by decide +kernel
theorem dX8_isTrue_2 : decode cX8_isTrue 2 = .ok (.invokevirtual 125, 3) := by decide +kernel
theorem dX8_isTrue_5 : decode cX8_isTrue 5 = .ok (.aload_n 0, 1) := by decide +kernel
theorem dX8_isTrue_6 : decode cX8_isTrue 6 = .ok (.iload_n 2, 1) := by decide +kernel
theorem dX8_isTrue_7 : decode cX8_isTrue 7 = .ok (.invokevirtual 251, 3) := by decide +kernel
theorem dX8_isTrue_10 : decode cX8_isTrue 10 = .ok (.aload_n 0, 1) := by decide +kernel
theorem dX8_isTrue_11 : decode cX8_isTrue 11 = .ok (.getfield 10, 3) := by decide +kernel
theorem dX8_isTrue_14 : decode cX8_isTrue 14 = .ok (.iload_n 1, 1) := by decide +kernel
theorem dX8_isTrue_15 : decode cX8_isTrue 15 = .ok (.iload_n 2, 1) := by decide +kernel
theorem dX8_isTrue_16 : decode cX8_isTrue 16 = .ok (.invokevirtual 254, 3) := by decide +kernel
theorem dX8_isTrue_19 : decode cX8_isTrue 19 = .ok (.ireturn, 1) := by decide +kernel
set_option maxRecDepth 20000 in
theorem ggX8_falseClauses_X8_checkMask : GoodIn wsX8_falseClauses wsX8_checkMask := goodIn_ca (goodIn_r _ [6, 7, 8, 1, 9, 10, 11, 12, 13, 14, 15, 16, 17, 18, 30, 31, 32, 33, 34, 35, 36, 37, 38, 39, 40, 41, 42, 43, 44, 45, 46] rfl (by decide +kernel)) (goodIn_sub (fun _ h => List.mem_cons_of_mem _ (List.mem_append_right _ h)) (by decide +kernel))
set_option maxRecDepth 20000 in
theorem gX8_falseClauses_X8_checkMask : GoodIn wsX8_falseClauses (wsV RX8 251 RX8 yX8_checkMask wsX8_checkMask) := goodIn_app (goodIn_r _ [2, 3, 4, 5] rfl (by decide +kernel)) ggX8_falseClauses_X8_checkMask
set_option maxRecDepth 20000 in
theorem ggX8_falseClauses_X2_countFalse : GoodIn wsX8_falseClauses wsX2_countFalse := goodIn_r _ [22, 23, 24, 25, 26, 12, 27, 28, 29, 39, 40, 41, 42, 43, 44, 45, 46] rfl (by decide +kernel)
set_option maxRecDepth 20000 in
theorem gX8_falseClauses_X2_countFalse : GoodIn wsX8_falseClauses (va_wsS RX8 257 yX2_countFalse wsX2_countFalse) := goodIn_app (goodIn_r _ [19, 20, 21] rfl (by decide +kernel)) ggX8_falseClauses_X2_countFalse
theorem dX8_falseClauses_0 : decode cX8_falseClauses 0 = .ok (.aload_n 0, 1) := by decide +kernel
theorem dX8_falseClauses_1 : decode cX8_falseClauses 1 = .ok (.iload_n 1, 1) := by decide +kernel
theorem dX8_falseClauses_2 : decode cX8_falseClauses 2 = .ok (.invokevirtual 251, 3) := by decide +kernel
theorem dX8_falseClauses_5 : decode cX8_falseClauses 5 = .ok (.aload_n 0, 1) := by decide +kernel
theorem dX8_falseClauses_6 : decode cX8_falseClauses 6 = .ok (.getfield 10, 3) := by decide +kernel
theorem dX8_falseClauses_9 : decode cX8_falseClauses 9 = .ok (.iload_n 1, 1) := by decide +kernel
theorem dX8_falseClauses_10 : decode cX8_falseClauses 10 = .ok (.invokestatic 257, 3) := by decide +kernel
theorem dX8_falseClauses_13 : decode cX8_falseClauses 13 = .ok (.ireturn, 1) := by decide +kernel
set_option maxRecDepth 20000 in
theorem ggX8_bestFlip_X8_checkMask : GoodIn wsX8_bestFlip wsX8_checkMask := goodIn_ca (goodIn_r _ [6, 7, 8, 1, 9, 10, 11, 12, 13, 14, 15, 16, 17, 18, 34, 35, 36, 37, 38, 39, 40, 41, 42, 43, 44, 45, 46, 47, 48, 49, 50] rfl (by decide +kernel)) (goodIn_sub (fun _ h => List.mem_cons_of_mem _ (List.mem_append_right _ h)) (by decide +kernel))
set_option maxRecDepth 20000 in
theorem gX8_bestFlip_X8_checkMask : GoodIn wsX8_bestFlip (wsV RX8 251 RX8 yX8_checkMask wsX8_checkMask) := goodIn_app (goodIn_r _ [2, 3, 4, 5] rfl (by decide +kernel)) ggX8_bestFlip_X8_checkMask
set_option maxRecDepth 20000 in
theorem ggX8_bestFlip_X2_firstBestFlip : GoodIn wsX8_bestFlip wsX2_firstBestFlip := goodIn_r _ [22, 23, 24, 25, 21, 26, 27, 28, 29, 30, 12, 31, 32, 33, 43, 44, 45, 46, 47, 48, 49, 50] rfl (by decide +kernel)
set_option maxRecDepth 20000 in
theorem gX8_bestFlip_X2_firstBestFlip : GoodIn wsX8_bestFlip (va_wsS RX8 260 yX2_firstBestFlip wsX2_firstBestFlip) := goodIn_app (goodIn_r _ [19, 20, 21] rfl (by decide +kernel)) ggX8_bestFlip_X2_firstBestFlip
theorem dX8_bestFlip_0 : decode cX8_bestFlip 0 = .ok (.aload_n 0, 1) := by decide +kernel
theorem dX8_bestFlip_1 : decode cX8_bestFlip 1 = .ok (.iload_n 1, 1) := by decide +kernel
theorem dX8_bestFlip_2 : decode cX8_bestFlip 2 = .ok (.invokevirtual 251, 3) := by decide +kernel
theorem dX8_bestFlip_5 : decode cX8_bestFlip 5 = .ok (.aload_n 0, 1) := by decide +kernel
theorem dX8_bestFlip_6 : decode cX8_bestFlip 6 = .ok (.getfield 10, 3) := by decide +kernel
theorem dX8_bestFlip_9 : decode cX8_bestFlip 9 = .ok (.iload_n 1, 1) := by decide +kernel
theorem dX8_bestFlip_10 : decode cX8_bestFlip 10 = .ok (.invokestatic 260, 3) := by decide +kernel
theorem dX8_bestFlip_13 : decode cX8_bestFlip 13 = .ok (.ireturn, 1) := by decide +kernel
set_option maxRecDepth 20000 in
theorem ggX8_alwaysTrue_X2_trueInAll : GoodIn wsX8_alwaysTrue wsX2_trueInAll := goodIn_r _ [5, 6, 7, 8, 9, 10, 11, 12, 13, 4, 14, 15, 16, 17, 18, 19, 20, 21, 31, 32, 33, 34, 35, 36, 37, 38] rfl (by decide +kernel)
set_option maxRecDepth 20000 in
theorem gX8_alwaysTrue_X2_trueInAll : GoodIn wsX8_alwaysTrue (va_wsS RX8 263 yX2_trueInAll wsX2_trueInAll) := goodIn_app (goodIn_r _ [2, 3, 4] rfl (by decide +kernel)) ggX8_alwaysTrue_X2_trueInAll
theorem dX8_alwaysTrue_0 : decode cX8_alwaysTrue 0 = .ok (.aload_n 0, 1) := by decide +kernel
theorem dX8_alwaysTrue_1 : decode cX8_alwaysTrue 1 = .ok (.getfield 10, 3) := by decide +kernel
theorem dX8_alwaysTrue_4 : decode cX8_alwaysTrue 4 = .ok (.invokestatic 263, 3) := by decide +kernel
theorem dX8_alwaysTrue_7 : decode cX8_alwaysTrue 7 = .ok (.ireturn, 1) := by decide +kernel
set_option maxRecDepth 20000 in
theorem ggX8_alwaysFalse_X2_falseInAll : GoodIn wsX8_alwaysFalse wsX2_falseInAll := goodIn_r _ [5, 6, 7, 8, 9, 10, 11, 12, 13, 4, 14, 15, 16, 17, 18, 19, 20, 21, 31, 32, 33, 34, 35, 36, 37, 38] rfl (by decide +kernel)
set_option maxRecDepth 20000 in
theorem gX8_alwaysFalse_X2_falseInAll : GoodIn wsX8_alwaysFalse (va_wsS RX8 266 yX2_falseInAll wsX2_falseInAll) := goodIn_app (goodIn_r _ [2, 3, 4] rfl (by decide +kernel)) ggX8_alwaysFalse_X2_falseInAll
theorem dX8_alwaysFalse_0 : decode cX8_alwaysFalse 0 = .ok (.aload_n 0, 1) := by decide +kernel
theorem dX8_alwaysFalse_1 : decode cX8_alwaysFalse 1 = .ok (.getfield 10, 3) := by decide +kernel
theorem dX8_alwaysFalse_4 : decode cX8_alwaysFalse 4 = .ok (.invokestatic 266, 3) := by decide +kernel
theorem dX8_alwaysFalse_7 : decode cX8_alwaysFalse 7 = .ok (.ireturn, 1) := by decide +kernel
set_option maxRecDepth 20000 in
theorem ggX8_isImplied_X8_checkLiterals : GoodIn wsX8_isImplied wsX8_checkLiterals := goodIn_ca (goodIn_r _ [6, 7, 8, 9, 10, 11, 5, 12, 1, 13, 14, 15, 16, 17, 18, 19, 20, 21, 22, 38, 39, 40, 41, 42, 43, 44, 45, 46, 47, 48, 49, 50, 51, 52, 53, 54] rfl (by decide +kernel)) (goodIn_sub (fun _ h => List.mem_cons_of_mem _ (List.mem_append_right _ h)) (by decide +kernel))
set_option maxRecDepth 20000 in
theorem gX8_isImplied_X8_checkLiterals : GoodIn wsX8_isImplied (wsV RX8 139 RX8 yX8_checkLiterals wsX8_checkLiterals) := goodIn_app (goodIn_r _ [2, 3, 4, 5] rfl (by decide +kernel)) ggX8_isImplied_X8_checkLiterals
set_option maxRecDepth 20000 in
theorem ggX8_isImplied_X2_imply : GoodIn wsX8_isImplied wsX2_imply := goodIn_r _ [26, 27, 19, 20, 16, 21, 22, 28, 29, 25, 30, 31, 32, 33, 34, 35, 36, 37, 47, 48, 49, 50, 51, 52, 53, 54] rfl (by decide +kernel)
set_option maxRecDepth 20000 in
theorem gX8_isImplied_X2_imply : GoodIn wsX8_isImplied (va_wsS RX8 269 yX2_imply wsX2_imply) := goodIn_app (goodIn_r _ [23, 24, 25] rfl (by decide +kernel)) ggX8_isImplied_X2_imply
theorem dX8_isImplied_0 : decode cX8_isImplied 0 = .ok (.aload_n 0, 1) := by decide +kernel
theorem dX8_isImplied_1 : decode cX8_isImplied 1 = .ok (.iload_n 1, 1) := by decide +kernel
theorem dX8_isImplied_2 : decode cX8_isImplied 2 = .ok (.iload_n 2, 1) := by decide +kernel
theorem dX8_isImplied_3 : decode cX8_isImplied 3 = .ok (.invokevirtual 139, 3) := by decide +kernel
theorem dX8_isImplied_6 : decode cX8_isImplied 6 = .ok (.aload_n 0, 1) := by decide +kernel
theorem dX8_isImplied_7 : decode cX8_isImplied 7 = .ok (.getfield 10, 3) := by decide +kernel
theorem dX8_isImplied_10 : decode cX8_isImplied 10 = .ok (.iload_n 1, 1) := by decide +kernel
theorem dX8_isImplied_11 : decode cX8_isImplied 11 = .ok (.iload_n 2, 1) := by decide +kernel
theorem dX8_isImplied_12 : decode cX8_isImplied 12 = .ok (.iconst (-1), 1) := by decide +kernel
theorem dX8_isImplied_13 : decode cX8_isImplied 13 = .ok (.invokestatic 269, 3) := by decide +kernel
theorem dX8_isImplied_16 : decode cX8_isImplied 16 = .ok (.ireturn, 1) := by decide +kernel
set_option maxRecDepth 20000 in
theorem ggX8_isRedundant_X8_checkClause : GoodIn wsX8_isRedundant wsX8_checkClause := goodIn_ca (goodIn_r _ [8, 9, 10, 1, 11, 12, 13, 14, 15, 16, 36, 37, 38, 39, 40, 41, 42, 43, 44, 45, 46, 47, 48, 49, 50, 51, 52] rfl (by decide +kernel)) (goodIn_sub (fun _ h => List.mem_cons_of_mem _ (List.mem_append_right _ h)) (by decide +kernel))
set_option maxRecDepth 20000 in
theorem gX8_isRedundant_X8_checkClause : GoodIn wsX8_isRedundant (wsV RX8 125 RX8 yX8_checkClause wsX8_checkClause) := goodIn_app (goodIn_r _ [4, 5, 6, 7] rfl (by decide +kernel)) ggX8_isRedundant_X8_checkClause
set_option maxRecDepth 20000 in
theorem ggX8_isRedundant_X2_imply : GoodIn wsX8_isRedundant wsX2_imply := goodIn_r _ [20, 21, 22, 23, 14, 24, 25, 26, 27, 19, 28, 29, 30, 31, 32, 33, 34, 35, 45, 46, 47, 48, 49, 50, 51, 52] rfl (by decide +kernel)
set_option maxRecDepth 20000 in
theorem gX8_isRedundant_X2_imply : GoodIn wsX8_isRedundant (va_wsS RX8 269 yX2_imply wsX2_imply) := goodIn_app (goodIn_r _ [17, 18, 19] rfl (by decide +kernel)) ggX8_isRedundant_X2_imply
theorem dX8_isRedundant_0 : decode cX8_isRedundant 0 = .ok (.aload_n 0, 1) := by decide +kernel
theorem dX8_isRedundant_1 : decode cX8_isRedundant 1 = .ok (.iload_n 1, 1) := by decide +kernel
theorem dX8_isRedundant_2 : decode cX8_isRedundant 2 = .ok (.invokevirtual 125, 3) := by decide +kernel
theorem dX8_isRedundant_5 : decode cX8_isRedundant 5 = .ok (.aload_n 0, 1) := by decide +kernel
theorem dX8_isRedundant_6 : decode cX8_isRedundant 6 = .ok (.getfield 10, 3) := by decide +kernel
theorem dX8_isRedundant_9 : decode cX8_isRedundant 9 = .ok (.aload_n 0, 1) := by decide +kernel
theorem dX8_isRedundant_10 : decode cX8_isRedundant 10 = .ok (.getfield 10, 3) := by decide +kernel
theorem dX8_isRedundant_13 : decode cX8_isRedundant 13 = .ok (.getfield 128, 3) := by decide +kernel
theorem dX8_isRedundant_16 : decode cX8_isRedundant 16 = .ok (.iload_n 1, 1) := by decide +kernel
theorem dX8_isRedundant_17 : decode cX8_isRedundant 17 = .ok (.iaload, 1) := by decide +kernel
theorem dX8_isRedundant_18 : decode cX8_isRedundant 18 = .ok (.aload_n 0, 1) := by decide +kernel
theorem dX8_isRedundant_19 : decode cX8_isRedundant 19 = .ok (.getfield 10, 3) := by decide +kernel
theorem dX8_isRedundant_22 : decode cX8_isRedundant 22 = .ok (.getfield 132, 3) := by decide +kernel
theorem dX8_isRedundant_25 : decode cX8_isRedundant 25 = .ok (.iload_n 1, 1) := by decide +kernel
theorem dX8_isRedundant_26 : decode cX8_isRedundant 26 = .ok (.iaload, 1) := by decide +kernel
theorem dX8_isRedundant_27 : decode cX8_isRedundant 27 = .ok (.iload_n 1, 1) := by decide +kernel
theorem dX8_isRedundant_28 : decode cX8_isRedundant 28 = .ok (.invokestatic 269, 3) := by decide +kernel
theorem dX8_isRedundant_31 : decode cX8_isRedundant 31 = .ok (.ireturn, 1) := by decide +kernel
set_option maxRecDepth 20000 in
theorem ggX8_modelShare_X2_count : GoodIn wsX8_modelShare wsX2_count := goodIn_r _ [6, 7, 8, 9, 10, 11, 12, 13, 14, 5, 15, 16, 17, 18, 19, 20, 21, 22, 32, 33, 34, 35, 36, 37, 38, 39] rfl (by decide +kernel)
set_option maxRecDepth 20000 in
theorem gX8_modelShare_X2_count : GoodIn wsX8_modelShare (va_wsS RX8 243 yX2_count wsX2_count) := goodIn_app (goodIn_r _ [3, 4, 5] rfl (by decide +kernel)) ggX8_modelShare_X2_count
theorem dX8_modelShare_0 : decode cX8_modelShare 0 = .ok (.aload_n 0, 1) := by decide +kernel
theorem dX8_modelShare_1 : decode cX8_modelShare 1 = .ok (.getfield 10, 3) := by decide +kernel
theorem dX8_modelShare_4 : decode cX8_modelShare 4 = .ok (.invokestatic 243, 3) := by decide +kernel
theorem dX8_modelShare_7 : decode cX8_modelShare 7 = .ok (.i2d, 1) := by decide +kernel
theorem dX8_modelShare_8 : decode cX8_modelShare 8 = .ok (.iconst 1, 1) := by decide +kernel
theorem dX8_modelShare_9 : decode cX8_modelShare 9 = .ok (.aload_n 0, 1) := by decide +kernel
theorem dX8_modelShare_10 : decode cX8_modelShare 10 = .ok (.getfield 10, 3) := by decide +kernel
theorem dX8_modelShare_13 : decode cX8_modelShare 13 = .ok (.getfield 122, 3) := by decide +kernel
theorem dX8_modelShare_16 : decode cX8_modelShare 16 = .ok (.ishl, 1) := by decide +kernel
theorem dX8_modelShare_17 : decode cX8_modelShare 17 = .ok (.i2d, 1) := by decide +kernel
theorem dX8_modelShare_18 : decode cX8_modelShare 18 = .ok (.ddiv, 1) := by decide +kernel
theorem dX8_modelShare_19 : decode cX8_modelShare 19 = .ok (.dreturn, 1) := by decide +kernel
set_option maxRecDepth 20000 in
theorem ggX8_fixedTrue_X4_run : GoodIn wsX8_fixedTrue wsX4_run := goodIn_r _ [8, 9, 10, 11, 12, 13, 7, 14, 15, 16, 17, 18, 19, 20, 21, 22, 23, 24, 25, 26, 27, 28, 29, 30, 31, 32, 42, 43, 44, 45, 46, 47, 48, 49, 50, 51] rfl (by decide +kernel)
set_option maxRecDepth 20000 in
theorem gX8_fixedTrue_X4_run : GoodIn wsX8_fixedTrue (wsV RX8 273 RX4 yX4_run wsX4_run) := goodIn_app (goodIn_r _ [4, 5, 6, 7] rfl (by decide +kernel)) ggX8_fixedTrue_X4_run
theorem dX8_fixedTrue_0 : decode cX8_fixedTrue 0 = .ok (.aload_n 0, 1) := by decide +kernel
theorem dX8_fixedTrue_1 : decode cX8_fixedTrue 1 = .ok (.getfield 51, 3) := by decide +kernel
theorem dX8_fixedTrue_4 : decode cX8_fixedTrue 4 = .ok (.aload_n 0, 1) := by decide +kernel
theorem dX8_fixedTrue_5 : decode cX8_fixedTrue 5 = .ok (.getfield 10, 3) := by decide +kernel
theorem dX8_fixedTrue_8 : decode cX8_fixedTrue 8 = .ok (.invokevirtual 273, 3) := by decide +kernel
theorem dX8_fixedTrue_11 : decode cX8_fixedTrue 11 = .ok (.aload_n 0, 1) := by decide +kernel
theorem dX8_fixedTrue_12 : decode cX8_fixedTrue 12 = .ok (.getfield 51, 3) := by decide +kernel
theorem dX8_fixedTrue_15 : decode cX8_fixedTrue 15 = .ok (.getfield 276, 3) := by decide +kernel
theorem dX8_fixedTrue_18 : decode cX8_fixedTrue 18 = .ok (.ireturn, 1) := by decide +kernel
set_option maxRecDepth 20000 in
theorem ggX8_fixedFalse_X4_run : GoodIn wsX8_fixedFalse wsX4_run := goodIn_r _ [8, 9, 10, 11, 12, 13, 7, 14, 15, 16, 17, 18, 19, 20, 21, 22, 23, 24, 25, 26, 27, 28, 29, 30, 31, 32, 42, 43, 44, 45, 46, 47, 48, 49, 50, 51] rfl (by decide +kernel)
set_option maxRecDepth 20000 in
theorem gX8_fixedFalse_X4_run : GoodIn wsX8_fixedFalse (wsV RX8 273 RX4 yX4_run wsX4_run) := goodIn_app (goodIn_r _ [4, 5, 6, 7] rfl (by decide +kernel)) ggX8_fixedFalse_X4_run
theorem dX8_fixedFalse_0 : decode cX8_fixedFalse 0 = .ok (.aload_n 0, 1) := by decide +kernel
theorem dX8_fixedFalse_1 : decode cX8_fixedFalse 1 = .ok (.getfield 51, 3) := by decide +kernel
theorem dX8_fixedFalse_4 : decode cX8_fixedFalse 4 = .ok (.aload_n 0, 1) := by decide +kernel
theorem dX8_fixedFalse_5 : decode cX8_fixedFalse 5 = .ok (.getfield 10, 3) := by decide +kernel
theorem dX8_fixedFalse_8 : decode cX8_fixedFalse 8 = .ok (.invokevirtual 273, 3) := by decide +kernel
theorem dX8_fixedFalse_11 : decode cX8_fixedFalse 11 = .ok (.aload_n 0, 1) := by decide +kernel
theorem dX8_fixedFalse_12 : decode cX8_fixedFalse 12 = .ok (.getfield 51, 3) := by decide +kernel
theorem dX8_fixedFalse_15 : decode cX8_fixedFalse 15 = .ok (.getfield 279, 3) := by decide +kernel
theorem dX8_fixedFalse_18 : decode cX8_fixedFalse 18 = .ok (.ireturn, 1) := by decide +kernel
set_option maxRecDepth 20000 in
theorem ggX8_hasConflict_X4_run : GoodIn wsX8_hasConflict wsX4_run := goodIn_r _ [7, 8, 9, 10, 11, 12, 6, 13, 14, 15, 16, 17, 18, 19, 20, 21, 22, 23, 24, 25, 26, 27, 28, 29, 30, 31, 54, 55, 56, 57, 58, 59, 60, 61, 62, 63] rfl (by decide +kernel)
set_option maxRecDepth 20000 in
theorem gX8_hasConflict_X4_run : GoodIn wsX8_hasConflict (wsV RX8 273 RX4 yX4_run wsX4_run) := goodIn_app (goodIn_r _ [3, 4, 5, 6] rfl (by decide +kernel)) ggX8_hasConflict_X4_run
set_option maxRecDepth 20000 in
theorem ggX8_hasConflict_X4_isContradictory : GoodIn wsX8_hasConflict wsX4_isContradictory := goodIn_r _ [35, 8, 9, 36, 37, 38, 20, 39, 40, 41, 42, 43, 44, 22, 23, 54, 55, 56, 57, 58, 59, 60, 61, 62, 63] rfl (by decide +kernel)
set_option maxRecDepth 20000 in
theorem gX8_hasConflict_X4_isContradictory : GoodIn wsX8_hasConflict (wsV RX8 282 RX4 yX4_isContradictory wsX4_isContradictory) := goodIn_app (goodIn_r _ [32, 33, 34, 6] rfl (by decide +kernel)) ggX8_hasConflict_X4_isContradictory
theorem dX8_hasConflict_0 : decode cX8_hasConflict 0 = .ok (.aload_n 0, 1) := by decide +kernel
theorem dX8_hasConflict_1 : decode cX8_hasConflict 1 = .ok (.getfield 51, 3) := by decide +kernel
theorem dX8_hasConflict_4 : decode cX8_hasConflict 4 = .ok (.aload_n 0, 1) := by decide +kernel
theorem dX8_hasConflict_5 : decode cX8_hasConflict 5 = .ok (.getfield 10, 3) := by decide +kernel
theorem dX8_hasConflict_8 : decode cX8_hasConflict 8 = .ok (.invokevirtual 273, 3) := by decide +kernel
theorem dX8_hasConflict_11 : decode cX8_hasConflict 11 = .ok (.aload_n 0, 1) := by decide +kernel
theorem dX8_hasConflict_12 : decode cX8_hasConflict 12 = .ok (.getfield 51, 3) := by decide +kernel
theorem dX8_hasConflict_15 : decode cX8_hasConflict 15 = .ok (.aload_n 0, 1) := by decide +kernel
theorem dX8_hasConflict_16 : decode cX8_hasConflict 16 = .ok (.getfield 10, 3) := by decide +kernel
theorem dX8_hasConflict_19 : decode cX8_hasConflict 19 = .ok (.invokevirtual 282, 3) := by decide +kernel
theorem dX8_hasConflict_22 : decode cX8_hasConflict 22 = .ok (.ireturn, 1) := by decide +kernel
set_option maxRecDepth 20000 in
theorem ggX8_addClause_X8_checkLiterals : GoodIn wsX8_addClause wsX8_checkLiterals := goodIn_ca (goodIn_r _ [9, 10, 11, 12, 13, 14, 8, 15, 3, 16, 17, 18, 19, 20, 21, 22, 23, 24, 25, 66, 67, 68, 69, 70, 71, 72, 73, 74, 75, 76, 77, 78, 79, 80, 81, 82] rfl (by decide +kernel)) (goodIn_sub (fun _ h => List.mem_cons_of_mem _ (List.mem_append_right _ h)) (by decide +kernel))
set_option maxRecDepth 20000 in
theorem gX8_addClause_X8_checkLiterals : GoodIn wsX8_addClause (wsV RX8 139 RX8 yX8_checkLiterals wsX8_checkLiterals) := goodIn_app (goodIn_r _ [5, 6, 7, 8] rfl (by decide +kernel)) ggX8_addClause_X8_checkLiterals
set_option maxRecDepth 20000 in
theorem ggX8_addClause_X0_isFull : GoodIn wsX8_addClause wsX0_isFull := goodIn_r _ [29, 30, 75, 76, 77, 78, 79, 80, 81, 82] rfl (by decide +kernel)
set_option maxRecDepth 20000 in
theorem gX8_addClause_X0_isFull : GoodIn wsX8_addClause (wsV RX8 285 RX0 yX0_isFull wsX0_isFull) := goodIn_app (goodIn_r _ [26, 27, 28, 19] rfl (by decide +kernel)) ggX8_addClause_X0_isFull
set_option maxRecDepth 20000 in
theorem ggX8_addClause_X0_indexOf : GoodIn wsX8_addClause wsX0_indexOf := goodIn_r _ [34, 30, 35, 36, 75, 76, 77, 78, 79, 80, 81, 82] rfl (by decide +kernel)
set_option maxRecDepth 20000 in
theorem gX8_addClause_X0_indexOf : GoodIn wsX8_addClause (wsV RX8 143 RX0 yX0_indexOf wsX0_indexOf) := goodIn_app (goodIn_r _ [31, 32, 33, 19] rfl (by decide +kernel)) ggX8_addClause_X0_indexOf
set_option maxRecDepth 20000 in
theorem ggX8_addClause_X1_push : GoodIn wsX8_addClause wsX1_push := goodIn_r _ [41, 42, 43, 44, 45, 46, 47, 48, 49, 50, 51, 19, 52, 25, 30, 35, 53, 54, 55, 56, 36, 57, 58, 59, 60, 83, 84, 85, 75, 76, 77, 78, 79, 80, 81, 82] rfl (by decide +kernel)
set_option maxRecDepth 20000 in
theorem gX8_addClause_X1_push : GoodIn wsX8_addClause (wsV RX8 113 RX1 yX1_push wsX1_push) := goodIn_app (goodIn_r _ [37, 38, 39, 40] rfl (by decide +kernel)) ggX8_addClause_X1_push
set_option maxRecDepth 20000 in
theorem ggX8_addClause_X0_addGiven : GoodIn wsX8_addClause wsX0_addGiven := goodIn_r _ [64, 30, 35, 36, 57, 58, 59, 60, 65, 27, 28, 19, 29, 75, 76, 77, 78, 79, 80, 81, 82] rfl (by decide +kernel)
set_option maxRecDepth 20000 in
theorem gX8_addClause_X0_addGiven : GoodIn wsX8_addClause (wsV RX8 296 RX0 yX0_addGiven wsX0_addGiven) := goodIn_app (goodIn_r _ [61, 62, 63, 19] rfl (by decide +kernel)) ggX8_addClause_X0_addGiven
theorem dX8_addClause_0 : decode cX8_addClause 0 = .ok (.aload_n 0, 1) := by decide +kernel
theorem dX8_addClause_1 : decode cX8_addClause 1 = .ok (.iload_n 1, 1) := by decide +kernel
theorem dX8_addClause_2 : decode cX8_addClause 2 = .ok (.iload_n 2, 1) := by decide +kernel
theorem dX8_addClause_3 : decode cX8_addClause 3 = .ok (.invokevirtual 139, 3) := by decide +kernel
theorem dX8_addClause_6 : decode cX8_addClause 6 = .ok (.aload_n 0, 1) := by decide +kernel
theorem dX8_addClause_7 : decode cX8_addClause 7 = .ok (.getfield 10, 3) := by decide +kernel
theorem dX8_addClause_10 : decode cX8_addClause 10 = .ok (.invokevirtual 285, 3) := by decide +kernel
theorem dX8_addClause_13 : decode cX8_addClause 13 = .ok (.ifCond .eq 14, 3) := by decide +kernel
theorem dX8_addClause_16 : decode cX8_addClause 16 = .ok (.new 289, 3) := by decide +kernel
theorem dX8_addClause_19 : decode cX8_addClause 19 = .ok (.dup, 1) := by decide +kernel
theorem dX8_addClause_20 : decode cX8_addClause 20 = .ok (.ldc_w 291, 3) := by decide +kernel
theorem dX8_addClause_23 : decode cX8_addClause 23 = .ok (.invokespecial 293, 3) := by decide +kernel
theorem dX8_addClause_26 : decode cX8_addClause 26 = .ok (.athrow, 1) := by decide +kernel
theorem dX8_addClause_27 : decode cX8_addClause 27 = .ok (.aload_n 0, 1) := by decide +kernel
theorem dX8_addClause_28 : decode cX8_addClause 28 = .ok (.getfield 10, 3) := by decide +kernel
theorem dX8_addClause_31 : decode cX8_addClause 31 = .ok (.iload_n 1, 1) := by decide +kernel
theorem dX8_addClause_32 : decode cX8_addClause 32 = .ok (.iload_n 2, 1) := by decide +kernel
theorem dX8_addClause_33 : decode cX8_addClause 33 = .ok (.invokevirtual 143, 3) := by decide +kernel
theorem dX8_addClause_36 : decode cX8_addClause 36 = .ok (.iconst (-1), 1) := by decide +kernel
theorem dX8_addClause_37 : decode cX8_addClause 37 = .ok (.if_icmp .eq 14, 3) := by decide +kernel
theorem dX8_addClause_40 : decode cX8_addClause 40 = .ok (.new 289, 3) := by decide +kernel
theorem dX8_addClause_43 : decode cX8_addClause 43 = .ok (.dup, 1) := by decide +kernel
theorem dX8_addClause_44 : decode cX8_addClause 44 = .ok (.ldc_w 294, 3) := by decide +kernel
theorem dX8_addClause_47 : decode cX8_addClause 47 = .ok (.invokespecial 293, 3) := by decide +kernel
theorem dX8_addClause_50 : decode cX8_addClause 50 = .ok (.athrow, 1) := by decide +kernel
theorem dX8_addClause_51 : decode cX8_addClause 51 = .ok (.aload_n 0, 1) := by decide +kernel
theorem dX8_addClause_52 : decode cX8_addClause 52 = .ok (.getfield 29, 3) := by decide +kernel
theorem dX8_addClause_55 : decode cX8_addClause 55 = .ok (.aload_n 0, 1) := by decide +kernel
theorem dX8_addClause_56 : decode cX8_addClause 56 = .ok (.getfield 10, 3) := by decide +kernel
theorem dX8_addClause_59 : decode cX8_addClause 59 = .ok (.invokevirtual 113, 3) := by decide +kernel
theorem dX8_addClause_62 : decode cX8_addClause 62 = .ok (.aload_n 0, 1) := by decide +kernel
theorem dX8_addClause_63 : decode cX8_addClause 63 = .ok (.getfield 10, 3) := by decide +kernel
theorem dX8_addClause_66 : decode cX8_addClause 66 = .ok (.iload_n 1, 1) := by decide +kernel
theorem dX8_addClause_67 : decode cX8_addClause 67 = .ok (.iload_n 2, 1) := by decide +kernel
theorem dX8_addClause_68 : decode cX8_addClause 68 = .ok (.invokevirtual 296, 3) := by decide +kernel
theorem dX8_addClause_71 : decode cX8_addClause 71 = .ok (.ireturn, 1) := by decide +kernel
set_option maxRecDepth 20000 in
theorem ggX8_resolve_X8_checkClause : GoodIn wsX8_resolve wsX8_checkClause := goodIn_ca (goodIn_r _ [11, 12, 13, 5, 14, 15, 16, 17, 18, 19, 97, 98, 99, 100, 101, 102, 103, 104, 105, 106, 107, 108, 109, 110, 111, 112, 113] rfl (by decide +kernel)) (goodIn_sub (fun _ h => List.mem_cons_of_mem _ (List.mem_append_right _ h)) (by decide +kernel))
set_option maxRecDepth 20000 in
theorem gX8_resolve_X8_checkClause : GoodIn wsX8_resolve (wsV RX8 125 RX8 yX8_checkClause wsX8_checkClause) := goodIn_app (goodIn_r _ [7, 8, 9, 10] rfl (by decide +kernel)) ggX8_resolve_X8_checkClause
set_option maxRecDepth 20000 in
theorem ggX8_resolve_X0_clashOnce : GoodIn wsX8_resolve wsX0_clashOnce := goodIn_r _ [23, 24, 25, 26, 17, 27, 28, 29, 30, 31, 32, 33, 34, 35, 36, 106, 107, 108, 109, 110, 111, 112, 113] rfl (by decide +kernel)
set_option maxRecDepth 20000 in
theorem gX8_resolve_X0_clashOnce : GoodIn wsX8_resolve (wsV RX8 205 RX0 yX0_clashOnce wsX0_clashOnce) := goodIn_app (goodIn_r _ [20, 21, 22, 17] rfl (by decide +kernel)) ggX8_resolve_X0_clashOnce
set_option maxRecDepth 20000 in
theorem ggX8_resolve_X0_hasRoomForResolvent : GoodIn wsX8_resolve wsX0_hasRoomForResolvent := goodIn_r _ [40, 41, 42, 43, 17, 44, 28, 24, 25, 26, 27, 29, 45, 46, 47, 48, 49, 50, 51, 52, 19, 53, 54, 55, 56, 106, 107, 108, 109, 110, 111, 112, 113] rfl (by decide +kernel)
set_option maxRecDepth 20000 in
theorem gX8_resolve_X0_hasRoomForResolvent : GoodIn wsX8_resolve (wsV RX8 301 RX0 yX0_hasRoomForResolvent wsX0_hasRoomForResolvent) := goodIn_app (goodIn_r _ [37, 38, 39, 17] rfl (by decide +kernel)) ggX8_resolve_X0_hasRoomForResolvent
set_option maxRecDepth 20000 in
theorem ggX8_resolve_X1_push : GoodIn wsX8_resolve wsX1_push := goodIn_r _ [61, 62, 63, 64, 65, 66, 67, 68, 69, 70, 71, 17, 72, 73, 19, 28, 74, 75, 76, 77, 29, 78, 79, 80, 81, 114, 115, 116, 106, 107, 108, 109, 110, 111, 112, 113] rfl (by decide +kernel)
set_option maxRecDepth 20000 in
theorem gX8_resolve_X1_push : GoodIn wsX8_resolve (wsV RX8 113 RX1 yX1_push wsX1_push) := goodIn_app (goodIn_r _ [57, 58, 59, 60] rfl (by decide +kernel)) ggX8_resolve_X1_push
set_option maxRecDepth 20000 in
theorem ggX8_resolve_X0_addResolvent : GoodIn wsX8_resolve wsX0_addResolvent := goodIn_r _ [85, 28, 81, 86, 87, 67, 88, 78, 79, 80, 24, 25, 26, 17, 27, 29, 41, 42, 43, 44, 45, 46, 47, 48, 89, 90, 91, 92, 19, 49, 50, 51, 52, 93, 94, 32, 95, 96, 106, 107, 108, 109, 110, 111, 112, 113] rfl (by decide +kernel)
set_option maxRecDepth 20000 in
theorem gX8_resolve_X0_addResolvent : GoodIn wsX8_resolve (wsV RX8 306 RX0 yX0_addResolvent wsX0_addResolvent) := goodIn_app (goodIn_r _ [82, 83, 84, 17] rfl (by decide +kernel)) ggX8_resolve_X0_addResolvent
theorem dX8_resolve_0 : decode cX8_resolve 0 = .ok (.aload_n 0, 1) := by decide +kernel
theorem dX8_resolve_1 : decode cX8_resolve 1 = .ok (.iload_n 1, 1) := by decide +kernel
theorem dX8_resolve_2 : decode cX8_resolve 2 = .ok (.invokevirtual 125, 3) := by decide +kernel
theorem dX8_resolve_5 : decode cX8_resolve 5 = .ok (.aload_n 0, 1) := by decide +kernel
theorem dX8_resolve_6 : decode cX8_resolve 6 = .ok (.iload_n 2, 1) := by decide +kernel
theorem dX8_resolve_7 : decode cX8_resolve 7 = .ok (.invokevirtual 125, 3) := by decide +kernel
theorem dX8_resolve_10 : decode cX8_resolve 10 = .ok (.aload_n 0, 1) := by decide +kernel
theorem dX8_resolve_11 : decode cX8_resolve 11 = .ok (.getfield 10, 3) := by decide +kernel
theorem dX8_resolve_14 : decode cX8_resolve 14 = .ok (.iload_n 1, 1) := by decide +kernel
theorem dX8_resolve_15 : decode cX8_resolve 15 = .ok (.iload_n 2, 1) := by decide +kernel
theorem dX8_resolve_16 : decode cX8_resolve 16 = .ok (.invokevirtual 205, 3) := by decide +kernel
theorem dX8_resolve_19 : decode cX8_resolve 19 = .ok (.ifCond .ne 14, 3) := by decide +kernel
theorem dX8_resolve_22 : decode cX8_resolve 22 = .ok (.new 91, 3) := by decide +kernel
theorem dX8_resolve_25 : decode cX8_resolve 25 = .ok (.dup, 1) := by decide +kernel
theorem dX8_resolve_26 : decode cX8_resolve 26 = .ok (.ldc_w 299, 3) := by decide +kernel
theorem dX8_resolve_29 : decode cX8_resolve 29 = .ok (.invokespecial 95, 3) := by decide +kernel
theorem dX8_resolve_32 : decode cX8_resolve 32 = .ok (.athrow, 1) := by decide +kernel
theorem dX8_resolve_33 : decode cX8_resolve 33 = .ok (.aload_n 0, 1) := by decide +kernel
theorem dX8_resolve_34 : decode cX8_resolve 34 = .ok (.getfield 10, 3) := by decide +kernel
theorem dX8_resolve_37 : decode cX8_resolve 37 = .ok (.iload_n 1, 1) := by decide +kernel
theorem dX8_resolve_38 : decode cX8_resolve 38 = .ok (.iload_n 2, 1) := by decide +kernel
theorem dX8_resolve_39 : decode cX8_resolve 39 = .ok (.invokevirtual 301, 3) := by decide +kernel
theorem dX8_resolve_42 : decode cX8_resolve 42 = .ok (.ifCond .ne 14, 3) := by decide +kernel
theorem dX8_resolve_45 : decode cX8_resolve 45 = .ok (.new 289, 3) := by decide +kernel
theorem dX8_resolve_48 : decode cX8_resolve 48 = .ok (.dup, 1) := by decide +kernel
theorem dX8_resolve_49 : decode cX8_resolve 49 = .ok (.ldc_w 304, 3) := by decide +kernel
theorem dX8_resolve_52 : decode cX8_resolve 52 = .ok (.invokespecial 293, 3) := by decide +kernel
theorem dX8_resolve_55 : decode cX8_resolve 55 = .ok (.athrow, 1) := by decide +kernel
theorem dX8_resolve_56 : decode cX8_resolve 56 = .ok (.aload_n 0, 1) := by decide +kernel
theorem dX8_resolve_57 : decode cX8_resolve 57 = .ok (.getfield 29, 3) := by decide +kernel
theorem dX8_resolve_60 : decode cX8_resolve 60 = .ok (.aload_n 0, 1) := by decide +kernel
theorem dX8_resolve_61 : decode cX8_resolve 61 = .ok (.getfield 10, 3) := by decide +kernel
theorem dX8_resolve_64 : decode cX8_resolve 64 = .ok (.invokevirtual 113, 3) := by decide +kernel
theorem dX8_resolve_67 : decode cX8_resolve 67 = .ok (.aload_n 0, 1) := by decide +kernel
theorem dX8_resolve_68 : decode cX8_resolve 68 = .ok (.getfield 10, 3) := by decide +kernel
theorem dX8_resolve_71 : decode cX8_resolve 71 = .ok (.iload_n 1, 1) := by decide +kernel
theorem dX8_resolve_72 : decode cX8_resolve 72 = .ok (.iload_n 2, 1) := by decide +kernel
theorem dX8_resolve_73 : decode cX8_resolve 73 = .ok (.invokevirtual 306, 3) := by decide +kernel
theorem dX8_resolve_76 : decode cX8_resolve 76 = .ok (.ireturn, 1) := by decide +kernel
set_option maxRecDepth 20000 in
theorem ggX8_saturate_X5_begin : GoodIn wsX8_saturate wsX5_begin := goodIn_r _ [12, 13, 14, 121, 122] rfl (by decide +kernel)
set_option maxRecDepth 20000 in
theorem gX8_saturate_X5_begin : GoodIn wsX8_saturate (wsV RX8 228 RX5 yX5_begin wsX5_begin) := goodIn_app (goodIn_r _ [8, 9, 10, 11] rfl (by decide +kernel)) ggX8_saturate_X5_begin
set_option maxRecDepth 20000 in
theorem ggX8_saturate_X5_findStep : GoodIn wsX8_saturate wsX5_findStep := goodIn_r _ [18, 14, 19, 13, 20, 21, 22, 23, 24, 25, 26, 27, 28, 29, 30, 31, 32, 33, 34, 35, 36, 37, 38, 39, 40, 41, 42, 43, 44, 45, 46, 47, 48, 49, 50, 51, 52, 53, 54, 55, 56, 57, 58, 59, 60, 61, 62, 121, 122, 123, 124, 125, 126, 127, 128, 129, 130] rfl (by decide +kernel)
set_option maxRecDepth 20000 in
theorem gX8_saturate_X5_findStep : GoodIn wsX8_saturate (wsV RX8 229 RX5 yX5_findStep wsX5_findStep) := goodIn_app (goodIn_r _ [15, 16, 17, 11] rfl (by decide +kernel)) ggX8_saturate_X5_findStep
set_option maxRecDepth 20000 in
theorem ggX8_saturate_X1_push : GoodIn wsX8_saturate wsX1_push := goodIn_r _ [67, 68, 69, 70, 71, 72, 73, 74, 75, 76, 77, 23, 78, 79, 25, 30, 80, 81, 82, 83, 31, 84, 85, 86, 87, 131, 132, 133, 123, 124, 125, 126, 127, 128, 129, 130] rfl (by decide +kernel)
set_option maxRecDepth 20000 in
theorem gX8_saturate_X1_push : GoodIn wsX8_saturate (wsV RX8 113 RX1 yX1_push wsX1_push) := goodIn_app (goodIn_r _ [63, 64, 65, 66] rfl (by decide +kernel)) ggX8_saturate_X1_push
set_option maxRecDepth 20000 in
theorem ggX8_saturate_X5_makeSteps : GoodIn wsX8_saturate wsX5_makeSteps := goodIn_r _ [91, 13, 14, 92, 9, 10, 11, 12, 93, 16, 17, 18, 19, 20, 21, 22, 23, 24, 25, 26, 27, 28, 29, 30, 31, 32, 33, 34, 35, 36, 37, 38, 39, 40, 41, 42, 43, 44, 45, 46, 47, 48, 49, 50, 51, 52, 53, 54, 55, 56, 57, 58, 59, 60, 61, 62, 94, 95, 96, 97, 87, 98, 99, 73, 100, 84, 85, 86, 101, 102, 103, 104, 105, 106, 107, 108, 109, 110, 111, 121, 122, 123, 124, 125, 126, 127, 128, 129, 130] rfl (by decide +kernel)
set_option maxRecDepth 20000 in
theorem gX8_saturate_X5_makeSteps : GoodIn wsX8_saturate (wsV RX8 239 RX5 yX5_makeSteps wsX5_makeSteps) := goodIn_app (goodIn_r _ [88, 89, 90, 11] rfl (by decide +kernel)) ggX8_saturate_X5_makeSteps
theorem dX8_saturate_0 : decode cX8_saturate 0 = .ok (.iload_n 1, 1) := by decide +kernel
theorem dX8_saturate_1 : decode cX8_saturate 1 = .ok (.iconst 1, 1) := by decide +kernel
theorem dX8_saturate_2 : decode cX8_saturate 2 = .ok (.if_icmp .lt 9, 3) := by decide +kernel
theorem dX8_saturate_5 : decode cX8_saturate 5 = .ok (.iload_n 1, 1) := by decide +kernel
theorem dX8_saturate_6 : decode cX8_saturate 6 = .ok (.bipush 99, 2) := by decide +kernel
theorem dX8_saturate_8 : decode cX8_saturate 8 = .ok (.if_icmp .le 14, 3) := by decide +kernel
theorem dX8_saturate_11 : decode cX8_saturate 11 = .ok (.new 91, 3) := by decide +kernel
theorem dX8_saturate_14 : decode cX8_saturate 14 = .ok (.dup, 1) := by decide +kernel
theorem dX8_saturate_15 : decode cX8_saturate 15 = .ok (.ldc_w 309, 3) := by decide +kernel
theorem dX8_saturate_18 : decode cX8_saturate 18 = .ok (.invokespecial 95, 3) := by decide +kernel
theorem dX8_saturate_21 : decode cX8_saturate 21 = .ok (.athrow, 1) := by decide +kernel
theorem dX8_saturate_22 : decode cX8_saturate 22 = .ok (.aload_n 0, 1) := by decide +kernel
theorem dX8_saturate_23 : decode cX8_saturate 23 = .ok (.getfield 44, 3) := by decide +kernel
theorem dX8_saturate_26 : decode cX8_saturate 26 = .ok (.invokevirtual 228, 3) := by decide +kernel
theorem dX8_saturate_29 : decode cX8_saturate 29 = .ok (.aload_n 0, 1) := by decide +kernel
theorem dX8_saturate_30 : decode cX8_saturate 30 = .ok (.getfield 44, 3) := by decide +kernel
theorem dX8_saturate_33 : decode cX8_saturate 33 = .ok (.aload_n 0, 1) := by decide +kernel
theorem dX8_saturate_34 : decode cX8_saturate 34 = .ok (.getfield 10, 3) := by decide +kernel
theorem dX8_saturate_37 : decode cX8_saturate 37 = .ok (.invokevirtual 229, 3) := by decide +kernel
theorem dX8_saturate_40 : decode cX8_saturate 40 = .ok (.ifCond .ne 14, 3) := by decide +kernel
theorem dX8_saturate_43 : decode cX8_saturate 43 = .ok (.new 289, 3) := by decide +kernel
theorem dX8_saturate_46 : decode cX8_saturate 46 = .ok (.dup, 1) := by decide +kernel
theorem dX8_saturate_47 : decode cX8_saturate 47 = .ok (.ldc_w 311, 3) := by decide +kernel
theorem dX8_saturate_50 : decode cX8_saturate 50 = .ok (.invokespecial 293, 3) := by decide +kernel
theorem dX8_saturate_53 : decode cX8_saturate 53 = .ok (.athrow, 1) := by decide +kernel
theorem dX8_saturate_54 : decode cX8_saturate 54 = .ok (.aload_n 0, 1) := by decide +kernel
theorem dX8_saturate_55 : decode cX8_saturate 55 = .ok (.getfield 29, 3) := by decide +kernel
theorem dX8_saturate_58 : decode cX8_saturate 58 = .ok (.aload_n 0, 1) := by decide +kernel
theorem dX8_saturate_59 : decode cX8_saturate 59 = .ok (.getfield 10, 3) := by decide +kernel
theorem dX8_saturate_62 : decode cX8_saturate 62 = .ok (.invokevirtual 113, 3) := by decide +kernel
theorem dX8_saturate_65 : decode cX8_saturate 65 = .ok (.aload_n 0, 1) := by decide +kernel
theorem dX8_saturate_66 : decode cX8_saturate 66 = .ok (.getfield 44, 3) := by decide +kernel
theorem dX8_saturate_69 : decode cX8_saturate 69 = .ok (.aload_n 0, 1) := by decide +kernel
theorem dX8_saturate_70 : decode cX8_saturate 70 = .ok (.getfield 10, 3) := by decide +kernel
theorem dX8_saturate_73 : decode cX8_saturate 73 = .ok (.iload_n 1, 1) := by decide +kernel
theorem dX8_saturate_74 : decode cX8_saturate 74 = .ok (.invokevirtual 239, 3) := by decide +kernel
theorem dX8_saturate_77 : decode cX8_saturate 77 = .ok (.ireturn, 1) := by decide +kernel
set_option maxRecDepth 20000 in
theorem ggX8_dropClause_X8_checkClause : GoodIn wsX8_dropClause wsX8_checkClause := goodIn_ca (goodIn_r _ [9, 10, 11, 3, 12, 13, 14, 15, 16, 17, 69, 70, 71, 72, 73, 74, 75, 76, 77, 78, 79, 80, 81, 82, 83, 84, 85] rfl (by decide +kernel)) (goodIn_sub (fun _ h => List.mem_cons_of_mem _ (List.mem_append_right _ h)) (by decide +kernel))
set_option maxRecDepth 20000 in
theorem gX8_dropClause_X8_checkClause : GoodIn wsX8_dropClause (wsV RX8 125 RX8 yX8_checkClause wsX8_checkClause) := goodIn_app (goodIn_r _ [5, 6, 7, 8] rfl (by decide +kernel)) ggX8_dropClause_X8_checkClause
set_option maxRecDepth 20000 in
theorem ggX8_dropClause_X0_isParent : GoodIn wsX8_dropClause wsX0_isParent := goodIn_r _ [21, 17, 22, 23, 78, 79, 80, 81, 82, 83, 84, 85] rfl (by decide +kernel)
set_option maxRecDepth 20000 in
theorem gX8_dropClause_X0_isParent : GoodIn wsX8_dropClause (wsV RX8 313 RX0 yX0_isParent wsX0_isParent) := goodIn_app (goodIn_r _ [18, 19, 20, 15] rfl (by decide +kernel)) ggX8_dropClause_X0_isParent
set_option maxRecDepth 20000 in
theorem ggX8_dropClause_X1_push : GoodIn wsX8_dropClause wsX1_push := goodIn_r _ [28, 29, 30, 31, 32, 33, 34, 35, 36, 37, 38, 15, 39, 40, 17, 41, 42, 43, 44, 45, 46, 22, 23, 47, 48, 86, 87, 88, 78, 79, 80, 81, 82, 83, 84, 85] rfl (by decide +kernel)
set_option maxRecDepth 20000 in
theorem gX8_dropClause_X1_push : GoodIn wsX8_dropClause (wsV RX8 113 RX1 yX1_push wsX1_push) := goodIn_app (goodIn_r _ [24, 25, 26, 27] rfl (by decide +kernel)) ggX8_dropClause_X1_push
set_option maxRecDepth 20000 in
theorem ggX8_dropClause_X0_remove : GoodIn wsX8_dropClause wsX0_remove := goodIn_r _ [52, 17, 41, 46, 22, 23, 47, 48, 78, 79, 80, 81, 82, 83, 84, 85] rfl (by decide +kernel)
set_option maxRecDepth 20000 in
theorem gX8_dropClause_X0_remove : GoodIn wsX8_dropClause (wsV RX8 319 RX0 yX0_remove wsX0_remove) := goodIn_app (goodIn_r _ [49, 50, 51, 15] rfl (by decide +kernel)) ggX8_dropClause_X0_remove
set_option maxRecDepth 20000 in
theorem ggX8_dropClause_X2_count : GoodIn wsX8_dropClause wsX2_count := goodIn_r _ [56, 57, 58, 59, 15, 60, 40, 61, 62, 55, 63, 64, 65, 66, 67, 68, 41, 46, 78, 79, 80, 81, 82, 83, 84, 85] rfl (by decide +kernel)
set_option maxRecDepth 20000 in
theorem gX8_dropClause_X2_count : GoodIn wsX8_dropClause (va_wsS RX8 243 yX2_count wsX2_count) := goodIn_app (goodIn_r _ [53, 54, 55] rfl (by decide +kernel)) ggX8_dropClause_X2_count
theorem dX8_dropClause_0 : decode cX8_dropClause 0 = .ok (.aload_n 0, 1) := by decide +kernel
theorem dX8_dropClause_1 : decode cX8_dropClause 1 = .ok (.iload_n 1, 1) := by decide +kernel
theorem dX8_dropClause_2 : decode cX8_dropClause 2 = .ok (.invokevirtual 125, 3) := by decide +kernel
theorem dX8_dropClause_5 : decode cX8_dropClause 5 = .ok (.aload_n 0, 1) := by decide +kernel
theorem dX8_dropClause_6 : decode cX8_dropClause 6 = .ok (.getfield 10, 3) := by decide +kernel
theorem dX8_dropClause_9 : decode cX8_dropClause 9 = .ok (.iload_n 1, 1) := by decide +kernel
theorem dX8_dropClause_10 : decode cX8_dropClause 10 = .ok (.invokevirtual 313, 3) := by decide +kernel
theorem dX8_dropClause_13 : decode cX8_dropClause 13 = .ok (.ifCond .eq 14, 3) := by decide +kernel
theorem dX8_dropClause_16 : decode cX8_dropClause 16 = .ok (.new 289, 3) := by decide +kernel
theorem dX8_dropClause_19 : decode cX8_dropClause 19 = .ok (.dup, 1) := by decide +kernel
theorem dX8_dropClause_20 : decode cX8_dropClause 20 = .ok (.ldc_w 317, 3) := by decide +kernel
theorem dX8_dropClause_23 : decode cX8_dropClause 23 = .ok (.invokespecial 293, 3) := by decide +kernel
theorem dX8_dropClause_26 : decode cX8_dropClause 26 = .ok (.athrow, 1) := by decide +kernel
theorem dX8_dropClause_27 : decode cX8_dropClause 27 = .ok (.aload_n 0, 1) := by decide +kernel
theorem dX8_dropClause_28 : decode cX8_dropClause 28 = .ok (.getfield 29, 3) := by decide +kernel
theorem dX8_dropClause_31 : decode cX8_dropClause 31 = .ok (.aload_n 0, 1) := by decide +kernel
theorem dX8_dropClause_32 : decode cX8_dropClause 32 = .ok (.getfield 10, 3) := by decide +kernel
theorem dX8_dropClause_35 : decode cX8_dropClause 35 = .ok (.invokevirtual 113, 3) := by decide +kernel
theorem dX8_dropClause_38 : decode cX8_dropClause 38 = .ok (.aload_n 0, 1) := by decide +kernel
theorem dX8_dropClause_39 : decode cX8_dropClause 39 = .ok (.getfield 10, 3) := by decide +kernel
theorem dX8_dropClause_42 : decode cX8_dropClause 42 = .ok (.iload_n 1, 1) := by decide +kernel
theorem dX8_dropClause_43 : decode cX8_dropClause 43 = .ok (.invokevirtual 319, 3) := by decide +kernel
theorem dX8_dropClause_46 : decode cX8_dropClause 46 = .ok (.aload_n 0, 1) := by decide +kernel
theorem dX8_dropClause_47 : decode cX8_dropClause 47 = .ok (.getfield 10, 3) := by decide +kernel
theorem dX8_dropClause_50 : decode cX8_dropClause 50 = .ok (.invokestatic 243, 3) := by decide +kernel
theorem dX8_dropClause_53 : decode cX8_dropClause 53 = .ok (.ireturn, 1) := by decide +kernel
set_option maxRecDepth 20000 in
theorem ggX8_negateVariable_X8_checkVariable : GoodIn wsX8_negateVariable wsX8_checkVariable := goodIn_ca (goodIn_r _ [7, 8, 9, 2, 10, 48, 49, 50, 51, 52, 53, 54, 55, 56, 57, 58, 59, 60, 61, 62, 63, 64] rfl (by decide +kernel)) (goodIn_sub (fun _ h => List.mem_cons_of_mem _ (List.mem_append_right _ h)) (by decide +kernel))
set_option maxRecDepth 20000 in
theorem gX8_negateVariable_X8_checkVariable : GoodIn wsX8_negateVariable (wsV RX8 183 RX8 yX8_checkVariable wsX8_checkVariable) := goodIn_app (goodIn_r _ [3, 4, 5, 6] rfl (by decide +kernel)) ggX8_negateVariable_X8_checkVariable
set_option maxRecDepth 20000 in
theorem ggX8_negateVariable_X1_push : GoodIn wsX8_negateVariable wsX1_push := goodIn_r _ [15, 16, 17, 18, 19, 20, 21, 22, 23, 24, 25, 26, 27, 28, 29, 30, 31, 32, 33, 34, 35, 36, 37, 38, 39, 65, 66, 67, 57, 58, 59, 60, 61, 62, 63, 64] rfl (by decide +kernel)
set_option maxRecDepth 20000 in
theorem gX8_negateVariable_X1_push : GoodIn wsX8_negateVariable (wsV RX8 113 RX1 yX1_push wsX1_push) := goodIn_app (goodIn_r _ [11, 12, 13, 14] rfl (by decide +kernel)) ggX8_negateVariable_X1_push
set_option maxRecDepth 20000 in
theorem ggX8_negateVariable_X0_negate : GoodIn wsX8_negateVariable wsX0_negate := goodIn_r _ [43, 29, 30, 35, 38, 36, 37, 57, 58, 59, 60, 61, 62, 63, 64] rfl (by decide +kernel)
set_option maxRecDepth 20000 in
theorem gX8_negateVariable_X0_negate : GoodIn wsX8_negateVariable (wsV RX8 322 RX0 yX0_negate wsX0_negate) := goodIn_app (goodIn_r _ [40, 41, 42, 26] rfl (by decide +kernel)) ggX8_negateVariable_X0_negate
set_option maxRecDepth 20000 in
theorem ggX8_negateVariable_X0_countTouching : GoodIn wsX8_negateVariable wsX0_countTouching := goodIn_r _ [47, 29, 30, 35, 57, 58, 59, 60, 61, 62, 63, 64] rfl (by decide +kernel)
set_option maxRecDepth 20000 in
theorem gX8_negateVariable_X0_countTouching : GoodIn wsX8_negateVariable (wsV RX8 186 RX0 yX0_countTouching wsX0_countTouching) := goodIn_app (goodIn_r _ [44, 45, 46, 26] rfl (by decide +kernel)) ggX8_negateVariable_X0_countTouching
theorem dX8_negateVariable_0 : decode cX8_negateVariable 0 = .ok (.aload_n 0, 1) := by decide +kernel
theorem dX8_negateVariable_1 : decode cX8_negateVariable 1 = .ok (.iload_n 1, 1) := by decide +kernel
theorem dX8_negateVariable_2 : decode cX8_negateVariable 2 = .ok (.invokevirtual 183, 3) := by decide +kernel
theorem dX8_negateVariable_5 : decode cX8_negateVariable 5 = .ok (.aload_n 0, 1) := by decide +kernel
theorem dX8_negateVariable_6 : decode cX8_negateVariable 6 = .ok (.getfield 29, 3) := by decide +kernel
theorem dX8_negateVariable_9 : decode cX8_negateVariable 9 = .ok (.aload_n 0, 1) := by decide +kernel
theorem dX8_negateVariable_10 : decode cX8_negateVariable 10 = .ok (.getfield 10, 3) := by decide +kernel
theorem dX8_negateVariable_13 : decode cX8_negateVariable 13 = .ok (.invokevirtual 113, 3) := by decide +kernel
theorem dX8_negateVariable_16 : decode cX8_negateVariable 16 = .ok (.aload_n 0, 1) := by decide +kernel
theorem dX8_negateVariable_17 : decode cX8_negateVariable 17 = .ok (.getfield 10, 3) := by decide +kernel
theorem dX8_negateVariable_20 : decode cX8_negateVariable 20 = .ok (.iload_n 1, 1) := by decide +kernel
theorem dX8_negateVariable_21 : decode cX8_negateVariable 21 = .ok (.invokevirtual 322, 3) := by decide +kernel
theorem dX8_negateVariable_24 : decode cX8_negateVariable 24 = .ok (.iconst 1, 1) := by decide +kernel
theorem dX8_negateVariable_25 : decode cX8_negateVariable 25 = .ok (.iload_n 1, 1) := by decide +kernel
theorem dX8_negateVariable_26 : decode cX8_negateVariable 26 = .ok (.ishl, 1) := by decide +kernel
theorem dX8_negateVariable_27 : decode cX8_negateVariable 27 = .ok (.istore_n 2, 1) := by decide +kernel
theorem dX8_negateVariable_28 : decode cX8_negateVariable 28 = .ok (.aload_n 0, 1) := by decide +kernel
theorem dX8_negateVariable_29 : decode cX8_negateVariable 29 = .ok (.getfield 10, 3) := by decide +kernel
theorem dX8_negateVariable_32 : decode cX8_negateVariable 32 = .ok (.iload_n 2, 1) := by decide +kernel
theorem dX8_negateVariable_33 : decode cX8_negateVariable 33 = .ok (.iload_n 2, 1) := by decide +kernel
theorem dX8_negateVariable_34 : decode cX8_negateVariable 34 = .ok (.invokevirtual 186, 3) := by decide +kernel
theorem dX8_negateVariable_37 : decode cX8_negateVariable 37 = .ok (.ireturn, 1) := by decide +kernel
set_option maxRecDepth 20000 in
theorem ggX8_reduce_X1_push : GoodIn wsX8_reduce wsX1_push := goodIn_r _ [7, 8, 9, 10, 11, 12, 13, 14, 15, 16, 17, 18, 19, 20, 21, 22, 23, 24, 25, 26, 27, 28, 29, 30, 31, 65, 66, 67, 68, 69, 70, 71, 72, 73, 74, 75] rfl (by decide +kernel)
set_option maxRecDepth 20000 in
theorem gX8_reduce_X1_push : GoodIn wsX8_reduce (wsV RX8 113 RX1 yX1_push wsX1_push) := goodIn_app (goodIn_r _ [3, 4, 5, 6] rfl (by decide +kernel)) ggX8_reduce_X1_push
set_option maxRecDepth 20000 in
theorem ggX8_reduce_X0_removeSubsumed : GoodIn wsX8_reduce wsX0_removeSubsumed := goodIn_r _ [35, 36, 37, 38, 18, 39, 21, 40, 41, 42, 43, 28, 29, 44, 45, 46, 47, 22, 27, 48, 49, 50, 51, 52, 53, 54, 55, 30, 31, 68, 69, 70, 71, 72, 73, 74, 75] rfl (by decide +kernel)
set_option maxRecDepth 20000 in
theorem gX8_reduce_X0_removeSubsumed : GoodIn wsX8_reduce (wsV RX8 325 RX0 yX0_removeSubsumed wsX0_removeSubsumed) := goodIn_app (goodIn_r _ [32, 33, 34, 18] rfl (by decide +kernel)) ggX8_reduce_X0_removeSubsumed
theorem dX8_reduce_0 : decode cX8_reduce 0 = .ok (.aload_n 0, 1) := by decide +kernel
theorem dX8_reduce_1 : decode cX8_reduce 1 = .ok (.getfield 29, 3) := by decide +kernel
theorem dX8_reduce_4 : decode cX8_reduce 4 = .ok (.aload_n 0, 1) := by decide +kernel
theorem dX8_reduce_5 : decode cX8_reduce 5 = .ok (.getfield 10, 3) := by decide +kernel
theorem dX8_reduce_8 : decode cX8_reduce 8 = .ok (.invokevirtual 113, 3) := by decide +kernel
theorem dX8_reduce_11 : decode cX8_reduce 11 = .ok (.aload_n 0, 1) := by decide +kernel
theorem dX8_reduce_12 : decode cX8_reduce 12 = .ok (.getfield 10, 3) := by decide +kernel
theorem dX8_reduce_15 : decode cX8_reduce 15 = .ok (.invokevirtual 325, 3) := by decide +kernel
theorem dX8_reduce_18 : decode cX8_reduce 18 = .ok (.ireturn, 1) := by decide +kernel
set_option maxRecDepth 20000 in
theorem ggX8_undo_X1_pop : GoodIn wsX8_undo wsX1_pop := goodIn_r _ [10, 11, 12, 13, 14, 15, 16, 17, 18, 19, 20, 21, 22, 23, 24, 25, 26, 27, 28, 29, 30, 40, 41, 42, 43, 44, 45, 46, 47, 48, 49, 50] rfl (by decide +kernel)
set_option maxRecDepth 20000 in
theorem gX8_undo_X1_pop : GoodIn wsX8_undo (wsV RX8 331 RX1 yX1_pop wsX1_pop) := goodIn_app (goodIn_r _ [6, 7, 8, 9] rfl (by decide +kernel)) ggX8_undo_X1_pop
theorem dX8_undo_0 : decode cX8_undo 0 = .ok (.aload_n 0, 1) := by decide +kernel
theorem dX8_undo_1 : decode cX8_undo 1 = .ok (.getfield 29, 3) := by decide +kernel
theorem dX8_undo_4 : decode cX8_undo 4 = .ok (.getfield 328, 3) := by decide +kernel
theorem dX8_undo_7 : decode cX8_undo 7 = .ok (.ifCond .ne 14, 3) := by decide +kernel
theorem dX8_undo_10 : decode cX8_undo 10 = .ok (.new 289, 3) := by decide +kernel
theorem dX8_undo_13 : decode cX8_undo 13 = .ok (.dup, 1) := by decide +kernel
theorem dX8_undo_14 : decode cX8_undo 14 = .ok (.ldc_w 329, 3) := by decide +kernel
theorem dX8_undo_17 : decode cX8_undo 17 = .ok (.invokespecial 293, 3) := by decide +kernel
theorem dX8_undo_20 : decode cX8_undo 20 = .ok (.athrow, 1) := by decide +kernel
theorem dX8_undo_21 : decode cX8_undo 21 = .ok (.aload_n 0, 1) := by decide +kernel
theorem dX8_undo_22 : decode cX8_undo 22 = .ok (.getfield 29, 3) := by decide +kernel
theorem dX8_undo_25 : decode cX8_undo 25 = .ok (.aload_n 0, 1) := by decide +kernel
theorem dX8_undo_26 : decode cX8_undo 26 = .ok (.getfield 10, 3) := by decide +kernel
theorem dX8_undo_29 : decode cX8_undo 29 = .ok (.invokevirtual 331, 3) := by decide +kernel
theorem dX8_undo_32 : decode cX8_undo 32 = .ok (.aload_n 0, 1) := by decide +kernel
theorem dX8_undo_33 : decode cX8_undo 33 = .ok (.getfield 29, 3) := by decide +kernel
theorem dX8_undo_36 : decode cX8_undo 36 = .ok (.getfield 328, 3) := by decide +kernel
theorem dX8_undo_39 : decode cX8_undo 39 = .ok (.ireturn, 1) := by decide +kernel
theorem dX8_undoDepth_0 : decode cX8_undoDepth 0 = .ok (.aload_n 0, 1) := by decide +kernel
theorem dX8_undoDepth_1 : decode cX8_undoDepth 1 = .ok (.getfield 29, 3) := by decide +kernel
theorem dX8_undoDepth_4 : decode cX8_undoDepth 4 = .ok (.getfield 328, 3) := by decide +kernel
theorem dX8_undoDepth_7 : decode cX8_undoDepth 7 = .ok (.ireturn, 1) := by decide +kernel
set_option maxRecDepth 20000 in
theorem ggX8_save_X8_checkSlot : GoodIn wsX8_save wsX8_checkSlot := goodIn_ca (goodIn_r _ [8, 9, 10] rfl (by decide +kernel)) (goodIn_sub (fun _ h => List.mem_cons_of_mem _ (List.mem_append_right _ h)) (by decide +kernel))
set_option maxRecDepth 20000 in
theorem gX8_save_X8_checkSlot : GoodIn wsX8_save (wsV RX8 334 RX8 yX8_checkSlot wsX8_checkSlot) := goodIn_app (goodIn_r _ [4, 5, 6, 7] rfl (by decide +kernel)) ggX8_save_X8_checkSlot
set_option maxRecDepth 20000 in
theorem ggX8_save_X0_copyFrom : GoodIn wsX8_save wsX0_copyFrom := goodIn_r _ [15, 16, 17, 18, 19, 20, 21, 22, 23, 24, 25, 26, 27, 37, 38, 39, 40, 41, 42, 43, 44] rfl (by decide +kernel)
set_option maxRecDepth 20000 in
theorem gX8_save_X0_copyFrom : GoodIn wsX8_save (wsV RX8 101 RX0 yX0_copyFrom wsX0_copyFrom) := goodIn_app (goodIn_r _ [11, 12, 13, 14] rfl (by decide +kernel)) ggX8_save_X0_copyFrom
theorem dX8_save_0 : decode cX8_save 0 = .ok (.aload_n 0, 1) := by decide +kernel
theorem dX8_save_1 : decode cX8_save 1 = .ok (.iload_n 1, 1) := by decide +kernel
theorem dX8_save_2 : decode cX8_save 2 = .ok (.invokevirtual 334, 3) := by decide +kernel
theorem dX8_save_5 : decode cX8_save 5 = .ok (.aload_n 0, 1) := by decide +kernel
theorem dX8_save_6 : decode cX8_save 6 = .ok (.getfield 37, 3) := by decide +kernel
theorem dX8_save_9 : decode cX8_save 9 = .ok (.iload_n 1, 1) := by decide +kernel
theorem dX8_save_10 : decode cX8_save 10 = .ok (.baload, 1) := by decide +kernel
theorem dX8_save_11 : decode cX8_save 11 = .ok (.ifCond .ne 7, 3) := by decide +kernel
theorem dX8_save_14 : decode cX8_save 14 = .ok (.iconst 1, 1) := by decide +kernel
theorem dX8_save_15 : decode cX8_save 15 = .ok (.goto 4, 3) := by decide +kernel
theorem dX8_save_18 : decode cX8_save 18 = .ok (.iconst 0, 1) := by decide +kernel
theorem dX8_save_19 : decode cX8_save 19 = .ok (.istore_n 2, 1) := by decide +kernel
theorem dX8_save_20 : decode cX8_save 20 = .ok (.aload_n 0, 1) := by decide +kernel
theorem dX8_save_21 : decode cX8_save 21 = .ok (.getfield 33, 3) := by decide +kernel
theorem dX8_save_24 : decode cX8_save 24 = .ok (.iload_n 1, 1) := by decide +kernel
theorem dX8_save_25 : decode cX8_save 25 = .ok (.aaload, 1) := by decide +kernel
theorem dX8_save_26 : decode cX8_save 26 = .ok (.aload_n 0, 1) := by decide +kernel
theorem dX8_save_27 : decode cX8_save 27 = .ok (.getfield 10, 3) := by decide +kernel
theorem dX8_save_30 : decode cX8_save 30 = .ok (.invokevirtual 101, 3) := by decide +kernel
theorem dX8_save_33 : decode cX8_save 33 = .ok (.aload_n 0, 1) := by decide +kernel
theorem dX8_save_34 : decode cX8_save 34 = .ok (.getfield 37, 3) := by decide +kernel
theorem dX8_save_37 : decode cX8_save 37 = .ok (.iload_n 1, 1) := by decide +kernel
theorem dX8_save_38 : decode cX8_save 38 = .ok (.iconst 1, 1) := by decide +kernel
theorem dX8_save_39 : decode cX8_save 39 = .ok (.bastore, 1) := by decide +kernel
theorem dX8_save_40 : decode cX8_save 40 = .ok (.iload_n 2, 1) := by decide +kernel
theorem dX8_save_41 : decode cX8_save 41 = .ok (.ireturn, 1) := by decide +kernel
set_option maxRecDepth 20000 in
theorem ggX8_restore_X8_checkSlot : GoodIn wsX8_restore wsX8_checkSlot := goodIn_ca (goodIn_r _ [12, 13, 14] rfl (by decide +kernel)) (goodIn_sub (fun _ h => List.mem_cons_of_mem _ (List.mem_append_right _ h)) (by decide +kernel))
set_option maxRecDepth 20000 in
theorem gX8_restore_X8_checkSlot : GoodIn wsX8_restore (wsV RX8 334 RX8 yX8_checkSlot wsX8_checkSlot) := goodIn_app (goodIn_r _ [8, 9, 10, 11] rfl (by decide +kernel)) ggX8_restore_X8_checkSlot
set_option maxRecDepth 20000 in
theorem ggX8_restore_X0_copyFrom : GoodIn wsX8_restore wsX0_copyFrom := goodIn_r _ [19, 20, 21, 22, 23, 24, 25, 26, 27, 28, 29, 30, 31, 47, 48, 49, 50, 51, 52, 53, 54] rfl (by decide +kernel)
set_option maxRecDepth 20000 in
theorem gX8_restore_X0_copyFrom : GoodIn wsX8_restore (wsV RX8 101 RX0 yX0_copyFrom wsX0_copyFrom) := goodIn_app (goodIn_r _ [15, 16, 17, 18] rfl (by decide +kernel)) ggX8_restore_X0_copyFrom
set_option maxRecDepth 20000 in
theorem ggX8_restore_X1_clear : GoodIn wsX8_restore wsX1_clear := goodIn_r _ [36, 37, 55, 56, 57] rfl (by decide +kernel)
set_option maxRecDepth 20000 in
theorem gX8_restore_X1_clear : GoodIn wsX8_restore (wsV RX8 105 RX1 yX1_clear wsX1_clear) := goodIn_app (goodIn_r _ [32, 33, 34, 35] rfl (by decide +kernel)) ggX8_restore_X1_clear
theorem dX8_restore_0 : decode cX8_restore 0 = .ok (.aload_n 0, 1) := by decide +kernel
theorem dX8_restore_1 : decode cX8_restore 1 = .ok (.iload_n 1, 1) := by decide +kernel
theorem dX8_restore_2 : decode cX8_restore 2 = .ok (.invokevirtual 334, 3) := by decide +kernel
theorem dX8_restore_5 : decode cX8_restore 5 = .ok (.aload_n 0, 1) := by decide +kernel
theorem dX8_restore_6 : decode cX8_restore 6 = .ok (.getfield 37, 3) := by decide +kernel
theorem dX8_restore_9 : decode cX8_restore 9 = .ok (.iload_n 1, 1) := by decide +kernel
theorem dX8_restore_10 : decode cX8_restore 10 = .ok (.baload, 1) := by decide +kernel
theorem dX8_restore_11 : decode cX8_restore 11 = .ok (.ifCond .ne 14, 3) := by decide +kernel
theorem dX8_restore_14 : decode cX8_restore 14 = .ok (.new 289, 3) := by decide +kernel
theorem dX8_restore_17 : decode cX8_restore 17 = .ok (.dup, 1) := by decide +kernel
theorem dX8_restore_18 : decode cX8_restore 18 = .ok (.ldc_w 337, 3) := by decide +kernel
theorem dX8_restore_21 : decode cX8_restore 21 = .ok (.invokespecial 293, 3) := by decide +kernel
theorem dX8_restore_24 : decode cX8_restore 24 = .ok (.athrow, 1) := by decide +kernel
theorem dX8_restore_25 : decode cX8_restore 25 = .ok (.aload_n 0, 1) := by decide +kernel
theorem dX8_restore_26 : decode cX8_restore 26 = .ok (.getfield 10, 3) := by decide +kernel
theorem dX8_restore_29 : decode cX8_restore 29 = .ok (.aload_n 0, 1) := by decide +kernel
theorem dX8_restore_30 : decode cX8_restore 30 = .ok (.getfield 33, 3) := by decide +kernel
theorem dX8_restore_33 : decode cX8_restore 33 = .ok (.iload_n 1, 1) := by decide +kernel
theorem dX8_restore_34 : decode cX8_restore 34 = .ok (.aaload, 1) := by decide +kernel
theorem dX8_restore_35 : decode cX8_restore 35 = .ok (.invokevirtual 101, 3) := by decide +kernel
theorem dX8_restore_38 : decode cX8_restore 38 = .ok (.aload_n 0, 1) := by decide +kernel
theorem dX8_restore_39 : decode cX8_restore 39 = .ok (.getfield 29, 3) := by decide +kernel
theorem dX8_restore_42 : decode cX8_restore 42 = .ok (.invokevirtual 105, 3) := by decide +kernel
theorem dX8_restore_45 : decode cX8_restore 45 = .ok (.aload_n 0, 1) := by decide +kernel
theorem dX8_restore_46 : decode cX8_restore 46 = .ok (.getfield 10, 3) := by decide +kernel
theorem dX8_restore_49 : decode cX8_restore 49 = .ok (.getfield 108, 3) := by decide +kernel
theorem dX8_restore_52 : decode cX8_restore 52 = .ok (.ireturn, 1) := by decide +kernel
set_option maxRecDepth 20000 in
theorem ggX8_writeClause_X8_checkClause : GoodIn wsX8_writeClause wsX8_checkClause := goodIn_ca (goodIn_r _ [10, 11, 12, 2, 13, 14, 15, 16, 17, 18, 30, 31, 32, 33, 34, 35, 36, 37, 38, 39, 40, 41, 42, 43, 44, 45, 46] rfl (by decide +kernel)) (goodIn_sub (fun _ h => List.mem_cons_of_mem _ (List.mem_append_right _ h)) (by decide +kernel))
set_option maxRecDepth 20000 in
theorem gX8_writeClause_X8_checkClause : GoodIn wsX8_writeClause (wsV RX8 125 RX8 yX8_checkClause wsX8_checkClause) := goodIn_app (goodIn_r _ [6, 7, 8, 9] rfl (by decide +kernel)) ggX8_writeClause_X8_checkClause
set_option maxRecDepth 20000 in
theorem ggX8_writeClause_X3_write : GoodIn wsX8_writeClause wsX3_write := goodIn_r _ [23, 24, 25, 26, 27, 22, 28, 29, 47, 48] rfl (by decide +kernel)
set_option maxRecDepth 20000 in
theorem gX8_writeClause_X3_write : GoodIn wsX8_writeClause (wsV RX8 339 RX3 yX3_write wsX3_write) := goodIn_app (goodIn_r _ [19, 20, 21, 22] rfl (by decide +kernel)) ggX8_writeClause_X3_write
theorem dX8_writeClause_0 : decode cX8_writeClause 0 = .ok (.aload_n 0, 1) := by decide +kernel
theorem dX8_writeClause_1 : decode cX8_writeClause 1 = .ok (.iload_n 1, 1) := by decide +kernel
theorem dX8_writeClause_2 : decode cX8_writeClause 2 = .ok (.invokevirtual 125, 3) := by decide +kernel
theorem dX8_writeClause_5 : decode cX8_writeClause 5 = .ok (.aload_n 0, 1) := by decide +kernel
theorem dX8_writeClause_6 : decode cX8_writeClause 6 = .ok (.getfield 58, 3) := by decide +kernel
theorem dX8_writeClause_9 : decode cX8_writeClause 9 = .ok (.aload_n 0, 1) := by decide +kernel
theorem dX8_writeClause_10 : decode cX8_writeClause 10 = .ok (.getfield 10, 3) := by decide +kernel
theorem dX8_writeClause_13 : decode cX8_writeClause 13 = .ok (.getfield 128, 3) := by decide +kernel
theorem dX8_writeClause_16 : decode cX8_writeClause 16 = .ok (.iload_n 1, 1) := by decide +kernel
theorem dX8_writeClause_17 : decode cX8_writeClause 17 = .ok (.iaload, 1) := by decide +kernel
theorem dX8_writeClause_18 : decode cX8_writeClause 18 = .ok (.aload_n 0, 1) := by decide +kernel
theorem dX8_writeClause_19 : decode cX8_writeClause 19 = .ok (.getfield 10, 3) := by decide +kernel
theorem dX8_writeClause_22 : decode cX8_writeClause 22 = .ok (.getfield 132, 3) := by decide +kernel
theorem dX8_writeClause_25 : decode cX8_writeClause 25 = .ok (.iload_n 1, 1) := by decide +kernel
theorem dX8_writeClause_26 : decode cX8_writeClause 26 = .ok (.iaload, 1) := by decide +kernel
theorem dX8_writeClause_27 : decode cX8_writeClause 27 = .ok (.invokevirtual 339, 3) := by decide +kernel
theorem dX8_writeClause_30 : decode cX8_writeClause 30 = .ok (.aload_n 0, 1) := by decide +kernel
theorem dX8_writeClause_31 : decode cX8_writeClause 31 = .ok (.getfield 58, 3) := by decide +kernel
theorem dX8_writeClause_34 : decode cX8_writeClause 34 = .ok (.getfield 342, 3) := by decide +kernel
theorem dX8_writeClause_37 : decode cX8_writeClause 37 = .ok (.ireturn, 1) := by decide +kernel
theorem dX8_outputByte_0 : decode cX8_outputByte 0 = .ok (.iload_n 1, 1) := by decide +kernel
theorem dX8_outputByte_1 : decode cX8_outputByte 1 = .ok (.ifCond .lt 14, 3) := by decide +kernel
theorem dX8_outputByte_4 : decode cX8_outputByte 4 = .ok (.iload_n 1, 1) := by decide +kernel
theorem dX8_outputByte_5 : decode cX8_outputByte 5 = .ok (.aload_n 0, 1) := by decide +kernel
theorem dX8_outputByte_6 : decode cX8_outputByte 6 = .ok (.getfield 58, 3) := by decide +kernel
theorem dX8_outputByte_9 : decode cX8_outputByte 9 = .ok (.getfield 342, 3) := by decide +kernel
theorem dX8_outputByte_12 : decode cX8_outputByte 12 = .ok (.if_icmp .lt 5, 3) := by decide +kernel
theorem dX8_outputByte_15 : decode cX8_outputByte 15 = .ok (.iconst (-1), 1) := by decide +kernel
theorem dX8_outputByte_16 : decode cX8_outputByte 16 = .ok (.ireturn, 1) := by decide +kernel
theorem dX8_outputByte_17 : decode cX8_outputByte 17 = .ok (.aload_n 0, 1) := by decide +kernel
theorem dX8_outputByte_18 : decode cX8_outputByte 18 = .ok (.getfield 58, 3) := by decide +kernel
theorem dX8_outputByte_21 : decode cX8_outputByte 21 = .ok (.getfield 343, 3) := by decide +kernel
theorem dX8_outputByte_24 : decode cX8_outputByte 24 = .ok (.iload_n 1, 1) := by decide +kernel
theorem dX8_outputByte_25 : decode cX8_outputByte 25 = .ok (.baload, 1) := by decide +kernel
theorem dX8_outputByte_26 : decode cX8_outputByte 26 = .ok (.ireturn, 1) := by decide +kernel
set_option maxRecDepth 20000 in
theorem ggX8_checkClause_X0_hasClause : GoodIn wsX8_checkClause wsX0_hasClause := goodIn_r _ [8, 9, 19, 20, 21, 22, 23, 24, 25, 26] rfl (by decide +kernel)
set_option maxRecDepth 20000 in
theorem gX8_checkClause_X0_hasClause : GoodIn wsX8_checkClause (wsV RX8 347 RX0 yX0_hasClause wsX0_hasClause) := goodIn_app (goodIn_r _ [4, 5, 6, 7] rfl (by decide +kernel)) ggX8_checkClause_X0_hasClause
theorem dX8_checkClause_0 : decode cX8_checkClause 0 = .ok (.aload_n 0, 1) := by decide +kernel
theorem dX8_checkClause_1 : decode cX8_checkClause 1 = .ok (.getfield 10, 3) := by decide +kernel
theorem dX8_checkClause_4 : decode cX8_checkClause 4 = .ok (.iload_n 1, 1) := by decide +kernel
theorem dX8_checkClause_5 : decode cX8_checkClause 5 = .ok (.invokevirtual 347, 3) := by decide +kernel
theorem dX8_checkClause_8 : decode cX8_checkClause 8 = .ok (.ifCond .ne 14, 3) := by decide +kernel
theorem dX8_checkClause_11 : decode cX8_checkClause 11 = .ok (.new 350, 3) := by decide +kernel
theorem dX8_checkClause_14 : decode cX8_checkClause 14 = .ok (.dup, 1) := by decide +kernel
theorem dX8_checkClause_15 : decode cX8_checkClause 15 = .ok (.ldc_w 352, 3) := by decide +kernel
theorem dX8_checkClause_18 : decode cX8_checkClause 18 = .ok (.invokespecial 354, 3) := by decide +kernel
theorem dX8_checkClause_21 : decode cX8_checkClause 21 = .ok (.athrow, 1) := by decide +kernel
theorem dX8_checkClause_22 : decode cX8_checkClause 22 = .ok (.return_, 1) := by decide +kernel
theorem dX8_checkVariable_0 : decode cX8_checkVariable 0 = .ok (.iload_n 1, 1) := by decide +kernel
theorem dX8_checkVariable_1 : decode cX8_checkVariable 1 = .ok (.ifCond .lt 14, 3) := by decide +kernel
theorem dX8_checkVariable_4 : decode cX8_checkVariable 4 = .ok (.iload_n 1, 1) := by decide +kernel
theorem dX8_checkVariable_5 : decode cX8_checkVariable 5 = .ok (.aload_n 0, 1) := by decide +kernel
theorem dX8_checkVariable_6 : decode cX8_checkVariable 6 = .ok (.getfield 10, 3) := by decide +kernel
theorem dX8_checkVariable_9 : decode cX8_checkVariable 9 = .ok (.getfield 122, 3) := by decide +kernel
theorem dX8_checkVariable_12 : decode cX8_checkVariable 12 = .ok (.if_icmp .lt 14, 3) := by decide +kernel
theorem dX8_checkVariable_15 : decode cX8_checkVariable 15 = .ok (.new 350, 3) := by decide +kernel
theorem dX8_checkVariable_18 : decode cX8_checkVariable 18 = .ok (.dup, 1) := by decide +kernel
theorem dX8_checkVariable_19 : decode cX8_checkVariable 19 = .ok (.ldc_w 355, 3) := by decide +kernel
theorem dX8_checkVariable_22 : decode cX8_checkVariable 22 = .ok (.invokespecial 354, 3) := by decide +kernel
theorem dX8_checkVariable_25 : decode cX8_checkVariable 25 = .ok (.athrow, 1) := by decide +kernel
theorem dX8_checkVariable_26 : decode cX8_checkVariable 26 = .ok (.return_, 1) := by decide +kernel
theorem dX8_checkSlot_0 : decode cX8_checkSlot 0 = .ok (.iload_n 1, 1) := by decide +kernel
theorem dX8_checkSlot_1 : decode cX8_checkSlot 1 = .ok (.ifCond .lt 8, 3) := by decide +kernel
theorem dX8_checkSlot_4 : decode cX8_checkSlot 4 = .ok (.iload_n 1, 1) := by decide +kernel
theorem dX8_checkSlot_5 : decode cX8_checkSlot 5 = .ok (.iconst 2, 1) := by decide +kernel
theorem dX8_checkSlot_6 : decode cX8_checkSlot 6 = .ok (.if_icmp .lt 14, 3) := by decide +kernel
theorem dX8_checkSlot_9 : decode cX8_checkSlot 9 = .ok (.new 350, 3) := by decide +kernel
theorem dX8_checkSlot_12 : decode cX8_checkSlot 12 = .ok (.dup, 1) := by decide +kernel
theorem dX8_checkSlot_13 : decode cX8_checkSlot 13 = .ok (.ldc_w 357, 3) := by decide +kernel
theorem dX8_checkSlot_16 : decode cX8_checkSlot 16 = .ok (.invokespecial 354, 3) := by decide +kernel
theorem dX8_checkSlot_19 : decode cX8_checkSlot 19 = .ok (.athrow, 1) := by decide +kernel
theorem dX8_checkSlot_20 : decode cX8_checkSlot 20 = .ok (.return_, 1) := by decide +kernel
set_option maxRecDepth 20000 in
theorem ggX8_checkMask_X0_isMask : GoodIn wsX8_checkMask wsX0_isMask := goodIn_r _ [8, 9, 10, 11, 7, 12, 13, 23, 24, 25, 26, 27, 28, 29, 30] rfl (by decide +kernel)
set_option maxRecDepth 20000 in
theorem gX8_checkMask_X0_isMask : GoodIn wsX8_checkMask (wsV RX8 359 RX0 yX0_isMask wsX0_isMask) := goodIn_app (goodIn_r _ [4, 5, 6, 7] rfl (by decide +kernel)) ggX8_checkMask_X0_isMask
theorem dX8_checkMask_0 : decode cX8_checkMask 0 = .ok (.aload_n 0, 1) := by decide +kernel
theorem dX8_checkMask_1 : decode cX8_checkMask 1 = .ok (.getfield 10, 3) := by decide +kernel
theorem dX8_checkMask_4 : decode cX8_checkMask 4 = .ok (.iload_n 1, 1) := by decide +kernel
theorem dX8_checkMask_5 : decode cX8_checkMask 5 = .ok (.invokevirtual 359, 3) := by decide +kernel
theorem dX8_checkMask_8 : decode cX8_checkMask 8 = .ok (.ifCond .ne 14, 3) := by decide +kernel
theorem dX8_checkMask_11 : decode cX8_checkMask 11 = .ok (.new 91, 3) := by decide +kernel
theorem dX8_checkMask_14 : decode cX8_checkMask 14 = .ok (.dup, 1) := by decide +kernel
theorem dX8_checkMask_15 : decode cX8_checkMask 15 = .ok (.ldc_w 362, 3) := by decide +kernel
theorem dX8_checkMask_18 : decode cX8_checkMask 18 = .ok (.invokespecial 95, 3) := by decide +kernel
theorem dX8_checkMask_21 : decode cX8_checkMask 21 = .ok (.athrow, 1) := by decide +kernel
theorem dX8_checkMask_22 : decode cX8_checkMask 22 = .ok (.return_, 1) := by decide +kernel
set_option maxRecDepth 20000 in
theorem ggX8_checkLiterals_X8_checkMask : GoodIn wsX8_checkLiterals wsX8_checkMask := goodIn_ca (goodIn_r _ [7, 1, 2, 8, 9, 10, 11, 12, 13, 14, 15, 16, 17, 18, 19, 20, 21, 22, 23, 24, 25, 26, 27, 28, 29, 30, 31, 32, 33, 34, 35] rfl (by decide +kernel)) (goodIn_sub (fun _ h => List.mem_cons_of_mem _ (List.mem_append_right _ h)) (by decide +kernel))
set_option maxRecDepth 20000 in
theorem gX8_checkLiterals_X8_checkMask : GoodIn wsX8_checkLiterals (wsV RX8 251 RX8 yX8_checkMask wsX8_checkMask) := goodIn_app (goodIn_r _ [3, 4, 5, 6] rfl (by decide +kernel)) ggX8_checkLiterals_X8_checkMask
theorem dX8_checkLiterals_0 : decode cX8_checkLiterals 0 = .ok (.aload_n 0, 1) := by decide +kernel
theorem dX8_checkLiterals_1 : decode cX8_checkLiterals 1 = .ok (.iload_n 1, 1) := by decide +kernel
theorem dX8_checkLiterals_2 : decode cX8_checkLiterals 2 = .ok (.invokevirtual 251, 3) := by decide +kernel
theorem dX8_checkLiterals_5 : decode cX8_checkLiterals 5 = .ok (.aload_n 0, 1) := by decide +kernel
theorem dX8_checkLiterals_6 : decode cX8_checkLiterals 6 = .ok (.iload_n 2, 1) := by decide +kernel
theorem dX8_checkLiterals_7 : decode cX8_checkLiterals 7 = .ok (.invokevirtual 251, 3) := by decide +kernel
theorem dX8_checkLiterals_10 : decode cX8_checkLiterals 10 = .ok (.iload_n 1, 1) := by decide +kernel
theorem dX8_checkLiterals_11 : decode cX8_checkLiterals 11 = .ok (.iload_n 2, 1) := by decide +kernel
theorem dX8_checkLiterals_12 : decode cX8_checkLiterals 12 = .ok (.iand, 1) := by decide +kernel
theorem dX8_checkLiterals_13 : decode cX8_checkLiterals 13 = .ok (.ifCond .eq 14, 3) := by decide +kernel
theorem dX8_checkLiterals_16 : decode cX8_checkLiterals 16 = .ok (.new 91, 3) := by decide +kernel
theorem dX8_checkLiterals_19 : decode cX8_checkLiterals 19 = .ok (.dup, 1) := by decide +kernel
theorem dX8_checkLiterals_20 : decode cX8_checkLiterals 20 = .ok (.ldc_w 364, 3) := by decide +kernel
theorem dX8_checkLiterals_23 : decode cX8_checkLiterals 23 = .ok (.invokespecial 95, 3) := by decide +kernel
theorem dX8_checkLiterals_26 : decode cX8_checkLiterals 26 = .ok (.athrow, 1) := by decide +kernel
theorem dX8_checkLiterals_27 : decode cX8_checkLiterals 27 = .ok (.return_, 1) := by decide +kernel
