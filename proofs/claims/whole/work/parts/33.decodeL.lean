set_option maxRecDepth 20000 in
theorem ggL_load_X8_load : GoodIn wsL_load wsX8_load := goodIn_ca (goodIn_r _ [6, 7, 8, 9, 10, 11, 12, 13, 14, 15, 16, 17, 18, 19, 20, 21, 22, 23, 24, 25, 26, 27, 28, 29, 30, 31, 32, 33, 34, 35, 36, 37, 38, 39, 40, 41, 42, 43, 44, 45, 46, 47, 48, 49, 50, 51, 52, 53, 54, 55, 56, 57, 58, 59, 60, 61, 62, 63, 64, 65, 66, 67, 68, 69, 70, 71, 72, 73, 74, 75, 76, 77, 78, 79, 80, 81, 82, 83, 84, 85, 86, 87, 88, 89, 90, 91, 92, 93, 94, 95, 96, 97, 98, 99, 100, 101, 102, 103, 104, 105, 106, 107, 108, 109, 110, 111, 112, 113, 114, 115, 116, 117, 118, 119, 120, 121, 122, 123, 124, 125, 126, 127, 128, 129, 130, 131, 132, 133, 134, 135, 136, 137, 138, 139, 140, 141, 142, 143, 144, 145, 146, 147, 148, 149, 150, 151, 152, 153, 154, 155, 156, 157, 158, 159, 160, 161, 162, 163, 164, 165, 166, 167, 168, 169, 170, 171, 172, 173, 174, 175, 176, 177, 178, 179, 180, 181, 182, 183, 184, 185, 186, 187, 188, 189, 190, 191, 192, 193, 194, 195, 196, 197, 198, 199, 200, 201, 202, 203, 204, 205, 206, 207, 208, 209, 210, 211, 212, 213, 214, 215, 216, 217, 218, 219, 220, 221, 222, 223, 224, 225, 226, 227, 228, 229, 230, 231, 232, 233, 234, 235, 236, 237, 238, 239, 240, 241, 242, 243, 244, 245, 246, 247, 248, 249, 250, 251, 252, 253, 254, 255, 256, 257, 258, 259, 260, 261, 262, 263, 264, 265, 266, 267, 268, 269, 270, 271, 272, 273, 274, 275, 276, 277, 278, 279, 280, 281, 282, 283, 284, 285, 286, 287, 288, 289, 290, 291, 292, 293, 294, 295, 296, 297, 298, 299, 300, 301, 302, 303, 304, 305, 306, 307, 308, 309, 310, 311, 312, 313, 314, 315, 316, 317, 318, 319, 320, 321, 322, 323, 324, 325, 326, 327, 328, 329, 330, 331, 332, 333, 334, 335, 336, 337, 338, 339, 340, 341, 342, 343, 344, 345, 346, 347, 348, 349, 350, 351, 352, 353, 354, 355, 356, 357, 358, 359, 360, 361, 362, 363, 364, 365, 366, 367, 368, 369, 370, 371, 372, 373, 374, 375, 376, 377, 378, 379, 380, 381, 382, 383, 384, 385, 386, 387, 388, 389, 390, 391, 392, 393, 394, 395, 396, 397, 398, 399, 400, 401, 402, 403, 404, 405, 406, 407, 408, 409, 410, 411, 412, 413, 414, 415, 416, 417, 418, 419] rfl (by decide +kernel)) (goodIn_sub (fun _ h => List.mem_cons_of_mem _ (List.mem_append_right _ h)) (by decide +kernel))
set_option maxRecDepth 20000 in
theorem gL_load_X8_load : GoodIn wsL_load (wsV RL 7 RX8 yX8_load wsX8_load) := goodIn_app (goodIn_r _ [2, 3, 4, 5] rfl (by decide +kernel)) ggL_load_X8_load
theorem dL_load_0 : decode cL_load 0 = .ok (.aload_n 1, 1) := by decide +kernel
theorem dL_load_1 : decode cL_load 1 = .ok (.iconst 0, 1) := by decide +kernel
theorem dL_load_2 : decode cL_load 2 = .ok (.aload_n 0, 1) := by decide +kernel
theorem dL_load_3 : decode cL_load 3 = .ok (.invokevirtual 7, 3) := by decide +kernel
theorem dL_load_6 : decode cL_load 6 = .ok (.i2l, 1) := by decide +kernel
theorem dL_load_7 : decode cL_load 7 = .ok (.lastore, 1) := by decide +kernel
theorem dL_load_8 : decode cL_load 8 = .ok (.goto 6, 3) := by decide +kernel
theorem dL_load_11 : decode cL_load 11 = .ok (.astore_n 2, 1) := by decide +kernel
theorem dL_load_12 : decode cL_load 12 = .ok (.iconst 1, 1) := by decide +kernel
theorem dL_load_13 : decode cL_load 13 = .ok (.ireturn, 1) := by decide +kernel
theorem dL_load_14 : decode cL_load 14 = .ok (.iconst 0, 1) := by decide +kernel
theorem dL_load_15 : decode cL_load 15 = .ok (.ireturn, 1) := by decide +kernel
set_option maxRecDepth 20000 in
theorem ggL_play_X8_play : GoodIn wsL_play wsX8_play := goodIn_ca (goodIn_r _ [6, 7, 8, 9, 10, 11, 12, 13, 14, 15, 16, 17, 18, 19, 20, 21, 22, 23, 24, 25, 26, 27, 28, 29, 30, 31, 32, 33, 34, 35, 36, 37, 38, 39, 40, 41, 42, 43, 44, 45, 46, 47, 48, 49, 50, 51, 52, 53, 54, 55, 56, 57, 58, 59, 60, 61, 62, 63, 64, 65, 66, 67, 68, 69, 70, 71, 72, 73, 74, 75, 76, 77, 78, 79, 80, 81, 82, 83, 84, 85, 86, 87, 88, 89, 90, 91, 92, 93, 94, 95, 96, 97, 98, 99, 100, 101, 102, 103, 104, 105, 106, 107, 108, 109, 110, 111, 112, 113, 114, 115, 116, 117, 118, 119, 120, 121, 122, 123, 124, 125, 126, 127, 128, 129, 130, 131, 132, 133, 134, 135, 136, 137, 138, 139, 140, 141, 142, 143, 144, 145, 146, 147, 148, 149, 150, 151, 152, 153, 154, 155, 156, 157, 158, 159, 160, 161, 162, 163, 164, 165, 166, 167, 168, 169, 170, 171, 172, 173, 174, 175, 176, 177, 178, 179, 180, 181, 182, 183, 184, 185, 186, 187, 188, 189, 190, 191, 192, 193, 194, 195, 196, 197, 198, 199, 200, 201, 202, 203, 204, 205, 206, 207, 208, 209, 210, 211, 212, 213, 214, 215, 216, 217, 218, 219, 220, 221, 222, 223, 224, 225, 226, 227, 228, 229, 230, 231, 232, 233, 234, 235, 236, 237, 238, 239, 240, 241, 242, 243, 244, 245, 246, 247, 248, 249, 250, 251, 252, 253, 254, 255, 256, 257, 258, 259, 260, 261, 262, 263, 264, 265, 266, 267, 268, 269, 270, 271, 272, 273, 274, 275, 276, 277, 278, 279, 280, 281, 282, 283, 284, 285, 286, 287, 288, 289, 290, 291, 292, 293, 294, 295, 296, 297, 298, 299, 300, 301, 302, 303, 304, 305, 306, 307, 308, 309, 310, 311, 312, 313, 314, 315, 316, 317, 318, 319, 320, 321, 322, 323, 324, 325, 326, 327, 328, 329, 330, 331, 332, 333, 334, 335, 336, 337, 338, 339, 340, 341, 342, 343, 344, 345, 346, 347, 348, 349, 350, 351, 352, 353, 354, 355, 356, 357, 358, 359, 360, 361, 362, 363, 364, 365, 366, 367, 368, 369, 370, 371, 372, 373, 374, 375, 376, 377, 378, 379, 380, 381, 382, 383, 384, 385, 386, 387, 388, 389, 390, 391, 392, 393, 394, 395, 396, 397, 398, 399, 400, 401, 402, 403, 404, 405, 406, 407, 408, 409, 410, 411, 412, 413, 414, 415, 416] rfl (by decide +kernel)) (goodIn_sub (fun _ h => List.mem_cons_of_mem _ (List.mem_append_right _ h)) (by decide +kernel))
set_option maxRecDepth 20000 in
theorem gL_play_X8_play : GoodIn wsL_play (wsV RL 15 RX8 yX8_play wsX8_play) := goodIn_app (goodIn_r _ [2, 3, 4, 5] rfl (by decide +kernel)) ggL_play_X8_play
theorem dL_play_0 : decode cL_play 0 = .ok (.aload_n 1, 1) := by decide +kernel
theorem dL_play_1 : decode cL_play 1 = .ok (.iconst 0, 1) := by decide +kernel
theorem dL_play_2 : decode cL_play 2 = .ok (.aload_n 0, 1) := by decide +kernel
theorem dL_play_3 : decode cL_play 3 = .ok (.invokevirtual 15, 3) := by decide +kernel
theorem dL_play_6 : decode cL_play 6 = .ok (.i2l, 1) := by decide +kernel
theorem dL_play_7 : decode cL_play 7 = .ok (.lastore, 1) := by decide +kernel
theorem dL_play_8 : decode cL_play 8 = .ok (.goto 6, 3) := by decide +kernel
theorem dL_play_11 : decode cL_play 11 = .ok (.astore_n 2, 1) := by decide +kernel
theorem dL_play_12 : decode cL_play 12 = .ok (.iconst 1, 1) := by decide +kernel
theorem dL_play_13 : decode cL_play 13 = .ok (.ireturn, 1) := by decide +kernel
theorem dL_play_14 : decode cL_play 14 = .ok (.iconst 0, 1) := by decide +kernel
theorem dL_play_15 : decode cL_play 15 = .ok (.ireturn, 1) := by decide +kernel
set_option maxRecDepth 20000 in
theorem ggL_positiveOf_X8_positiveOf : GoodIn wsL_positiveOf wsX8_positiveOf := goodIn_ca (goodIn_r _ [6, 7, 8, 9, 10, 11, 5, 12, 13, 14, 15, 16, 17, 18, 19, 20, 21, 22, 23, 24, 25, 26, 27, 28, 29, 30, 31, 32, 33, 34, 35, 36, 37] rfl (by decide +kernel)) (goodIn_sub (fun _ h => List.mem_cons_of_mem _ (List.mem_append_right _ h)) (by decide +kernel))
set_option maxRecDepth 20000 in
theorem gL_positiveOf_X8_positiveOf : GoodIn wsL_positiveOf (wsV RL 18 RX8 yX8_positiveOf wsX8_positiveOf) := goodIn_app (goodIn_r _ [2, 3, 4, 5] rfl (by decide +kernel)) ggL_positiveOf_X8_positiveOf
theorem dL_positiveOf_0 : decode cL_positiveOf 0 = .ok (.aload_n 2, 1) := by decide +kernel
theorem dL_positiveOf_1 : decode cL_positiveOf 1 = .ok (.iconst 0, 1) := by decide +kernel
theorem dL_positiveOf_2 : decode cL_positiveOf 2 = .ok (.aload_n 0, 1) := by decide +kernel
theorem dL_positiveOf_3 : decode cL_positiveOf 3 = .ok (.iload_n 1, 1) := by decide +kernel
theorem dL_positiveOf_4 : decode cL_positiveOf 4 = .ok (.invokevirtual 18, 3) := by decide +kernel
theorem dL_positiveOf_7 : decode cL_positiveOf 7 = .ok (.i2l, 1) := by decide +kernel
theorem dL_positiveOf_8 : decode cL_positiveOf 8 = .ok (.lastore, 1) := by decide +kernel
theorem dL_positiveOf_9 : decode cL_positiveOf 9 = .ok (.goto 6, 3) := by decide +kernel
theorem dL_positiveOf_12 : decode cL_positiveOf 12 = .ok (.astore_n 3, 1) := by decide +kernel
theorem dL_positiveOf_13 : decode cL_positiveOf 13 = .ok (.iconst 1, 1) := by decide +kernel
theorem dL_positiveOf_14 : decode cL_positiveOf 14 = .ok (.ireturn, 1) := by decide +kernel
theorem dL_positiveOf_15 : decode cL_positiveOf 15 = .ok (.iconst 0, 1) := by decide +kernel
theorem dL_positiveOf_16 : decode cL_positiveOf 16 = .ok (.ireturn, 1) := by decide +kernel
set_option maxRecDepth 20000 in
theorem ggL_negativeOf_X8_negativeOf : GoodIn wsL_negativeOf wsX8_negativeOf := goodIn_ca (goodIn_r _ [6, 7, 8, 9, 10, 11, 5, 12, 13, 14, 15, 16, 17, 18, 19, 20, 21, 22, 23, 24, 25, 26, 27, 28, 29, 30, 31, 32, 33, 34, 35, 36, 37] rfl (by decide +kernel)) (goodIn_sub (fun _ h => List.mem_cons_of_mem _ (List.mem_append_right _ h)) (by decide +kernel))
set_option maxRecDepth 20000 in
theorem gL_negativeOf_X8_negativeOf : GoodIn wsL_negativeOf (wsV RL 24 RX8 yX8_negativeOf wsX8_negativeOf) := goodIn_app (goodIn_r _ [2, 3, 4, 5] rfl (by decide +kernel)) ggL_negativeOf_X8_negativeOf
theorem dL_negativeOf_0 : decode cL_negativeOf 0 = .ok (.aload_n 2, 1) := by decide +kernel
theorem dL_negativeOf_1 : decode cL_negativeOf 1 = .ok (.iconst 0, 1) := by decide +kernel
theorem dL_negativeOf_2 : decode cL_negativeOf 2 = .ok (.aload_n 0, 1) := by decide +kernel
theorem dL_negativeOf_3 : decode cL_negativeOf 3 = .ok (.iload_n 1, 1) := by decide +kernel
theorem dL_negativeOf_4 : decode cL_negativeOf 4 = .ok (.invokevirtual 24, 3) := by decide +kernel
theorem dL_negativeOf_7 : decode cL_negativeOf 7 = .ok (.i2l, 1) := by decide +kernel
theorem dL_negativeOf_8 : decode cL_negativeOf 8 = .ok (.lastore, 1) := by decide +kernel
theorem dL_negativeOf_9 : decode cL_negativeOf 9 = .ok (.goto 6, 3) := by decide +kernel
theorem dL_negativeOf_12 : decode cL_negativeOf 12 = .ok (.astore_n 3, 1) := by decide +kernel
theorem dL_negativeOf_13 : decode cL_negativeOf 13 = .ok (.iconst 1, 1) := by decide +kernel
theorem dL_negativeOf_14 : decode cL_negativeOf 14 = .ok (.ireturn, 1) := by decide +kernel
theorem dL_negativeOf_15 : decode cL_negativeOf 15 = .ok (.iconst 0, 1) := by decide +kernel
theorem dL_negativeOf_16 : decode cL_negativeOf 16 = .ok (.ireturn, 1) := by decide +kernel
set_option maxRecDepth 20000 in
theorem ggL_sizeOf_X8_sizeOf : GoodIn wsL_sizeOf wsX8_sizeOf := goodIn_ca (goodIn_r _ [6, 7, 8, 9, 10, 5, 11, 12, 13, 14, 15, 16, 17, 18, 19, 20, 21, 22, 23, 24, 25, 26, 27, 28, 29, 30, 31, 32, 33, 34, 35, 36, 37, 38, 39, 40, 41, 42, 43, 44, 45, 46, 47, 48, 49] rfl (by decide +kernel)) (goodIn_sub (fun _ h => List.mem_cons_of_mem _ (List.mem_append_right _ h)) (by decide +kernel))
set_option maxRecDepth 20000 in
theorem gL_sizeOf_X8_sizeOf : GoodIn wsL_sizeOf (wsV RL 27 RX8 yX8_sizeOf wsX8_sizeOf) := goodIn_app (goodIn_r _ [2, 3, 4, 5] rfl (by decide +kernel)) ggL_sizeOf_X8_sizeOf
theorem dL_sizeOf_0 : decode cL_sizeOf 0 = .ok (.aload_n 2, 1) := by decide +kernel
theorem dL_sizeOf_1 : decode cL_sizeOf 1 = .ok (.iconst 0, 1) := by decide +kernel
theorem dL_sizeOf_2 : decode cL_sizeOf 2 = .ok (.aload_n 0, 1) := by decide +kernel
theorem dL_sizeOf_3 : decode cL_sizeOf 3 = .ok (.iload_n 1, 1) := by decide +kernel
theorem dL_sizeOf_4 : decode cL_sizeOf 4 = .ok (.invokevirtual 27, 3) := by decide +kernel
theorem dL_sizeOf_7 : decode cL_sizeOf 7 = .ok (.i2l, 1) := by decide +kernel
theorem dL_sizeOf_8 : decode cL_sizeOf 8 = .ok (.lastore, 1) := by decide +kernel
theorem dL_sizeOf_9 : decode cL_sizeOf 9 = .ok (.goto 6, 3) := by decide +kernel
theorem dL_sizeOf_12 : decode cL_sizeOf 12 = .ok (.astore_n 3, 1) := by decide +kernel
theorem dL_sizeOf_13 : decode cL_sizeOf 13 = .ok (.iconst 1, 1) := by decide +kernel
theorem dL_sizeOf_14 : decode cL_sizeOf 14 = .ok (.ireturn, 1) := by decide +kernel
theorem dL_sizeOf_15 : decode cL_sizeOf 15 = .ok (.iconst 0, 1) := by decide +kernel
theorem dL_sizeOf_16 : decode cL_sizeOf 16 = .ok (.ireturn, 1) := by decide +kernel
set_option maxRecDepth 20000 in
theorem ggL_find_X8_find : GoodIn wsL_find wsX8_find := goodIn_ca (goodIn_r _ [6, 7, 8, 9, 10, 5, 11, 12, 13, 14, 15, 16, 17, 18, 19, 20, 21, 22, 23, 24, 25, 26, 27, 28, 29, 30, 31, 32, 33, 34, 35, 36, 37, 38, 39, 40, 41, 42, 43, 44, 45, 46, 47, 48, 49, 50, 51] rfl (by decide +kernel)) (goodIn_sub (fun _ h => List.mem_cons_of_mem _ (List.mem_append_right _ h)) (by decide +kernel))
set_option maxRecDepth 20000 in
theorem gL_find_X8_find : GoodIn wsL_find (wsV RL 30 RX8 yX8_find wsX8_find) := goodIn_app (goodIn_r _ [2, 3, 4, 5] rfl (by decide +kernel)) ggL_find_X8_find
theorem dL_find_0 : decode cL_find 0 = .ok (.aload_n 3, 1) := by decide +kernel
theorem dL_find_1 : decode cL_find 1 = .ok (.iconst 0, 1) := by decide +kernel
theorem dL_find_2 : decode cL_find 2 = .ok (.aload_n 0, 1) := by decide +kernel
theorem dL_find_3 : decode cL_find 3 = .ok (.iload_n 1, 1) := by decide +kernel
theorem dL_find_4 : decode cL_find 4 = .ok (.iload_n 2, 1) := by decide +kernel
theorem dL_find_5 : decode cL_find 5 = .ok (.invokevirtual 30, 3) := by decide +kernel
theorem dL_find_8 : decode cL_find 8 = .ok (.i2l, 1) := by decide +kernel
theorem dL_find_9 : decode cL_find 9 = .ok (.lastore, 1) := by decide +kernel
theorem dL_find_10 : decode cL_find 10 = .ok (.goto 7, 3) := by decide +kernel
theorem dL_find_13 : decode cL_find 13 = .ok (.astore 4, 2) := by decide +kernel
theorem dL_find_15 : decode cL_find 15 = .ok (.iconst 1, 1) := by decide +kernel
theorem dL_find_16 : decode cL_find 16 = .ok (.ireturn, 1) := by decide +kernel
theorem dL_find_17 : decode cL_find 17 = .ok (.iconst 0, 1) := by decide +kernel
theorem dL_find_18 : decode cL_find 18 = .ok (.ireturn, 1) := by decide +kernel
set_option maxRecDepth 20000 in
theorem ggL_isGiven_X8_isGiven : GoodIn wsL_isGiven wsX8_isGiven := goodIn_ca (goodIn_r _ [6, 7, 8, 9, 10, 11, 5, 12, 13, 14, 15, 16, 17, 18, 19, 20, 21, 22, 23, 24, 25, 26, 27, 28, 29, 30, 31, 32, 33, 34, 35, 36, 37] rfl (by decide +kernel)) (goodIn_sub (fun _ h => List.mem_cons_of_mem _ (List.mem_append_right _ h)) (by decide +kernel))
set_option maxRecDepth 20000 in
theorem gL_isGiven_X8_isGiven : GoodIn wsL_isGiven (wsV RL 34 RX8 yX8_isGiven wsX8_isGiven) := goodIn_app (goodIn_r _ [2, 3, 4, 5] rfl (by decide +kernel)) ggL_isGiven_X8_isGiven
theorem dL_isGiven_0 : decode cL_isGiven 0 = .ok (.aload_n 2, 1) := by decide +kernel
theorem dL_isGiven_1 : decode cL_isGiven 1 = .ok (.iconst 0, 1) := by decide +kernel
theorem dL_isGiven_2 : decode cL_isGiven 2 = .ok (.aload_n 0, 1) := by decide +kernel
theorem dL_isGiven_3 : decode cL_isGiven 3 = .ok (.iload_n 1, 1) := by decide +kernel
theorem dL_isGiven_4 : decode cL_isGiven 4 = .ok (.invokevirtual 34, 3) := by decide +kernel
theorem dL_isGiven_7 : decode cL_isGiven 7 = .ok (.ifCond .eq 7, 3) := by decide +kernel
theorem dL_isGiven_10 : decode cL_isGiven 10 = .ok (.lconst 1, 1) := by decide +kernel
theorem dL_isGiven_11 : decode cL_isGiven 11 = .ok (.goto 4, 3) := by decide +kernel
theorem dL_isGiven_14 : decode cL_isGiven 14 = .ok (.lconst 0, 1) := by decide +kernel
theorem dL_isGiven_15 : decode cL_isGiven 15 = .ok (.lastore, 1) := by decide +kernel
theorem dL_isGiven_16 : decode cL_isGiven 16 = .ok (.goto 6, 3) := by decide +kernel
theorem dL_isGiven_19 : decode cL_isGiven 19 = .ok (.astore_n 3, 1) := by decide +kernel
theorem dL_isGiven_20 : decode cL_isGiven 20 = .ok (.iconst 1, 1) := by decide +kernel
theorem dL_isGiven_21 : decode cL_isGiven 21 = .ok (.ireturn, 1) := by decide +kernel
theorem dL_isGiven_22 : decode cL_isGiven 22 = .ok (.iconst 0, 1) := by decide +kernel
theorem dL_isGiven_23 : decode cL_isGiven 23 = .ok (.ireturn, 1) := by decide +kernel
set_option maxRecDepth 20000 in
theorem ggL_positiveParent_X8_positiveParent : GoodIn wsL_positiveParent wsX8_positiveParent := goodIn_ca (goodIn_r _ [6, 7, 8, 9, 10, 11, 5, 12, 13, 14, 15, 16, 17, 18, 19, 20, 21, 22, 23, 24, 25, 26, 27, 28, 29, 30, 31, 32, 33, 34, 35, 36, 37] rfl (by decide +kernel)) (goodIn_sub (fun _ h => List.mem_cons_of_mem _ (List.mem_append_right _ h)) (by decide +kernel))
set_option maxRecDepth 20000 in
theorem gL_positiveParent_X8_positiveParent : GoodIn wsL_positiveParent (wsV RL 38 RX8 yX8_positiveParent wsX8_positiveParent) := goodIn_app (goodIn_r _ [2, 3, 4, 5] rfl (by decide +kernel)) ggL_positiveParent_X8_positiveParent
theorem dL_positiveParent_0 : decode cL_positiveParent 0 = .ok (.aload_n 2, 1) := by decide +kernel
theorem dL_positiveParent_1 : decode cL_positiveParent 1 = .ok (.iconst 0, 1) := by decide +kernel
theorem dL_positiveParent_2 : decode cL_positiveParent 2 = .ok (.aload_n 0, 1) := by decide +kernel
theorem dL_positiveParent_3 : decode cL_positiveParent 3 = .ok (.iload_n 1, 1) := by decide +kernel
theorem dL_positiveParent_4 : decode cL_positiveParent 4 = .ok (.invokevirtual 38, 3) := by decide +kernel
theorem dL_positiveParent_7 : decode cL_positiveParent 7 = .ok (.i2l, 1) := by decide +kernel
theorem dL_positiveParent_8 : decode cL_positiveParent 8 = .ok (.lastore, 1) := by decide +kernel
theorem dL_positiveParent_9 : decode cL_positiveParent 9 = .ok (.goto 6, 3) := by decide +kernel
theorem dL_positiveParent_12 : decode cL_positiveParent 12 = .ok (.astore_n 3, 1) := by decide +kernel
theorem dL_positiveParent_13 : decode cL_positiveParent 13 = .ok (.iconst 1, 1) := by decide +kernel
theorem dL_positiveParent_14 : decode cL_positiveParent 14 = .ok (.ireturn, 1) := by decide +kernel
theorem dL_positiveParent_15 : decode cL_positiveParent 15 = .ok (.iconst 0, 1) := by decide +kernel
theorem dL_positiveParent_16 : decode cL_positiveParent 16 = .ok (.ireturn, 1) := by decide +kernel
set_option maxRecDepth 20000 in
theorem ggL_negativeParent_X8_negativeParent : GoodIn wsL_negativeParent wsX8_negativeParent := goodIn_ca (goodIn_r _ [6, 7, 8, 9, 10, 11, 5, 12, 13, 14, 15, 16, 17, 18, 19, 20, 21, 22, 23, 24, 25, 26, 27, 28, 29, 30, 31, 32, 33, 34, 35, 36, 37] rfl (by decide +kernel)) (goodIn_sub (fun _ h => List.mem_cons_of_mem _ (List.mem_append_right _ h)) (by decide +kernel))
set_option maxRecDepth 20000 in
theorem gL_negativeParent_X8_negativeParent : GoodIn wsL_negativeParent (wsV RL 41 RX8 yX8_negativeParent wsX8_negativeParent) := goodIn_app (goodIn_r _ [2, 3, 4, 5] rfl (by decide +kernel)) ggL_negativeParent_X8_negativeParent
theorem dL_negativeParent_0 : decode cL_negativeParent 0 = .ok (.aload_n 2, 1) := by decide +kernel
theorem dL_negativeParent_1 : decode cL_negativeParent 1 = .ok (.iconst 0, 1) := by decide +kernel
theorem dL_negativeParent_2 : decode cL_negativeParent 2 = .ok (.aload_n 0, 1) := by decide +kernel
theorem dL_negativeParent_3 : decode cL_negativeParent 3 = .ok (.iload_n 1, 1) := by decide +kernel
theorem dL_negativeParent_4 : decode cL_negativeParent 4 = .ok (.invokevirtual 41, 3) := by decide +kernel
theorem dL_negativeParent_7 : decode cL_negativeParent 7 = .ok (.i2l, 1) := by decide +kernel
theorem dL_negativeParent_8 : decode cL_negativeParent 8 = .ok (.lastore, 1) := by decide +kernel
theorem dL_negativeParent_9 : decode cL_negativeParent 9 = .ok (.goto 6, 3) := by decide +kernel
theorem dL_negativeParent_12 : decode cL_negativeParent 12 = .ok (.astore_n 3, 1) := by decide +kernel
theorem dL_negativeParent_13 : decode cL_negativeParent 13 = .ok (.iconst 1, 1) := by decide +kernel
theorem dL_negativeParent_14 : decode cL_negativeParent 14 = .ok (.ireturn, 1) := by decide +kernel
theorem dL_negativeParent_15 : decode cL_negativeParent 15 = .ok (.iconst 0, 1) := by decide +kernel
theorem dL_negativeParent_16 : decode cL_negativeParent 16 = .ok (.ireturn, 1) := by decide +kernel
set_option maxRecDepth 20000 in
theorem ggL_variableOf_X8_variableOf : GoodIn wsL_variableOf wsX8_variableOf := goodIn_ca (goodIn_r _ [6, 7, 8, 9, 10, 11, 5, 12, 13, 14, 15, 16, 17, 18, 19, 20, 21, 22, 23, 24, 25, 26, 27, 28, 29, 30, 31, 32, 33, 34, 35, 36, 37] rfl (by decide +kernel)) (goodIn_sub (fun _ h => List.mem_cons_of_mem _ (List.mem_append_right _ h)) (by decide +kernel))
set_option maxRecDepth 20000 in
theorem gL_variableOf_X8_variableOf : GoodIn wsL_variableOf (wsV RL 44 RX8 yX8_variableOf wsX8_variableOf) := goodIn_app (goodIn_r _ [2, 3, 4, 5] rfl (by decide +kernel)) ggL_variableOf_X8_variableOf
theorem dL_variableOf_0 : decode cL_variableOf 0 = .ok (.aload_n 2, 1) := by decide +kernel
theorem dL_variableOf_1 : decode cL_variableOf 1 = .ok (.iconst 0, 1) := by decide +kernel
theorem dL_variableOf_2 : decode cL_variableOf 2 = .ok (.aload_n 0, 1) := by decide +kernel
theorem dL_variableOf_3 : decode cL_variableOf 3 = .ok (.iload_n 1, 1) := by decide +kernel
theorem dL_variableOf_4 : decode cL_variableOf 4 = .ok (.invokevirtual 44, 3) := by decide +kernel
theorem dL_variableOf_7 : decode cL_variableOf 7 = .ok (.i2l, 1) := by decide +kernel
theorem dL_variableOf_8 : decode cL_variableOf 8 = .ok (.lastore, 1) := by decide +kernel
theorem dL_variableOf_9 : decode cL_variableOf 9 = .ok (.goto 6, 3) := by decide +kernel
theorem dL_variableOf_12 : decode cL_variableOf 12 = .ok (.astore_n 3, 1) := by decide +kernel
theorem dL_variableOf_13 : decode cL_variableOf 13 = .ok (.iconst 1, 1) := by decide +kernel
theorem dL_variableOf_14 : decode cL_variableOf 14 = .ok (.ireturn, 1) := by decide +kernel
theorem dL_variableOf_15 : decode cL_variableOf 15 = .ok (.iconst 0, 1) := by decide +kernel
theorem dL_variableOf_16 : decode cL_variableOf 16 = .ok (.ireturn, 1) := by decide +kernel
set_option maxRecDepth 20000 in
theorem ggL_depthOf_X8_depthOf : GoodIn wsL_depthOf wsX8_depthOf := goodIn_ca (goodIn_r _ [6, 7, 8, 9, 10, 11, 5, 12, 13, 14, 15, 16, 17, 18, 19, 20, 21, 22, 23, 24, 25, 26, 27, 28, 29, 30, 31, 32, 33, 34, 35, 36, 37] rfl (by decide +kernel)) (goodIn_sub (fun _ h => List.mem_cons_of_mem _ (List.mem_append_right _ h)) (by decide +kernel))
set_option maxRecDepth 20000 in
theorem gL_depthOf_X8_depthOf : GoodIn wsL_depthOf (wsV RL 47 RX8 yX8_depthOf wsX8_depthOf) := goodIn_app (goodIn_r _ [2, 3, 4, 5] rfl (by decide +kernel)) ggL_depthOf_X8_depthOf
theorem dL_depthOf_0 : decode cL_depthOf 0 = .ok (.aload_n 2, 1) := by decide +kernel
theorem dL_depthOf_1 : decode cL_depthOf 1 = .ok (.iconst 0, 1) := by decide +kernel
theorem dL_depthOf_2 : decode cL_depthOf 2 = .ok (.aload_n 0, 1) := by decide +kernel
theorem dL_depthOf_3 : decode cL_depthOf 3 = .ok (.iload_n 1, 1) := by decide +kernel
theorem dL_depthOf_4 : decode cL_depthOf 4 = .ok (.invokevirtual 47, 3) := by decide +kernel
theorem dL_depthOf_7 : decode cL_depthOf 7 = .ok (.i2l, 1) := by decide +kernel
theorem dL_depthOf_8 : decode cL_depthOf 8 = .ok (.lastore, 1) := by decide +kernel
theorem dL_depthOf_9 : decode cL_depthOf 9 = .ok (.goto 6, 3) := by decide +kernel
theorem dL_depthOf_12 : decode cL_depthOf 12 = .ok (.astore_n 3, 1) := by decide +kernel
theorem dL_depthOf_13 : decode cL_depthOf 13 = .ok (.iconst 1, 1) := by decide +kernel
theorem dL_depthOf_14 : decode cL_depthOf 14 = .ok (.ireturn, 1) := by decide +kernel
theorem dL_depthOf_15 : decode cL_depthOf 15 = .ok (.iconst 0, 1) := by decide +kernel
theorem dL_depthOf_16 : decode cL_depthOf 16 = .ok (.ireturn, 1) := by decide +kernel
set_option maxRecDepth 20000 in
theorem ggL_derivationSize_X8_derivationSize : GoodIn wsL_derivationSize wsX8_derivationSize := goodIn_ca (goodIn_r _ [6, 7, 8, 9, 10, 5, 11, 12, 13, 14, 15, 16, 17, 18, 19, 20, 21, 22, 23, 24, 25, 26, 27, 28, 29, 30, 31, 32, 33, 34, 35, 36, 37, 38, 39, 40, 41, 42, 43, 44, 45, 46, 47, 48, 49, 50] rfl (by decide +kernel)) (goodIn_sub (fun _ h => List.mem_cons_of_mem _ (List.mem_append_right _ h)) (by decide +kernel))
set_option maxRecDepth 20000 in
theorem gL_derivationSize_X8_derivationSize : GoodIn wsL_derivationSize (wsV RL 50 RX8 yX8_derivationSize wsX8_derivationSize) := goodIn_app (goodIn_r _ [2, 3, 4, 5] rfl (by decide +kernel)) ggL_derivationSize_X8_derivationSize
theorem dL_derivationSize_0 : decode cL_derivationSize 0 = .ok (.aload_n 2, 1) := by decide +kernel
theorem dL_derivationSize_1 : decode cL_derivationSize 1 = .ok (.iconst 0, 1) := by decide +kernel
theorem dL_derivationSize_2 : decode cL_derivationSize 2 = .ok (.aload_n 0, 1) := by decide +kernel
theorem dL_derivationSize_3 : decode cL_derivationSize 3 = .ok (.iload_n 1, 1) := by decide +kernel
theorem dL_derivationSize_4 : decode cL_derivationSize 4 = .ok (.invokevirtual 50, 3) := by decide +kernel
theorem dL_derivationSize_7 : decode cL_derivationSize 7 = .ok (.i2l, 1) := by decide +kernel
theorem dL_derivationSize_8 : decode cL_derivationSize 8 = .ok (.lastore, 1) := by decide +kernel
theorem dL_derivationSize_9 : decode cL_derivationSize 9 = .ok (.goto 6, 3) := by decide +kernel
theorem dL_derivationSize_12 : decode cL_derivationSize 12 = .ok (.astore_n 3, 1) := by decide +kernel
theorem dL_derivationSize_13 : decode cL_derivationSize 13 = .ok (.iconst 1, 1) := by decide +kernel
theorem dL_derivationSize_14 : decode cL_derivationSize 14 = .ok (.ireturn, 1) := by decide +kernel
theorem dL_derivationSize_15 : decode cL_derivationSize 15 = .ok (.iconst 0, 1) := by decide +kernel
theorem dL_derivationSize_16 : decode cL_derivationSize 16 = .ok (.ireturn, 1) := by decide +kernel
set_option maxRecDepth 20000 in
theorem ggL_premises_X8_premises : GoodIn wsL_premises wsX8_premises := goodIn_ca (goodIn_r _ [6, 7, 8, 9, 10, 5, 11, 12, 13, 14, 15, 16, 17, 18, 19, 20, 21, 22, 23, 24, 25, 26, 27, 28, 29, 30, 31, 32, 33, 34, 35, 36, 37, 38, 39, 40, 41, 42, 43, 44, 45, 46, 47] rfl (by decide +kernel)) (goodIn_sub (fun _ h => List.mem_cons_of_mem _ (List.mem_append_right _ h)) (by decide +kernel))
set_option maxRecDepth 20000 in
theorem gL_premises_X8_premises : GoodIn wsL_premises (wsV RL 53 RX8 yX8_premises wsX8_premises) := goodIn_app (goodIn_r _ [2, 3, 4, 5] rfl (by decide +kernel)) ggL_premises_X8_premises
theorem dL_premises_0 : decode cL_premises 0 = .ok (.aload_n 2, 1) := by decide +kernel
theorem dL_premises_1 : decode cL_premises 1 = .ok (.iconst 0, 1) := by decide +kernel
theorem dL_premises_2 : decode cL_premises 2 = .ok (.aload_n 0, 1) := by decide +kernel
theorem dL_premises_3 : decode cL_premises 3 = .ok (.iload_n 1, 1) := by decide +kernel
theorem dL_premises_4 : decode cL_premises 4 = .ok (.invokevirtual 53, 3) := by decide +kernel
theorem dL_premises_7 : decode cL_premises 7 = .ok (.lastore, 1) := by decide +kernel
theorem dL_premises_8 : decode cL_premises 8 = .ok (.goto 6, 3) := by decide +kernel
theorem dL_premises_11 : decode cL_premises 11 = .ok (.astore_n 3, 1) := by decide +kernel
theorem dL_premises_12 : decode cL_premises 12 = .ok (.iconst 1, 1) := by decide +kernel
theorem dL_premises_13 : decode cL_premises 13 = .ok (.ireturn, 1) := by decide +kernel
theorem dL_premises_14 : decode cL_premises 14 = .ok (.iconst 0, 1) := by decide +kernel
theorem dL_premises_15 : decode cL_premises 15 = .ok (.ireturn, 1) := by decide +kernel
set_option maxRecDepth 20000 in
theorem ggL_occurrences_X8_occurrences : GoodIn wsL_occurrences wsX8_occurrences := goodIn_ca (goodIn_r _ [6, 7, 8, 9, 10, 5, 11, 12, 13, 14, 15, 16, 17, 18, 19, 20, 21, 22, 23, 24, 25, 26, 27, 28, 29, 30, 31, 32, 33, 34, 35, 36, 37, 38, 39] rfl (by decide +kernel)) (goodIn_sub (fun _ h => List.mem_cons_of_mem _ (List.mem_append_right _ h)) (by decide +kernel))
set_option maxRecDepth 20000 in
theorem gL_occurrences_X8_occurrences : GoodIn wsL_occurrences (wsV RL 57 RX8 yX8_occurrences wsX8_occurrences) := goodIn_app (goodIn_r _ [2, 3, 4, 5] rfl (by decide +kernel)) ggL_occurrences_X8_occurrences
theorem dL_occurrences_0 : decode cL_occurrences 0 = .ok (.aload_n 3, 1) := by decide +kernel
theorem dL_occurrences_1 : decode cL_occurrences 1 = .ok (.iconst 0, 1) := by decide +kernel
theorem dL_occurrences_2 : decode cL_occurrences 2 = .ok (.aload_n 0, 1) := by decide +kernel
theorem dL_occurrences_3 : decode cL_occurrences 3 = .ok (.iload_n 1, 1) := by decide +kernel
theorem dL_occurrences_4 : decode cL_occurrences 4 = .ok (.iload_n 2, 1) := by decide +kernel
theorem dL_occurrences_5 : decode cL_occurrences 5 = .ok (.invokevirtual 57, 3) := by decide +kernel
theorem dL_occurrences_8 : decode cL_occurrences 8 = .ok (.i2l, 1) := by decide +kernel
theorem dL_occurrences_9 : decode cL_occurrences 9 = .ok (.lastore, 1) := by decide +kernel
theorem dL_occurrences_10 : decode cL_occurrences 10 = .ok (.goto 7, 3) := by decide +kernel
theorem dL_occurrences_13 : decode cL_occurrences 13 = .ok (.astore 4, 2) := by decide +kernel
theorem dL_occurrences_15 : decode cL_occurrences 15 = .ok (.iconst 1, 1) := by decide +kernel
theorem dL_occurrences_16 : decode cL_occurrences 16 = .ok (.ireturn, 1) := by decide +kernel
theorem dL_occurrences_17 : decode cL_occurrences 17 = .ok (.iconst 0, 1) := by decide +kernel
theorem dL_occurrences_18 : decode cL_occurrences 18 = .ok (.ireturn, 1) := by decide +kernel
set_option maxRecDepth 20000 in
theorem ggL_clashes_X8_clashes : GoodIn wsL_clashes wsX8_clashes := goodIn_ca (goodIn_r _ [6, 7, 8, 9, 10, 5, 11, 12, 13, 14, 15, 16, 17, 18, 19, 20, 21, 22, 23, 24, 25, 26, 27, 28, 29, 30, 31, 32, 33, 34, 35, 36, 37, 38, 39, 40, 41, 42, 43, 44, 45, 46, 47, 48, 49] rfl (by decide +kernel)) (goodIn_sub (fun _ h => List.mem_cons_of_mem _ (List.mem_append_right _ h)) (by decide +kernel))
set_option maxRecDepth 20000 in
theorem gL_clashes_X8_clashes : GoodIn wsL_clashes (wsV RL 61 RX8 yX8_clashes wsX8_clashes) := goodIn_app (goodIn_r _ [2, 3, 4, 5] rfl (by decide +kernel)) ggL_clashes_X8_clashes
theorem dL_clashes_0 : decode cL_clashes 0 = .ok (.aload_n 3, 1) := by decide +kernel
theorem dL_clashes_1 : decode cL_clashes 1 = .ok (.iconst 0, 1) := by decide +kernel
theorem dL_clashes_2 : decode cL_clashes 2 = .ok (.aload_n 0, 1) := by decide +kernel
theorem dL_clashes_3 : decode cL_clashes 3 = .ok (.iload_n 1, 1) := by decide +kernel
theorem dL_clashes_4 : decode cL_clashes 4 = .ok (.iload_n 2, 1) := by decide +kernel
theorem dL_clashes_5 : decode cL_clashes 5 = .ok (.invokevirtual 61, 3) := by decide +kernel
theorem dL_clashes_8 : decode cL_clashes 8 = .ok (.i2l, 1) := by decide +kernel
theorem dL_clashes_9 : decode cL_clashes 9 = .ok (.lastore, 1) := by decide +kernel
theorem dL_clashes_10 : decode cL_clashes 10 = .ok (.goto 7, 3) := by decide +kernel
theorem dL_clashes_13 : decode cL_clashes 13 = .ok (.astore 4, 2) := by decide +kernel
theorem dL_clashes_15 : decode cL_clashes 15 = .ok (.iconst 1, 1) := by decide +kernel
theorem dL_clashes_16 : decode cL_clashes 16 = .ok (.ireturn, 1) := by decide +kernel
theorem dL_clashes_17 : decode cL_clashes 17 = .ok (.iconst 0, 1) := by decide +kernel
theorem dL_clashes_18 : decode cL_clashes 18 = .ok (.ireturn, 1) := by decide +kernel
set_option maxRecDepth 20000 in
theorem ggL_areResolvable_X8_areResolvable : GoodIn wsL_areResolvable wsX8_areResolvable := goodIn_ca (goodIn_r _ [6, 7, 8, 9, 10, 5, 11, 12, 13, 14, 15, 16, 17, 18, 19, 20, 21, 22, 23, 24, 25, 26, 27, 28, 29, 30, 31, 32, 33, 34, 35, 36, 37, 38, 39, 40, 41, 42, 43, 44, 45, 46, 47, 48, 49, 50, 51, 52, 53] rfl (by decide +kernel)) (goodIn_sub (fun _ h => List.mem_cons_of_mem _ (List.mem_append_right _ h)) (by decide +kernel))
set_option maxRecDepth 20000 in
theorem gL_areResolvable_X8_areResolvable : GoodIn wsL_areResolvable (wsV RL 64 RX8 yX8_areResolvable wsX8_areResolvable) := goodIn_app (goodIn_r _ [2, 3, 4, 5] rfl (by decide +kernel)) ggL_areResolvable_X8_areResolvable
theorem dL_areResolvable_0 : decode cL_areResolvable 0 = .ok (.aload_n 3, 1) := by decide +kernel
theorem dL_areResolvable_1 : decode cL_areResolvable 1 = .ok (.iconst 0, 1) := by decide +kernel
theorem dL_areResolvable_2 : decode cL_areResolvable 2 = .ok (.aload_n 0, 1) := by decide +kernel
theorem dL_areResolvable_3 : decode cL_areResolvable 3 = .ok (.iload_n 1, 1) := by decide +kernel
theorem dL_areResolvable_4 : decode cL_areResolvable 4 = .ok (.iload_n 2, 1) := by decide +kernel
theorem dL_areResolvable_5 : decode cL_areResolvable 5 = .ok (.invokevirtual 64, 3) := by decide +kernel
theorem dL_areResolvable_8 : decode cL_areResolvable 8 = .ok (.ifCond .eq 7, 3) := by decide +kernel
theorem dL_areResolvable_11 : decode cL_areResolvable 11 = .ok (.lconst 1, 1) := by decide +kernel
theorem dL_areResolvable_12 : decode cL_areResolvable 12 = .ok (.goto 4, 3) := by decide +kernel
theorem dL_areResolvable_15 : decode cL_areResolvable 15 = .ok (.lconst 0, 1) := by decide +kernel
theorem dL_areResolvable_16 : decode cL_areResolvable 16 = .ok (.lastore, 1) := by decide +kernel
theorem dL_areResolvable_17 : decode cL_areResolvable 17 = .ok (.goto 7, 3) := by decide +kernel
theorem dL_areResolvable_20 : decode cL_areResolvable 20 = .ok (.astore 4, 2) := by decide +kernel
theorem dL_areResolvable_22 : decode cL_areResolvable 22 = .ok (.iconst 1, 1) := by decide +kernel
theorem dL_areResolvable_23 : decode cL_areResolvable 23 = .ok (.ireturn, 1) := by decide +kernel
theorem dL_areResolvable_24 : decode cL_areResolvable 24 = .ok (.iconst 0, 1) := by decide +kernel
theorem dL_areResolvable_25 : decode cL_areResolvable 25 = .ok (.ireturn, 1) := by decide +kernel
set_option maxRecDepth 20000 in
theorem ggL_resolventPositive_X8_resolventPositive : GoodIn wsL_resolventPositive wsX8_resolventPositive := goodIn_ca (goodIn_r _ [6, 7, 8, 9, 10, 5, 11, 12, 13, 14, 15, 16, 17, 18, 19, 20, 21, 22, 23, 24, 25, 26, 27, 28, 29, 30, 31, 32, 33, 34, 35, 36, 37, 38, 39, 40, 41, 42, 43, 44, 45, 46, 47, 48, 49, 50, 51, 52, 53, 54, 55, 56, 57] rfl (by decide +kernel)) (goodIn_sub (fun _ h => List.mem_cons_of_mem _ (List.mem_append_right _ h)) (by decide +kernel))
set_option maxRecDepth 20000 in
theorem gL_resolventPositive_X8_resolventPositive : GoodIn wsL_resolventPositive (wsV RL 68 RX8 yX8_resolventPositive wsX8_resolventPositive) := goodIn_app (goodIn_r _ [2, 3, 4, 5] rfl (by decide +kernel)) ggL_resolventPositive_X8_resolventPositive
theorem dL_resolventPositive_0 : decode cL_resolventPositive 0 = .ok (.aload_n 3, 1) := by decide +kernel
theorem dL_resolventPositive_1 : decode cL_resolventPositive 1 = .ok (.iconst 0, 1) := by decide +kernel
theorem dL_resolventPositive_2 : decode cL_resolventPositive 2 = .ok (.aload_n 0, 1) := by decide +kernel
theorem dL_resolventPositive_3 : decode cL_resolventPositive 3 = .ok (.iload_n 1, 1) := by decide +kernel
theorem dL_resolventPositive_4 : decode cL_resolventPositive 4 = .ok (.iload_n 2, 1) := by decide +kernel
theorem dL_resolventPositive_5 : decode cL_resolventPositive 5 = .ok (.invokevirtual 68, 3) := by decide +kernel
theorem dL_resolventPositive_8 : decode cL_resolventPositive 8 = .ok (.i2l, 1) := by decide +kernel
theorem dL_resolventPositive_9 : decode cL_resolventPositive 9 = .ok (.lastore, 1) := by decide +kernel
theorem dL_resolventPositive_10 : decode cL_resolventPositive 10 = .ok (.goto 7, 3) := by decide +kernel
theorem dL_resolventPositive_13 : decode cL_resolventPositive 13 = .ok (.astore 4, 2) := by decide +kernel
theorem dL_resolventPositive_15 : decode cL_resolventPositive 15 = .ok (.iconst 1, 1) := by decide +kernel
theorem dL_resolventPositive_16 : decode cL_resolventPositive 16 = .ok (.ireturn, 1) := by decide +kernel
theorem dL_resolventPositive_17 : decode cL_resolventPositive 17 = .ok (.iconst 0, 1) := by decide +kernel
theorem dL_resolventPositive_18 : decode cL_resolventPositive 18 = .ok (.ireturn, 1) := by decide +kernel
set_option maxRecDepth 20000 in
theorem ggL_resolventNegative_X8_resolventNegative : GoodIn wsL_resolventNegative wsX8_resolventNegative := goodIn_ca (goodIn_r _ [6, 7, 8, 9, 10, 5, 11, 12, 13, 14, 15, 16, 17, 18, 19, 20, 21, 22, 23, 24, 25, 26, 27, 28, 29, 30, 31, 32, 33, 34, 35, 36, 37, 38, 39, 40, 41, 42, 43, 44, 45, 46, 47, 48, 49, 50, 51, 52, 53, 54, 55, 56, 57] rfl (by decide +kernel)) (goodIn_sub (fun _ h => List.mem_cons_of_mem _ (List.mem_append_right _ h)) (by decide +kernel))
set_option maxRecDepth 20000 in
theorem gL_resolventNegative_X8_resolventNegative : GoodIn wsL_resolventNegative (wsV RL 71 RX8 yX8_resolventNegative wsX8_resolventNegative) := goodIn_app (goodIn_r _ [2, 3, 4, 5] rfl (by decide +kernel)) ggL_resolventNegative_X8_resolventNegative
theorem dL_resolventNegative_0 : decode cL_resolventNegative 0 = .ok (.aload_n 3, 1) := by decide +kernel
theorem dL_resolventNegative_1 : decode cL_resolventNegative 1 = .ok (.iconst 0, 1) := by decide +kernel
theorem dL_resolventNegative_2 : decode cL_resolventNegative 2 = .ok (.aload_n 0, 1) := by decide +kernel
theorem dL_resolventNegative_3 : decode cL_resolventNegative 3 = .ok (.iload_n 1, 1) := by decide +kernel
theorem dL_resolventNegative_4 : decode cL_resolventNegative 4 = .ok (.iload_n 2, 1) := by decide +kernel
theorem dL_resolventNegative_5 : decode cL_resolventNegative 5 = .ok (.invokevirtual 71, 3) := by decide +kernel
theorem dL_resolventNegative_8 : decode cL_resolventNegative 8 = .ok (.i2l, 1) := by decide +kernel
theorem dL_resolventNegative_9 : decode cL_resolventNegative 9 = .ok (.lastore, 1) := by decide +kernel
theorem dL_resolventNegative_10 : decode cL_resolventNegative 10 = .ok (.goto 7, 3) := by decide +kernel
theorem dL_resolventNegative_13 : decode cL_resolventNegative 13 = .ok (.astore 4, 2) := by decide +kernel
theorem dL_resolventNegative_15 : decode cL_resolventNegative 15 = .ok (.iconst 1, 1) := by decide +kernel
theorem dL_resolventNegative_16 : decode cL_resolventNegative 16 = .ok (.ireturn, 1) := by decide +kernel
theorem dL_resolventNegative_17 : decode cL_resolventNegative 17 = .ok (.iconst 0, 1) := by decide +kernel
theorem dL_resolventNegative_18 : decode cL_resolventNegative 18 = .ok (.ireturn, 1) := by decide +kernel
set_option maxRecDepth 20000 in
theorem ggL_subsumes_X8_subsumes : GoodIn wsL_subsumes wsX8_subsumes := goodIn_ca (goodIn_r _ [6, 7, 8, 9, 10, 11, 12, 5, 13, 14, 15, 16, 17, 18, 19, 20, 21, 22, 23, 24, 25, 26, 27, 28, 29, 30, 31, 32, 33, 34, 35, 36, 37, 38, 39, 40, 41, 42, 43, 44] rfl (by decide +kernel)) (goodIn_sub (fun _ h => List.mem_cons_of_mem _ (List.mem_append_right _ h)) (by decide +kernel))
set_option maxRecDepth 20000 in
theorem gL_subsumes_X8_subsumes : GoodIn wsL_subsumes (wsV RL 74 RX8 yX8_subsumes wsX8_subsumes) := goodIn_app (goodIn_r _ [2, 3, 4, 5] rfl (by decide +kernel)) ggL_subsumes_X8_subsumes
theorem dL_subsumes_0 : decode cL_subsumes 0 = .ok (.aload_n 3, 1) := by decide +kernel
theorem dL_subsumes_1 : decode cL_subsumes 1 = .ok (.iconst 0, 1) := by decide +kernel
theorem dL_subsumes_2 : decode cL_subsumes 2 = .ok (.aload_n 0, 1) := by decide +kernel
theorem dL_subsumes_3 : decode cL_subsumes 3 = .ok (.iload_n 1, 1) := by decide +kernel
theorem dL_subsumes_4 : decode cL_subsumes 4 = .ok (.iload_n 2, 1) := by decide +kernel
theorem dL_subsumes_5 : decode cL_subsumes 5 = .ok (.invokevirtual 74, 3) := by decide +kernel
theorem dL_subsumes_8 : decode cL_subsumes 8 = .ok (.ifCond .eq 7, 3) := by decide +kernel
theorem dL_subsumes_11 : decode cL_subsumes 11 = .ok (.lconst 1, 1) := by decide +kernel
theorem dL_subsumes_12 : decode cL_subsumes 12 = .ok (.goto 4, 3) := by decide +kernel
theorem dL_subsumes_15 : decode cL_subsumes 15 = .ok (.lconst 0, 1) := by decide +kernel
theorem dL_subsumes_16 : decode cL_subsumes 16 = .ok (.lastore, 1) := by decide +kernel
theorem dL_subsumes_17 : decode cL_subsumes 17 = .ok (.goto 7, 3) := by decide +kernel
theorem dL_subsumes_20 : decode cL_subsumes 20 = .ok (.astore 4, 2) := by decide +kernel
theorem dL_subsumes_22 : decode cL_subsumes 22 = .ok (.iconst 1, 1) := by decide +kernel
theorem dL_subsumes_23 : decode cL_subsumes 23 = .ok (.ireturn, 1) := by decide +kernel
theorem dL_subsumes_24 : decode cL_subsumes 24 = .ok (.iconst 0, 1) := by decide +kernel
theorem dL_subsumes_25 : decode cL_subsumes 25 = .ok (.ireturn, 1) := by decide +kernel
set_option maxRecDepth 20000 in
theorem ggL_subsumerOf_X8_subsumerOf : GoodIn wsL_subsumerOf wsX8_subsumerOf := goodIn_ca (goodIn_r _ [6, 7, 8, 9, 10, 5, 11, 12, 13, 14, 15, 16, 17, 18, 19, 20, 21, 22, 23, 24, 25, 26, 27, 28, 29, 30, 31, 32, 33, 34, 35, 36, 37, 38, 39, 40, 41, 42, 43, 44, 45, 46] rfl (by decide +kernel)) (goodIn_sub (fun _ h => List.mem_cons_of_mem _ (List.mem_append_right _ h)) (by decide +kernel))
set_option maxRecDepth 20000 in
theorem gL_subsumerOf_X8_subsumerOf : GoodIn wsL_subsumerOf (wsV RL 77 RX8 yX8_subsumerOf wsX8_subsumerOf) := goodIn_app (goodIn_r _ [2, 3, 4, 5] rfl (by decide +kernel)) ggL_subsumerOf_X8_subsumerOf
theorem dL_subsumerOf_0 : decode cL_subsumerOf 0 = .ok (.aload_n 2, 1) := by decide +kernel
theorem dL_subsumerOf_1 : decode cL_subsumerOf 1 = .ok (.iconst 0, 1) := by decide +kernel
theorem dL_subsumerOf_2 : decode cL_subsumerOf 2 = .ok (.aload_n 0, 1) := by decide +kernel
theorem dL_subsumerOf_3 : decode cL_subsumerOf 3 = .ok (.iload_n 1, 1) := by decide +kernel
theorem dL_subsumerOf_4 : decode cL_subsumerOf 4 = .ok (.invokevirtual 77, 3) := by decide +kernel
theorem dL_subsumerOf_7 : decode cL_subsumerOf 7 = .ok (.i2l, 1) := by decide +kernel
theorem dL_subsumerOf_8 : decode cL_subsumerOf 8 = .ok (.lastore, 1) := by decide +kernel
theorem dL_subsumerOf_9 : decode cL_subsumerOf 9 = .ok (.goto 6, 3) := by decide +kernel
theorem dL_subsumerOf_12 : decode cL_subsumerOf 12 = .ok (.astore_n 3, 1) := by decide +kernel
theorem dL_subsumerOf_13 : decode cL_subsumerOf 13 = .ok (.iconst 1, 1) := by decide +kernel
theorem dL_subsumerOf_14 : decode cL_subsumerOf 14 = .ok (.ireturn, 1) := by decide +kernel
theorem dL_subsumerOf_15 : decode cL_subsumerOf 15 = .ok (.iconst 0, 1) := by decide +kernel
theorem dL_subsumerOf_16 : decode cL_subsumerOf 16 = .ok (.ireturn, 1) := by decide +kernel
set_option maxRecDepth 20000 in
theorem ggL_isTrue_X8_isTrue : GoodIn wsL_isTrue wsX8_isTrue := goodIn_ca (goodIn_ca (goodIn_r _ [7, 8, 9, 10, 11, 6, 12, 13, 14, 15, 16, 17, 18, 19, 20, 21, 22, 23, 24, 25, 26, 27, 28, 29, 30, 31, 32, 33, 34, 35, 36, 37, 38, 39, 40, 41, 42, 43, 44, 45, 46, 47, 48, 49, 50, 51, 52, 53, 54, 55, 56, 57, 58] rfl (by decide +kernel)) (goodIn_sub (fun _ h => List.mem_cons_of_mem _ (List.mem_append_left _ (List.mem_append_right _ h))) (by decide +kernel))) (goodIn_sub (fun _ h => List.mem_cons_of_mem _ (List.mem_append_right _ h)) (by decide +kernel))
set_option maxRecDepth 20000 in
theorem gL_isTrue_X8_isTrue : GoodIn wsL_isTrue (wsV RL 80 RX8 yX8_isTrue wsX8_isTrue) := goodIn_app (goodIn_r _ [3, 4, 5, 6] rfl (by decide +kernel)) ggL_isTrue_X8_isTrue
theorem dL_isTrue_0 : decode cL_isTrue 0 = .ok (.aload_n 3, 1) := by decide +kernel
theorem dL_isTrue_1 : decode cL_isTrue 1 = .ok (.iconst 0, 1) := by decide +kernel
theorem dL_isTrue_2 : decode cL_isTrue 2 = .ok (.aload_n 0, 1) := by decide +kernel
theorem dL_isTrue_3 : decode cL_isTrue 3 = .ok (.iload_n 1, 1) := by decide +kernel
theorem dL_isTrue_4 : decode cL_isTrue 4 = .ok (.iload_n 2, 1) := by decide +kernel
theorem dL_isTrue_5 : decode cL_isTrue 5 = .ok (.invokevirtual 80, 3) := by decide +kernel
theorem dL_isTrue_8 : decode cL_isTrue 8 = .ok (.ifCond .eq 7, 3) := by decide +kernel
theorem dL_isTrue_11 : decode cL_isTrue 11 = .ok (.lconst 1, 1) := by decide +kernel
theorem dL_isTrue_12 : decode cL_isTrue 12 = .ok (.goto 4, 3) := by decide +kernel
theorem dL_isTrue_15 : decode cL_isTrue 15 = .ok (.lconst 0, 1) := by decide +kernel
theorem dL_isTrue_16 : decode cL_isTrue 16 = .ok (.lastore, 1) := by decide +kernel
theorem dL_isTrue_17 : decode cL_isTrue 17 = .ok (.goto 11, 3) := by decide +kernel
theorem dL_isTrue_20 : decode cL_isTrue 20 = .ok (.astore 4, 2) := by decide +kernel
theorem dL_isTrue_22 : decode cL_isTrue 22 = .ok (.iconst 1, 1) := by decide +kernel
theorem dL_isTrue_23 : decode cL_isTrue 23 = .ok (.ireturn, 1) := by decide +kernel
theorem dL_isTrue_24 : decode cL_isTrue 24 = .ok (.astore 4, 2) := by decide +kernel
theorem dL_isTrue_26 : decode cL_isTrue 26 = .ok (.iconst 2, 1) := by decide +kernel
theorem dL_isTrue_27 : decode cL_isTrue 27 = .ok (.ireturn, 1) := by decide +kernel
theorem dL_isTrue_28 : decode cL_isTrue 28 = .ok (.iconst 0, 1) := by decide +kernel
theorem dL_isTrue_29 : decode cL_isTrue 29 = .ok (.ireturn, 1) := by decide +kernel
set_option maxRecDepth 20000 in
theorem ggL_falseClauses_X8_falseClauses : GoodIn wsL_falseClauses wsX8_falseClauses := goodIn_ca (goodIn_r _ [6, 7, 8, 9, 10, 5, 11, 12, 13, 14, 15, 16, 17, 18, 19, 20, 21, 22, 23, 24, 25, 26, 27, 28, 29, 30, 31, 32, 33, 34, 35, 36, 37, 38, 39, 40, 41, 42, 43, 44, 45, 46, 47, 48, 49, 50, 51] rfl (by decide +kernel)) (goodIn_sub (fun _ h => List.mem_cons_of_mem _ (List.mem_append_right _ h)) (by decide +kernel))
set_option maxRecDepth 20000 in
theorem gL_falseClauses_X8_falseClauses : GoodIn wsL_falseClauses (wsV RL 83 RX8 yX8_falseClauses wsX8_falseClauses) := goodIn_app (goodIn_r _ [2, 3, 4, 5] rfl (by decide +kernel)) ggL_falseClauses_X8_falseClauses
theorem dL_falseClauses_0 : decode cL_falseClauses 0 = .ok (.aload_n 2, 1) := by decide +kernel
theorem dL_falseClauses_1 : decode cL_falseClauses 1 = .ok (.iconst 0, 1) := by decide +kernel
theorem dL_falseClauses_2 : decode cL_falseClauses 2 = .ok (.aload_n 0, 1) := by decide +kernel
theorem dL_falseClauses_3 : decode cL_falseClauses 3 = .ok (.iload_n 1, 1) := by decide +kernel
theorem dL_falseClauses_4 : decode cL_falseClauses 4 = .ok (.invokevirtual 83, 3) := by decide +kernel
theorem dL_falseClauses_7 : decode cL_falseClauses 7 = .ok (.i2l, 1) := by decide +kernel
theorem dL_falseClauses_8 : decode cL_falseClauses 8 = .ok (.lastore, 1) := by decide +kernel
theorem dL_falseClauses_9 : decode cL_falseClauses 9 = .ok (.goto 6, 3) := by decide +kernel
theorem dL_falseClauses_12 : decode cL_falseClauses 12 = .ok (.astore_n 3, 1) := by decide +kernel
theorem dL_falseClauses_13 : decode cL_falseClauses 13 = .ok (.iconst 1, 1) := by decide +kernel
theorem dL_falseClauses_14 : decode cL_falseClauses 14 = .ok (.ireturn, 1) := by decide +kernel
theorem dL_falseClauses_15 : decode cL_falseClauses 15 = .ok (.iconst 0, 1) := by decide +kernel
theorem dL_falseClauses_16 : decode cL_falseClauses 16 = .ok (.ireturn, 1) := by decide +kernel
set_option maxRecDepth 20000 in
theorem ggL_bestFlip_X8_bestFlip : GoodIn wsL_bestFlip wsX8_bestFlip := goodIn_ca (goodIn_r _ [6, 7, 8, 9, 10, 5, 11, 12, 13, 14, 15, 16, 17, 18, 19, 20, 21, 22, 23, 24, 25, 26, 27, 28, 29, 30, 31, 32, 33, 34, 35, 36, 37, 38, 39, 40, 41, 42, 43, 44, 45, 46, 47, 48, 49, 50, 51, 52, 53, 54, 55] rfl (by decide +kernel)) (goodIn_sub (fun _ h => List.mem_cons_of_mem _ (List.mem_append_right _ h)) (by decide +kernel))
set_option maxRecDepth 20000 in
theorem gL_bestFlip_X8_bestFlip : GoodIn wsL_bestFlip (wsV RL 86 RX8 yX8_bestFlip wsX8_bestFlip) := goodIn_app (goodIn_r _ [2, 3, 4, 5] rfl (by decide +kernel)) ggL_bestFlip_X8_bestFlip
theorem dL_bestFlip_0 : decode cL_bestFlip 0 = .ok (.aload_n 2, 1) := by decide +kernel
theorem dL_bestFlip_1 : decode cL_bestFlip 1 = .ok (.iconst 0, 1) := by decide +kernel
theorem dL_bestFlip_2 : decode cL_bestFlip 2 = .ok (.aload_n 0, 1) := by decide +kernel
theorem dL_bestFlip_3 : decode cL_bestFlip 3 = .ok (.iload_n 1, 1) := by decide +kernel
theorem dL_bestFlip_4 : decode cL_bestFlip 4 = .ok (.invokevirtual 86, 3) := by decide +kernel
theorem dL_bestFlip_7 : decode cL_bestFlip 7 = .ok (.i2l, 1) := by decide +kernel
theorem dL_bestFlip_8 : decode cL_bestFlip 8 = .ok (.lastore, 1) := by decide +kernel
theorem dL_bestFlip_9 : decode cL_bestFlip 9 = .ok (.goto 6, 3) := by decide +kernel
theorem dL_bestFlip_12 : decode cL_bestFlip 12 = .ok (.astore_n 3, 1) := by decide +kernel
theorem dL_bestFlip_13 : decode cL_bestFlip 13 = .ok (.iconst 1, 1) := by decide +kernel
theorem dL_bestFlip_14 : decode cL_bestFlip 14 = .ok (.ireturn, 1) := by decide +kernel
theorem dL_bestFlip_15 : decode cL_bestFlip 15 = .ok (.iconst 0, 1) := by decide +kernel
theorem dL_bestFlip_16 : decode cL_bestFlip 16 = .ok (.ireturn, 1) := by decide +kernel
set_option maxRecDepth 20000 in
theorem ggL_isImplied_X8_isImplied : GoodIn wsL_isImplied wsX8_isImplied := goodIn_ca (goodIn_r _ [6, 7, 8, 9, 10, 5, 11, 12, 13, 14, 15, 16, 17, 18, 19, 20, 21, 22, 23, 24, 25, 26, 27, 28, 29, 30, 31, 32, 33, 34, 35, 36, 37, 38, 39, 40, 41, 42, 43, 44, 45, 46, 47, 48, 49, 50, 51, 52, 53, 54, 55, 56, 57, 58, 59] rfl (by decide +kernel)) (goodIn_sub (fun _ h => List.mem_cons_of_mem _ (List.mem_append_right _ h)) (by decide +kernel))
set_option maxRecDepth 20000 in
theorem gL_isImplied_X8_isImplied : GoodIn wsL_isImplied (wsV RL 89 RX8 yX8_isImplied wsX8_isImplied) := goodIn_app (goodIn_r _ [2, 3, 4, 5] rfl (by decide +kernel)) ggL_isImplied_X8_isImplied
theorem dL_isImplied_0 : decode cL_isImplied 0 = .ok (.aload_n 3, 1) := by decide +kernel
theorem dL_isImplied_1 : decode cL_isImplied 1 = .ok (.iconst 0, 1) := by decide +kernel
theorem dL_isImplied_2 : decode cL_isImplied 2 = .ok (.aload_n 0, 1) := by decide +kernel
theorem dL_isImplied_3 : decode cL_isImplied 3 = .ok (.iload_n 1, 1) := by decide +kernel
theorem dL_isImplied_4 : decode cL_isImplied 4 = .ok (.iload_n 2, 1) := by decide +kernel
theorem dL_isImplied_5 : decode cL_isImplied 5 = .ok (.invokevirtual 89, 3) := by decide +kernel
theorem dL_isImplied_8 : decode cL_isImplied 8 = .ok (.ifCond .eq 7, 3) := by decide +kernel
theorem dL_isImplied_11 : decode cL_isImplied 11 = .ok (.lconst 1, 1) := by decide +kernel
theorem dL_isImplied_12 : decode cL_isImplied 12 = .ok (.goto 4, 3) := by decide +kernel
theorem dL_isImplied_15 : decode cL_isImplied 15 = .ok (.lconst 0, 1) := by decide +kernel
theorem dL_isImplied_16 : decode cL_isImplied 16 = .ok (.lastore, 1) := by decide +kernel
theorem dL_isImplied_17 : decode cL_isImplied 17 = .ok (.goto 7, 3) := by decide +kernel
theorem dL_isImplied_20 : decode cL_isImplied 20 = .ok (.astore 4, 2) := by decide +kernel
theorem dL_isImplied_22 : decode cL_isImplied 22 = .ok (.iconst 1, 1) := by decide +kernel
theorem dL_isImplied_23 : decode cL_isImplied 23 = .ok (.ireturn, 1) := by decide +kernel
theorem dL_isImplied_24 : decode cL_isImplied 24 = .ok (.iconst 0, 1) := by decide +kernel
theorem dL_isImplied_25 : decode cL_isImplied 25 = .ok (.ireturn, 1) := by decide +kernel
set_option maxRecDepth 20000 in
theorem ggL_isRedundant_X8_isRedundant : GoodIn wsL_isRedundant wsX8_isRedundant := goodIn_ca (goodIn_r _ [6, 7, 8, 9, 10, 11, 12, 5, 13, 14, 15, 16, 17, 18, 19, 20, 21, 22, 23, 24, 25, 26, 27, 28, 29, 30, 31, 32, 33, 34, 35, 36, 37, 38, 39, 40, 41, 42, 43, 44, 45, 46, 47, 48, 49, 50, 51, 52, 53, 54, 55, 56, 57] rfl (by decide +kernel)) (goodIn_sub (fun _ h => List.mem_cons_of_mem _ (List.mem_append_right _ h)) (by decide +kernel))
set_option maxRecDepth 20000 in
theorem gL_isRedundant_X8_isRedundant : GoodIn wsL_isRedundant (wsV RL 92 RX8 yX8_isRedundant wsX8_isRedundant) := goodIn_app (goodIn_r _ [2, 3, 4, 5] rfl (by decide +kernel)) ggL_isRedundant_X8_isRedundant
theorem dL_isRedundant_0 : decode cL_isRedundant 0 = .ok (.aload_n 2, 1) := by decide +kernel
theorem dL_isRedundant_1 : decode cL_isRedundant 1 = .ok (.iconst 0, 1) := by decide +kernel
theorem dL_isRedundant_2 : decode cL_isRedundant 2 = .ok (.aload_n 0, 1) := by decide +kernel
theorem dL_isRedundant_3 : decode cL_isRedundant 3 = .ok (.iload_n 1, 1) := by decide +kernel
theorem dL_isRedundant_4 : decode cL_isRedundant 4 = .ok (.invokevirtual 92, 3) := by decide +kernel
theorem dL_isRedundant_7 : decode cL_isRedundant 7 = .ok (.ifCond .eq 7, 3) := by decide +kernel
theorem dL_isRedundant_10 : decode cL_isRedundant 10 = .ok (.lconst 1, 1) := by decide +kernel
theorem dL_isRedundant_11 : decode cL_isRedundant 11 = .ok (.goto 4, 3) := by decide +kernel
theorem dL_isRedundant_14 : decode cL_isRedundant 14 = .ok (.lconst 0, 1) := by decide +kernel
theorem dL_isRedundant_15 : decode cL_isRedundant 15 = .ok (.lastore, 1) := by decide +kernel
theorem dL_isRedundant_16 : decode cL_isRedundant 16 = .ok (.goto 6, 3) := by decide +kernel
theorem dL_isRedundant_19 : decode cL_isRedundant 19 = .ok (.astore_n 3, 1) := by decide +kernel
theorem dL_isRedundant_20 : decode cL_isRedundant 20 = .ok (.iconst 1, 1) := by decide +kernel
theorem dL_isRedundant_21 : decode cL_isRedundant 21 = .ok (.ireturn, 1) := by decide +kernel
theorem dL_isRedundant_22 : decode cL_isRedundant 22 = .ok (.iconst 0, 1) := by decide +kernel
theorem dL_isRedundant_23 : decode cL_isRedundant 23 = .ok (.ireturn, 1) := by decide +kernel
set_option maxRecDepth 20000 in
theorem ggL_addClause_X8_addClause : GoodIn wsL_addClause wsX8_addClause := goodIn_ca (goodIn_ca (goodIn_r _ [7, 8, 9, 10, 11, 12, 13, 14, 6, 15, 16, 17, 18, 19, 20, 21, 22, 23, 24, 25, 26, 27, 28, 29, 30, 31, 32, 33, 34, 35, 36, 37, 38, 39, 40, 41, 42, 43, 44, 45, 46, 47, 48, 49, 50, 51, 52, 53, 54, 55, 56, 57, 58, 59, 60, 61, 62, 63, 64, 65, 66, 67, 68, 69, 70, 71, 72, 73, 74, 75, 76, 77, 78, 79, 80, 81, 82, 83, 84, 85, 86, 87, 88, 89, 90, 91] rfl (by decide +kernel)) (goodIn_sub (fun _ h => List.mem_cons_of_mem _ (List.mem_append_left _ (List.mem_append_right _ h))) (by decide +kernel))) (goodIn_sub (fun _ h => List.mem_cons_of_mem _ (List.mem_append_right _ h)) (by decide +kernel))
set_option maxRecDepth 20000 in
theorem gL_addClause_X8_addClause : GoodIn wsL_addClause (wsV RL 95 RX8 yX8_addClause wsX8_addClause) := goodIn_app (goodIn_r _ [3, 4, 5, 6] rfl (by decide +kernel)) ggL_addClause_X8_addClause
theorem dL_addClause_0 : decode cL_addClause 0 = .ok (.aload_n 3, 1) := by decide +kernel
theorem dL_addClause_1 : decode cL_addClause 1 = .ok (.iconst 0, 1) := by decide +kernel
theorem dL_addClause_2 : decode cL_addClause 2 = .ok (.aload_n 0, 1) := by decide +kernel
theorem dL_addClause_3 : decode cL_addClause 3 = .ok (.iload_n 1, 1) := by decide +kernel
theorem dL_addClause_4 : decode cL_addClause 4 = .ok (.iload_n 2, 1) := by decide +kernel
theorem dL_addClause_5 : decode cL_addClause 5 = .ok (.invokevirtual 95, 3) := by decide +kernel
theorem dL_addClause_8 : decode cL_addClause 8 = .ok (.i2l, 1) := by decide +kernel
theorem dL_addClause_9 : decode cL_addClause 9 = .ok (.lastore, 1) := by decide +kernel
theorem dL_addClause_10 : decode cL_addClause 10 = .ok (.goto 11, 3) := by decide +kernel
theorem dL_addClause_13 : decode cL_addClause 13 = .ok (.astore 4, 2) := by decide +kernel
theorem dL_addClause_15 : decode cL_addClause 15 = .ok (.iconst 1, 1) := by decide +kernel
theorem dL_addClause_16 : decode cL_addClause 16 = .ok (.ireturn, 1) := by decide +kernel
theorem dL_addClause_17 : decode cL_addClause 17 = .ok (.astore 4, 2) := by decide +kernel
theorem dL_addClause_19 : decode cL_addClause 19 = .ok (.iconst 2, 1) := by decide +kernel
theorem dL_addClause_20 : decode cL_addClause 20 = .ok (.ireturn, 1) := by decide +kernel
theorem dL_addClause_21 : decode cL_addClause 21 = .ok (.iconst 0, 1) := by decide +kernel
theorem dL_addClause_22 : decode cL_addClause 22 = .ok (.ireturn, 1) := by decide +kernel
set_option maxRecDepth 20000 in
theorem ggL_resolve_X8_resolve : GoodIn wsL_resolve wsX8_resolve := goodIn_ca (goodIn_ca (goodIn_ca (goodIn_r _ [8, 9, 10, 11, 12, 13, 14, 15, 16, 17, 7, 18, 19, 20, 21, 22, 23, 24, 25, 26, 27, 28, 29, 30, 31, 32, 33, 34, 35, 36, 37, 38, 39, 40, 41, 42, 43, 44, 45, 46, 47, 48, 49, 50, 51, 52, 53, 54, 55, 56, 57, 58, 59, 60, 61, 62, 63, 64, 65, 66, 67, 68, 69, 70, 71, 72, 73, 74, 75, 76, 77, 78, 79, 80, 81, 82, 83, 84, 85, 86, 87, 88, 89, 90, 91, 92, 93, 94, 95, 96, 97, 98, 99, 100, 101, 102, 103, 104, 105, 106, 107, 108, 109, 110, 111, 112, 113, 114, 115, 116, 117, 118, 119, 120, 121, 122, 123] rfl (by decide +kernel)) (goodIn_sub (fun _ h => List.mem_cons_of_mem _ (List.mem_append_left _ (List.mem_append_left _ (List.mem_append_right _ h)))) (by decide +kernel))) (goodIn_sub (fun _ h => List.mem_cons_of_mem _ (List.mem_append_left _ (List.mem_append_right _ h))) (by decide +kernel))) (goodIn_sub (fun _ h => List.mem_cons_of_mem _ (List.mem_append_right _ h)) (by decide +kernel))
set_option maxRecDepth 20000 in
theorem gL_resolve_X8_resolve : GoodIn wsL_resolve (wsV RL 100 RX8 yX8_resolve wsX8_resolve) := goodIn_app (goodIn_r _ [4, 5, 6, 7] rfl (by decide +kernel)) ggL_resolve_X8_resolve
theorem dL_resolve_0 : decode cL_resolve 0 = .ok (.aload_n 3, 1) := by decide +kernel
theorem dL_resolve_1 : decode cL_resolve 1 = .ok (.iconst 0, 1) := by decide +kernel
theorem dL_resolve_2 : decode cL_resolve 2 = .ok (.aload_n 0, 1) := by decide +kernel
theorem dL_resolve_3 : decode cL_resolve 3 = .ok (.iload_n 1, 1) := by decide +kernel
theorem dL_resolve_4 : decode cL_resolve 4 = .ok (.iload_n 2, 1) := by decide +kernel
theorem dL_resolve_5 : decode cL_resolve 5 = .ok (.invokevirtual 100, 3) := by decide +kernel
theorem dL_resolve_8 : decode cL_resolve 8 = .ok (.i2l, 1) := by decide +kernel
theorem dL_resolve_9 : decode cL_resolve 9 = .ok (.lastore, 1) := by decide +kernel
theorem dL_resolve_10 : decode cL_resolve 10 = .ok (.goto 15, 3) := by decide +kernel
theorem dL_resolve_13 : decode cL_resolve 13 = .ok (.astore 4, 2) := by decide +kernel
theorem dL_resolve_15 : decode cL_resolve 15 = .ok (.iconst 1, 1) := by decide +kernel
theorem dL_resolve_16 : decode cL_resolve 16 = .ok (.ireturn, 1) := by decide +kernel
theorem dL_resolve_17 : decode cL_resolve 17 = .ok (.astore 4, 2) := by decide +kernel
theorem dL_resolve_19 : decode cL_resolve 19 = .ok (.iconst 2, 1) := by decide +kernel
theorem dL_resolve_20 : decode cL_resolve 20 = .ok (.ireturn, 1) := by decide +kernel
theorem dL_resolve_21 : decode cL_resolve 21 = .ok (.astore 4, 2) := by decide +kernel
theorem dL_resolve_23 : decode cL_resolve 23 = .ok (.iconst 3, 1) := by decide +kernel
theorem dL_resolve_24 : decode cL_resolve 24 = .ok (.ireturn, 1) := by decide +kernel
theorem dL_resolve_25 : decode cL_resolve 25 = .ok (.iconst 0, 1) := by decide +kernel
theorem dL_resolve_26 : decode cL_resolve 26 = .ok (.ireturn, 1) := by decide +kernel
set_option maxRecDepth 20000 in
theorem ggL_saturate_X8_saturate : GoodIn wsL_saturate wsX8_saturate := goodIn_ca (goodIn_ca (goodIn_r _ [7, 8, 9, 10, 11, 12, 13, 14, 15, 16, 17, 18, 19, 20, 21, 22, 23, 24, 25, 26, 27, 28, 29, 30, 31, 32, 33, 34, 35, 36, 37, 38, 39, 40, 41, 42, 43, 44, 45, 46, 47, 48, 49, 50, 51, 52, 53, 54, 55, 56, 57, 58, 59, 60, 61, 62, 63, 64, 65, 66, 67, 68, 69, 70, 71, 72, 73, 74, 75, 76, 77, 78, 79, 80, 81, 82, 83, 84, 85, 86, 87, 88, 89, 90, 91, 92, 93, 94, 95, 96, 97, 98, 99, 100, 101, 102, 103, 104, 105, 106, 107, 108, 109, 110, 111, 112, 113, 114, 115, 116, 117, 118, 119, 120, 121, 122, 123, 124, 125, 126, 127, 128, 129, 130, 131, 132, 133, 134, 135, 136, 137, 138, 139, 140] rfl (by decide +kernel)) (goodIn_sub (fun _ h => List.mem_cons_of_mem _ (List.mem_append_left _ (List.mem_append_right _ h))) (by decide +kernel))) (goodIn_sub (fun _ h => List.mem_cons_of_mem _ (List.mem_append_right _ h)) (by decide +kernel))
set_option maxRecDepth 20000 in
theorem gL_saturate_X8_saturate : GoodIn wsL_saturate (wsV RL 103 RX8 yX8_saturate wsX8_saturate) := goodIn_app (goodIn_r _ [3, 4, 5, 6] rfl (by decide +kernel)) ggL_saturate_X8_saturate
theorem dL_saturate_0 : decode cL_saturate 0 = .ok (.aload_n 2, 1) := by decide +kernel
theorem dL_saturate_1 : decode cL_saturate 1 = .ok (.iconst 0, 1) := by decide +kernel
theorem dL_saturate_2 : decode cL_saturate 2 = .ok (.aload_n 0, 1) := by decide +kernel
theorem dL_saturate_3 : decode cL_saturate 3 = .ok (.iload_n 1, 1) := by decide +kernel
theorem dL_saturate_4 : decode cL_saturate 4 = .ok (.invokevirtual 103, 3) := by decide +kernel
theorem dL_saturate_7 : decode cL_saturate 7 = .ok (.i2l, 1) := by decide +kernel
theorem dL_saturate_8 : decode cL_saturate 8 = .ok (.lastore, 1) := by decide +kernel
theorem dL_saturate_9 : decode cL_saturate 9 = .ok (.goto 9, 3) := by decide +kernel
theorem dL_saturate_12 : decode cL_saturate 12 = .ok (.astore_n 3, 1) := by decide +kernel
theorem dL_saturate_13 : decode cL_saturate 13 = .ok (.iconst 1, 1) := by decide +kernel
theorem dL_saturate_14 : decode cL_saturate 14 = .ok (.ireturn, 1) := by decide +kernel
theorem dL_saturate_15 : decode cL_saturate 15 = .ok (.astore_n 3, 1) := by decide +kernel
theorem dL_saturate_16 : decode cL_saturate 16 = .ok (.iconst 2, 1) := by decide +kernel
theorem dL_saturate_17 : decode cL_saturate 17 = .ok (.ireturn, 1) := by decide +kernel
theorem dL_saturate_18 : decode cL_saturate 18 = .ok (.iconst 0, 1) := by decide +kernel
theorem dL_saturate_19 : decode cL_saturate 19 = .ok (.ireturn, 1) := by decide +kernel
set_option maxRecDepth 20000 in
theorem ggL_dropClause_X8_dropClause : GoodIn wsL_dropClause wsX8_dropClause := goodIn_ca (goodIn_ca (goodIn_r _ [7, 8, 9, 10, 11, 12, 13, 14, 6, 15, 16, 17, 18, 19, 20, 21, 22, 23, 24, 25, 26, 27, 28, 29, 30, 31, 32, 33, 34, 35, 36, 37, 38, 39, 40, 41, 42, 43, 44, 45, 46, 47, 48, 49, 50, 51, 52, 53, 54, 55, 56, 57, 58, 59, 60, 61, 62, 63, 64, 65, 66, 67, 68, 69, 70, 71, 72, 73, 74, 75, 76, 77, 78, 79, 80, 81, 82, 83, 84, 85, 86, 87, 88, 89, 90, 91, 92, 93, 94] rfl (by decide +kernel)) (goodIn_sub (fun _ h => List.mem_cons_of_mem _ (List.mem_append_left _ (List.mem_append_right _ h))) (by decide +kernel))) (goodIn_sub (fun _ h => List.mem_cons_of_mem _ (List.mem_append_right _ h)) (by decide +kernel))
set_option maxRecDepth 20000 in
theorem gL_dropClause_X8_dropClause : GoodIn wsL_dropClause (wsV RL 106 RX8 yX8_dropClause wsX8_dropClause) := goodIn_app (goodIn_r _ [3, 4, 5, 6] rfl (by decide +kernel)) ggL_dropClause_X8_dropClause
theorem dL_dropClause_0 : decode cL_dropClause 0 = .ok (.aload_n 2, 1) := by decide +kernel
theorem dL_dropClause_1 : decode cL_dropClause 1 = .ok (.iconst 0, 1) := by decide +kernel
theorem dL_dropClause_2 : decode cL_dropClause 2 = .ok (.aload_n 0, 1) := by decide +kernel
theorem dL_dropClause_3 : decode cL_dropClause 3 = .ok (.iload_n 1, 1) := by decide +kernel
theorem dL_dropClause_4 : decode cL_dropClause 4 = .ok (.invokevirtual 106, 3) := by decide +kernel
theorem dL_dropClause_7 : decode cL_dropClause 7 = .ok (.i2l, 1) := by decide +kernel
theorem dL_dropClause_8 : decode cL_dropClause 8 = .ok (.lastore, 1) := by decide +kernel
theorem dL_dropClause_9 : decode cL_dropClause 9 = .ok (.goto 9, 3) := by decide +kernel
theorem dL_dropClause_12 : decode cL_dropClause 12 = .ok (.astore_n 3, 1) := by decide +kernel
theorem dL_dropClause_13 : decode cL_dropClause 13 = .ok (.iconst 1, 1) := by decide +kernel
theorem dL_dropClause_14 : decode cL_dropClause 14 = .ok (.ireturn, 1) := by decide +kernel
theorem dL_dropClause_15 : decode cL_dropClause 15 = .ok (.astore_n 3, 1) := by decide +kernel
theorem dL_dropClause_16 : decode cL_dropClause 16 = .ok (.iconst 2, 1) := by decide +kernel
theorem dL_dropClause_17 : decode cL_dropClause 17 = .ok (.ireturn, 1) := by decide +kernel
theorem dL_dropClause_18 : decode cL_dropClause 18 = .ok (.iconst 0, 1) := by decide +kernel
theorem dL_dropClause_19 : decode cL_dropClause 19 = .ok (.ireturn, 1) := by decide +kernel
set_option maxRecDepth 20000 in
theorem ggL_negateVariable_X8_negateVariable : GoodIn wsL_negateVariable wsX8_negateVariable := goodIn_ca (goodIn_r _ [6, 7, 8, 9, 10, 11, 5, 12, 13, 14, 15, 16, 17, 18, 19, 20, 21, 22, 23, 24, 25, 26, 27, 28, 29, 30, 31, 32, 33, 34, 35, 36, 37, 38, 39, 40, 41, 42, 43, 44, 45, 46, 47, 48, 49, 50, 51, 52, 53, 54, 55, 56, 57, 58, 59, 60, 61, 62, 63, 64, 65, 66, 67, 68, 69, 70, 71, 72] rfl (by decide +kernel)) (goodIn_sub (fun _ h => List.mem_cons_of_mem _ (List.mem_append_right _ h)) (by decide +kernel))
set_option maxRecDepth 20000 in
theorem gL_negateVariable_X8_negateVariable : GoodIn wsL_negateVariable (wsV RL 109 RX8 yX8_negateVariable wsX8_negateVariable) := goodIn_app (goodIn_r _ [2, 3, 4, 5] rfl (by decide +kernel)) ggL_negateVariable_X8_negateVariable
theorem dL_negateVariable_0 : decode cL_negateVariable 0 = .ok (.aload_n 2, 1) := by decide +kernel
theorem dL_negateVariable_1 : decode cL_negateVariable 1 = .ok (.iconst 0, 1) := by decide +kernel
theorem dL_negateVariable_2 : decode cL_negateVariable 2 = .ok (.aload_n 0, 1) := by decide +kernel
theorem dL_negateVariable_3 : decode cL_negateVariable 3 = .ok (.iload_n 1, 1) := by decide +kernel
theorem dL_negateVariable_4 : decode cL_negateVariable 4 = .ok (.invokevirtual 109, 3) := by decide +kernel
theorem dL_negateVariable_7 : decode cL_negateVariable 7 = .ok (.i2l, 1) := by decide +kernel
theorem dL_negateVariable_8 : decode cL_negateVariable 8 = .ok (.lastore, 1) := by decide +kernel
theorem dL_negateVariable_9 : decode cL_negateVariable 9 = .ok (.goto 6, 3) := by decide +kernel
theorem dL_negateVariable_12 : decode cL_negateVariable 12 = .ok (.astore_n 3, 1) := by decide +kernel
theorem dL_negateVariable_13 : decode cL_negateVariable 13 = .ok (.iconst 1, 1) := by decide +kernel
theorem dL_negateVariable_14 : decode cL_negateVariable 14 = .ok (.ireturn, 1) := by decide +kernel
theorem dL_negateVariable_15 : decode cL_negateVariable 15 = .ok (.iconst 0, 1) := by decide +kernel
theorem dL_negateVariable_16 : decode cL_negateVariable 16 = .ok (.ireturn, 1) := by decide +kernel
set_option maxRecDepth 20000 in
theorem ggL_undo_X8_undo : GoodIn wsL_undo wsX8_undo := goodIn_ca (goodIn_r _ [6, 7, 8, 9, 10, 11, 12, 13, 14, 15, 16, 17, 18, 19, 20, 21, 22, 23, 24, 25, 26, 27, 28, 29, 30, 31, 32, 33, 34, 35, 36, 37, 38, 39, 40, 41, 42, 43, 44, 45, 46, 47, 48, 49, 50, 51, 52, 53, 54, 55, 56] rfl (by decide +kernel)) (goodIn_sub (fun _ h => List.mem_cons_of_mem _ (List.mem_append_right _ h)) (by decide +kernel))
set_option maxRecDepth 20000 in
theorem gL_undo_X8_undo : GoodIn wsL_undo (wsV RL 112 RX8 yX8_undo wsX8_undo) := goodIn_app (goodIn_r _ [2, 3, 4, 5] rfl (by decide +kernel)) ggL_undo_X8_undo
theorem dL_undo_0 : decode cL_undo 0 = .ok (.aload_n 1, 1) := by decide +kernel
theorem dL_undo_1 : decode cL_undo 1 = .ok (.iconst 0, 1) := by decide +kernel
theorem dL_undo_2 : decode cL_undo 2 = .ok (.aload_n 0, 1) := by decide +kernel
theorem dL_undo_3 : decode cL_undo 3 = .ok (.invokevirtual 112, 3) := by decide +kernel
theorem dL_undo_6 : decode cL_undo 6 = .ok (.i2l, 1) := by decide +kernel
theorem dL_undo_7 : decode cL_undo 7 = .ok (.lastore, 1) := by decide +kernel
theorem dL_undo_8 : decode cL_undo 8 = .ok (.goto 6, 3) := by decide +kernel
theorem dL_undo_11 : decode cL_undo 11 = .ok (.astore_n 2, 1) := by decide +kernel
theorem dL_undo_12 : decode cL_undo 12 = .ok (.iconst 1, 1) := by decide +kernel
theorem dL_undo_13 : decode cL_undo 13 = .ok (.ireturn, 1) := by decide +kernel
theorem dL_undo_14 : decode cL_undo 14 = .ok (.iconst 0, 1) := by decide +kernel
theorem dL_undo_15 : decode cL_undo 15 = .ok (.ireturn, 1) := by decide +kernel
set_option maxRecDepth 20000 in
theorem ggL_save_X8_save : GoodIn wsL_save wsX8_save := goodIn_ca (goodIn_r _ [6, 7, 8, 9, 10, 11, 12, 5, 13, 14, 15, 16, 17, 18, 19, 20, 21, 22, 23, 24, 25, 26, 27, 28, 29, 30, 31, 32, 33, 34, 35, 36, 37, 38, 39, 40, 41, 42, 43, 44, 45, 46, 47, 48, 49] rfl (by decide +kernel)) (goodIn_sub (fun _ h => List.mem_cons_of_mem _ (List.mem_append_right _ h)) (by decide +kernel))
set_option maxRecDepth 20000 in
theorem gL_save_X8_save : GoodIn wsL_save (wsV RL 115 RX8 yX8_save wsX8_save) := goodIn_app (goodIn_r _ [2, 3, 4, 5] rfl (by decide +kernel)) ggL_save_X8_save
theorem dL_save_0 : decode cL_save 0 = .ok (.aload_n 2, 1) := by decide +kernel
theorem dL_save_1 : decode cL_save 1 = .ok (.iconst 0, 1) := by decide +kernel
theorem dL_save_2 : decode cL_save 2 = .ok (.aload_n 0, 1) := by decide +kernel
theorem dL_save_3 : decode cL_save 3 = .ok (.iload_n 1, 1) := by decide +kernel
theorem dL_save_4 : decode cL_save 4 = .ok (.invokevirtual 115, 3) := by decide +kernel
theorem dL_save_7 : decode cL_save 7 = .ok (.ifCond .eq 7, 3) := by decide +kernel
theorem dL_save_10 : decode cL_save 10 = .ok (.lconst 1, 1) := by decide +kernel
theorem dL_save_11 : decode cL_save 11 = .ok (.goto 4, 3) := by decide +kernel
theorem dL_save_14 : decode cL_save 14 = .ok (.lconst 0, 1) := by decide +kernel
theorem dL_save_15 : decode cL_save 15 = .ok (.lastore, 1) := by decide +kernel
theorem dL_save_16 : decode cL_save 16 = .ok (.goto 6, 3) := by decide +kernel
theorem dL_save_19 : decode cL_save 19 = .ok (.astore_n 3, 1) := by decide +kernel
theorem dL_save_20 : decode cL_save 20 = .ok (.iconst 1, 1) := by decide +kernel
theorem dL_save_21 : decode cL_save 21 = .ok (.ireturn, 1) := by decide +kernel
theorem dL_save_22 : decode cL_save 22 = .ok (.iconst 0, 1) := by decide +kernel
theorem dL_save_23 : decode cL_save 23 = .ok (.ireturn, 1) := by decide +kernel
set_option maxRecDepth 20000 in
theorem ggL_restore_X8_restore : GoodIn wsL_restore wsX8_restore := goodIn_ca (goodIn_ca (goodIn_r _ [7, 8, 9, 10, 11, 12, 13, 14, 15, 16, 17, 6, 18, 19, 20, 21, 22, 23, 24, 25, 26, 27, 28, 29, 30, 31, 32, 33, 34, 35, 36, 37, 38, 39, 40, 41, 42, 43, 44, 45, 46, 47, 48, 49, 50, 51, 52, 53, 54, 55, 56, 57, 58, 59, 60, 61, 62, 63] rfl (by decide +kernel)) (goodIn_sub (fun _ h => List.mem_cons_of_mem _ (List.mem_append_left _ (List.mem_append_right _ h))) (by decide +kernel))) (goodIn_sub (fun _ h => List.mem_cons_of_mem _ (List.mem_append_right _ h)) (by decide +kernel))
set_option maxRecDepth 20000 in
theorem gL_restore_X8_restore : GoodIn wsL_restore (wsV RL 118 RX8 yX8_restore wsX8_restore) := goodIn_app (goodIn_r _ [3, 4, 5, 6] rfl (by decide +kernel)) ggL_restore_X8_restore
theorem dL_restore_0 : decode cL_restore 0 = .ok (.aload_n 2, 1) := by decide +kernel
theorem dL_restore_1 : decode cL_restore 1 = .ok (.iconst 0, 1) := by decide +kernel
theorem dL_restore_2 : decode cL_restore 2 = .ok (.aload_n 0, 1) := by decide +kernel
theorem dL_restore_3 : decode cL_restore 3 = .ok (.iload_n 1, 1) := by decide +kernel
theorem dL_restore_4 : decode cL_restore 4 = .ok (.invokevirtual 118, 3) := by decide +kernel
theorem dL_restore_7 : decode cL_restore 7 = .ok (.i2l, 1) := by decide +kernel
theorem dL_restore_8 : decode cL_restore 8 = .ok (.lastore, 1) := by decide +kernel
theorem dL_restore_9 : decode cL_restore 9 = .ok (.goto 9, 3) := by decide +kernel
theorem dL_restore_12 : decode cL_restore 12 = .ok (.astore_n 3, 1) := by decide +kernel
theorem dL_restore_13 : decode cL_restore 13 = .ok (.iconst 1, 1) := by decide +kernel
theorem dL_restore_14 : decode cL_restore 14 = .ok (.ireturn, 1) := by decide +kernel
theorem dL_restore_15 : decode cL_restore 15 = .ok (.astore_n 3, 1) := by decide +kernel
theorem dL_restore_16 : decode cL_restore 16 = .ok (.iconst 2, 1) := by decide +kernel
theorem dL_restore_17 : decode cL_restore 17 = .ok (.ireturn, 1) := by decide +kernel
theorem dL_restore_18 : decode cL_restore 18 = .ok (.iconst 0, 1) := by decide +kernel
theorem dL_restore_19 : decode cL_restore 19 = .ok (.ireturn, 1) := by decide +kernel
set_option maxRecDepth 20000 in
theorem ggL_writeClause_X8_writeClause : GoodIn wsL_writeClause wsX8_writeClause := goodIn_ca (goodIn_r _ [6, 7, 8, 9, 10, 11, 12, 13, 14, 5, 15, 16, 17, 18, 19, 20, 21, 22, 23, 24, 25, 26, 27, 28, 29, 30, 31, 32, 33, 34, 35, 36, 37, 38, 39, 40, 41, 42, 43, 44, 45, 46, 47, 48, 49, 50, 51, 52, 53] rfl (by decide +kernel)) (goodIn_sub (fun _ h => List.mem_cons_of_mem _ (List.mem_append_right _ h)) (by decide +kernel))
set_option maxRecDepth 20000 in
theorem gL_writeClause_X8_writeClause : GoodIn wsL_writeClause (wsV RL 121 RX8 yX8_writeClause wsX8_writeClause) := goodIn_app (goodIn_r _ [2, 3, 4, 5] rfl (by decide +kernel)) ggL_writeClause_X8_writeClause
theorem dL_writeClause_0 : decode cL_writeClause 0 = .ok (.aload_n 2, 1) := by decide +kernel
theorem dL_writeClause_1 : decode cL_writeClause 1 = .ok (.iconst 0, 1) := by decide +kernel
theorem dL_writeClause_2 : decode cL_writeClause 2 = .ok (.aload_n 0, 1) := by decide +kernel
theorem dL_writeClause_3 : decode cL_writeClause 3 = .ok (.iload_n 1, 1) := by decide +kernel
theorem dL_writeClause_4 : decode cL_writeClause 4 = .ok (.invokevirtual 121, 3) := by decide +kernel
theorem dL_writeClause_7 : decode cL_writeClause 7 = .ok (.i2l, 1) := by decide +kernel
theorem dL_writeClause_8 : decode cL_writeClause 8 = .ok (.lastore, 1) := by decide +kernel
theorem dL_writeClause_9 : decode cL_writeClause 9 = .ok (.goto 6, 3) := by decide +kernel
theorem dL_writeClause_12 : decode cL_writeClause 12 = .ok (.astore_n 3, 1) := by decide +kernel
theorem dL_writeClause_13 : decode cL_writeClause 13 = .ok (.iconst 1, 1) := by decide +kernel
theorem dL_writeClause_14 : decode cL_writeClause 14 = .ok (.ireturn, 1) := by decide +kernel
theorem dL_writeClause_15 : decode cL_writeClause 15 = .ok (.iconst 0, 1) := by decide +kernel
theorem dL_writeClause_16 : decode cL_writeClause 16 = .ok (.ireturn, 1) := by decide +kernel
